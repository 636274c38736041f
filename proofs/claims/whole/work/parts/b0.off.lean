/-! grammars that differ in their off terms alone -/
def same6 (M M' : Int → Int) : Prop := ∀ k : Int, (0 ≤ k ∧ k ≤ 3) ∨ 24 ≤ k → M' k = M k
theorem tl6 {M M' : Int → Int} {e : Nat} {lo : Int} (h : same6 M M') (hE : okE M lo e) : (∀ t : Nat, (t : Int) ≤ M (198 + (e : Int)) → tlM M' e t = tlM M e t) ∧ (∀ t : Nat, (t : Int) < M (198 + (e : Int)) → fpM M' e t = fpM M e t) := by
  have a : ∀ t : Nat, (t : Int) ≤ M (198 + (e : Int)) → tlM M' e t = tlM M e t := by
    intro t
    induction t with
    | zero => intro _; exact h _ (by omega)
    | succ t ih =>
      intro ht
      have b := (hE.2.1 t (by omega)).1
      show M' (144 + tlM M' e t) = M (144 + tlM M e t)
      rw [ih (by omega), h _ (by omega)]
  refine ⟨a, fun t ht => ?_⟩
  have b := (hE.2.1 t ht).1
  show M' (120 + tlM M' e t) = M (120 + tlM M e t)
  rw [a t (by omega), h _ (by omega)]
theorem okE6 {M M' : Int → Int} {e : Nat} {lo : Int} (h : same6 M M') (hE : okE M lo e) : okE M' lo e := by
  obtain ⟨tl, fp⟩ := tl6 h hE
  have c := h (198 + (e : Int)) (by omega)
  refine ⟨by rw [c]; exact hE.1, fun t ht => ?_, ?_⟩
  · rw [c] at ht
    rw [tl t (by omega), fp t ht, h 2 (by omega)]
    exact hE.2.1 t ht
  · rw [c, tl _ (by have := hE.1; omega)]
    exact hE.2.2
theorem WF6 {M M' : Int → Int} (h : same6 M M') (w : WF M) (hb : ∀ e : Nat, e < 6 → 0 ≤ M' (6 + (e : Int)) ∧ M' (6 + (e : Int)) < 1024) : WF M' := by
  obtain ⟨w0, w1, w2, w3, w4, w5⟩ := w
  have m0 := h 0 (by omega)
  have m1 := h 1 (by omega)
  have m2 := h 2 (by omega)
  refine ⟨by rw [m0]; exact w0, by rw [m1]; exact w1, by rw [m2]; exact w2, fun p hp => ?_, fun e he => okE6 h (w4 e (by rw [← m0]; exact he)), hb⟩
  rw [m2] at hp
  obtain ⟨a, b, c, d, f, g⟩ := w3 p hp
  unfold okP
  rw [h (24 + (p : Int)) (by omega), h (48 + (p : Int)) (by omega), h (72 + (p : Int)) (by omega), h (96 + (p : Int)) (by omega), m2, m0, h (198 + ((6 + p : Nat) : Int)) (by omega)]
  exact ⟨a, b, c, d, fun s => ⟨(f s).1, (f s).2.1, okE6 h (f s).2.2⟩, g⟩
theorem Ord6 {M M' : Int → Int} {E TE KE : Nat → Prop} {rO rT rK : Nat → Nat} (h : same6 M M') (w : WF M) (o : Ord M E TE KE rO rT rK) : Ord M' E TE KE rO rT rK := by
  obtain ⟨w0, w1, w2, w3, w4, w5⟩ := w
  obtain ⟨o1, o2, o3, o4⟩ := o
  have m0 := h 0 (by omega)
  have m2 := h 2 (by omega)
  refine ⟨fun p hp => ?_, fun e he t ht => ?_, fun p hp => ?_, fun e he t ht => ?_⟩
  · rw [m2] at hp
    obtain ⟨a1, a2, a3, a4, a5, a6⟩ := o1 p hp
    rw [h (24 + (p : Int)) (by omega), h (48 + (p : Int)) (by omega), h (96 + (p : Int)) (by omega), h (198 + ((6 + p : Nat) : Int)) (by omega)]
    refine ⟨a1, a2, fun s t ht => ?_, a4, a5, a6⟩
    rw [(tl6 h ((w3 p hp).2.2.2.2.1 s).2.2).2 t ht]
    exact a3 s t ht
  · rw [m0] at he
    rw [h (198 + (e : Int)) (by omega)] at ht
    rw [(tl6 h (w4 e he)).2 t ht]
    exact o2 e he t ht
  · rw [m2] at hp
    obtain ⟨a1, a2, a3, a4, a5, a6⟩ := o3 p hp
    rw [h (24 + (p : Int)) (by omega), h (48 + (p : Int)) (by omega), h (72 + (p : Int)) (by omega), h (96 + (p : Int)) (by omega), h (198 + ((6 + p : Nat) : Int)) (by omega)]
    refine ⟨a1, fun s t ht => ?_, a3, a4, a5, a6⟩
    rw [(tl6 h ((w3 p hp).2.2.2.2.1 s).2.2).2 t ht]
    exact a2 s t ht
  · rw [m0] at he
    rw [h (198 + (e : Int)) (by omega)] at ht
    rw [(tl6 h (w4 e he)).2 t ht]
    exact o4 e he t ht
theorem OA6 {S : St} {M M' : Int → Int} {rO rT rK : Nat → Nat} {st : Nat} (h : same6 M M') (a : OA S M rO rT rK st) : OA S M' rO rT rK st := by
  unfold OA at a ⊢
  rw [h 0 (by omega), h 2 (by omega)]
  exact a
theorem DP6 {M M' : Int → Int} {d : Nat → Nat} (h : same6 M M') (w : WF M) (a : DP M d) : DP M' d := by
  obtain ⟨w0, w1, w2, w3, w4, w5⟩ := w
  have m0 := h 0 (by omega)
  have m2 := h 2 (by omega)
  refine ⟨fun e t he ht => ?_, fun p hp => ?_⟩
  · rw [m0] at he
    rw [h (198 + (e : Int)) (by omega)] at ht
    rw [(tl6 h (w4 e he)).2 t ht]
    exact a.1 e t he ht
  · rw [m2] at hp
    obtain ⟨a1, a2, a3, a4⟩ := a.2 p hp
    rw [h (24 + (p : Int)) (by omega), h (72 + (p : Int)) (by omega), h (96 + (p : Int)) (by omega), h (198 + ((6 + p : Nat) : Int)) (by omega)]
    refine ⟨a1, fun s => ⟨(a2 s).1, fun t ht => ?_⟩, a3, a4⟩
    rw [(tl6 h ((w3 p hp).2.2.2.2.1 s).2.2).2 t ht]
    exact (a2 s).2 t ht
theorem stp6 {M M' : Int → Int} {p q : Nat} (h : same6 M M') (w : WF M) (hp : (p : Int) < M 2) : stp M' p q ↔ stp M p q := by
  unfold stp
  rw [h (24 + (p : Int)) (by omega), h (72 + (p : Int)) (by omega), h (96 + (p : Int)) (by omega), h (198 + ((6 + p : Nat) : Int)) (by omega)]
  constructor
  · intro x
    rcases x with x | x | ⟨x, t, y, z⟩
    · exact Or.inl x
    · exact Or.inr (Or.inl x)
    · exact Or.inr (Or.inr ⟨x, t, y, by rw [← (tl6 h ((w.2.2.2.1 p hp).2.2.2.2.1 x).2.2).2 t y]; exact z⟩)
  · intro x
    rcases x with x | x | ⟨x, t, y, z⟩
    · exact Or.inl x
    · exact Or.inr (Or.inl x)
    · exact Or.inr (Or.inr ⟨x, t, y, by rw [(tl6 h ((w.2.2.2.1 p hp).2.2.2.2.1 x).2.2).2 t y]; exact z⟩)
theorem HM6 {M M' : Int → Int} {hm : Nat → Nat} (h : same6 M M') (w : WF M) (a : HM M hm) : HM M' hm := by
  have w' := w
  obtain ⟨w0, w1, w2, w3, w4, w5⟩ := w
  have m0 := h 0 (by omega)
  have m2 := h 2 (by omega)
  obtain ⟨a1, a2, a3, a4⟩ := a
  refine ⟨fun p hp s => ?_, fun e t he ht => ?_, fun p q hp hs => ?_, fun q hq => ?_⟩
  · rw [m2] at hp
    rw [h (24 + (p : Int)) (by omega)] at s
    have b := ((w3 p hp).2.2.2.2.2 s).2
    rw [h (72 + (p : Int)) (by omega), h _ (by omega)]
    exact a1 p hp s
  · rw [m0] at he
    rw [h (198 + (e : Int)) (by omega)] at ht
    rw [(tl6 h (w4 e he)).2 t ht]
    exact a2 e t he ht
  · rw [m2] at hp
    exact a3 p q hp ((stp6 h w' hp).mp hs)
  · rw [m2] at hq
    rcases a4 q hq with ⟨x, t, y, z⟩ | ⟨p, x, y⟩
    · left
      rw [m0, h (198 + ((hm q : Nat) : Int)) (by omega)]
      exact ⟨x, t, y, by rw [(tl6 h (w4 (hm q) x)).2 t y]; exact z⟩
    · exact Or.inr ⟨p, x, (stp6 h w' (by omega)).mpr y⟩
theorem GM6 {S T : St} {M M' : Int → Int} (h : same6 M M') (ce : CE M) (g : GM S M) (k : ∀ i, 2 ≤ i → i ≤ 9 → T i = S i) (h10 : ∀ e : Nat, e < 6 → T 10 (e : Int) = M' (6 + (e : Int))) (h10' : ∀ e : Nat, 6 ≤ e → e < 30 → T 10 (e : Int) = 0) : GM T M' := by
  obtain ⟨⟨a1, a2, a3, a4⟩, b, c, d, -, -⟩ := g
  refine ⟨⟨?_, ?_, ?_, ?_⟩, fun p hp => ?_, fun e he => ?_, fun e t he ht => ?_, h10, h10'⟩
  · rw [k 2 (by omega) (by omega), h 1 (by omega)]; exact a1
  · rw [k 2 (by omega) (by omega), h 0 (by omega)]; exact a2
  · rw [k 2 (by omega) (by omega), h 3 (by omega)]; exact a3
  · rw [k 2 (by omega) (by omega), h 2 (by omega)]; exact a4
  · rw [h 2 (by omega)] at hp
    rw [k 3 (by omega) (by omega), k 4 (by omega) (by omega), k 5 (by omega) (by omega), k 6 (by omega) (by omega), h (24 + (p : Int)) (by omega), h (48 + (p : Int)) (by omega), h (72 + (p : Int)) (by omega), h (96 + (p : Int)) (by omega)]
    exact b p hp
  · rw [k 8 (by omega) (by omega), h _ (by omega)]; exact c e he
  · rw [h _ (by omega)] at ht
    rw [k 9 (by omega) (by omega), d e t he ht]
    -- first parts are the same
    rcases ce e he with x | x
    · exact ((tl6 h x).2 t ht).symm
    · omega
theorem CE6 {M M' : Int → Int} (h : same6 M M') (ce : CE M) : CE M' := fun e he => by
  rcases ce e he with x | x
  · exact Or.inl (okE6 h x)
  · exact Or.inr (by rw [h _ (by omega)]; exact x)
