/-! the class reads a text: its state, its leaves -/
abbrev KRd (S T : St) : Prop := kept [68, 69, 70, 71, 72] [(67, 4), (67, 5), (67, 6), (67, 8), (67, 10), (67, 12)] S T
/-- L signs, the place, the size, so many wait, starts, open ones -/
def CRs (S : St) (L a z t sc oc : Nat) : Prop := ((S 67 3 = (L : Int) ∧ S 67 4 = (a : Int)) ∧ S 67 5 = (z : Int) ∧ S 67 6 = 1 ∧ S 67 8 = (t : Int) ∧ S 67 10 = (sc : Int) ∧ S 67 12 = (oc : Int)) ∧ (a ≤ L ∧ L ≤ 40 ∧ z ≤ 7 ∧ t ≤ 40 ∧ sc ≤ a ∧ oc ≤ a) ∧ ∀ i : Nat, i < 40 → -128 ≤ S 68 (i : Int) ∧ S 68 (i : Int) ≤ 127
def txA (S : St) (a : Nat) (w : List Int) : Prop := ∀ (i : Nat) (x : Int), w[i]? = some x → S 68 ((a + i : Nat) : Int) = x
theorem txA.nil {S : St} {a : Nat} : txA S a [] := fun i x h => by cases h
theorem txA.hd {S : St} {a : Nat} {x : Int} {w : List Int} (h : txA S a (x :: w)) : S 68 (a : Int) = x := h 0 x rfl
theorem txA.tl {S : St} {a : Nat} {x : Int} {w : List Int} (h : txA S a (x :: w)) : txA S (a + 1) w := fun i y hy => by
  have := h (i + 1) y hy
  rw [show a + 1 + i = a + (i + 1) by omega]
  exact this
theorem txA.app {S : St} {a : Nat} {u w : List Int} : txA S a (u ++ w) ↔ txA S a u ∧ txA S (a + u.length) w := by
  constructor
  · intro h
    refine ⟨fun i x hx => h i x ?_, fun i x hx => ?_⟩
    · rw [List.getElem?_append_left (List.getElem?_eq_some_iff.mp hx).1]; exact hx
    · have := h (u.length + i) x (by rw [List.getElem?_append_right (by omega), show u.length + i - u.length = i by omega]; exact hx)
      rw [show a + u.length + i = a + (u.length + i) by omega]
      exact this
  · rintro ⟨h1, h2⟩ i x hx
    by_cases c : i < u.length
    · rw [List.getElem?_append_left c] at hx; exact h1 i x hx
    · rw [List.getElem?_append_right (by omega)] at hx
      have := h2 (i - u.length) x hx
      rw [show a + u.length + (i - u.length) = a + i by omega] at this
      exact this
theorem txA.of {S T : St} {a : Nat} {w : List Int} (h : txA S a w) (k : ∀ i : Nat, a ≤ i → i < a + w.length → T 68 (i : Int) = S 68 (i : Int)) : txA T a w := fun i x hx => by
  have l := (List.getElem?_eq_some_iff.mp hx).1
  rw [k (a + i) (by omega) (by omega)]
  exact h i x hx
theorem e_peek {S : St} {L a z t sc oc : Nat} {w : List Int} (h : CRs S L a z t sc oc) (hw : txA S a w) (hl : a + w.length = L) : mX10_peek S = some (w.headD 0) := by
  obtain ⟨⟨⟨h1, h2⟩, -⟩, ⟨b1, b2, -⟩, -⟩ := h
  unfold mX10_peek
  rw [h1, h2, gd_t (by omega)]
  cases w with
  | nil => rw [if_pos (by have : a + 0 = L := hl; omega)]; rfl
  | cons x w =>
    rw [List.length_cons] at hl
    rw [if_neg (by omega), gd_t (by omega), hw.hd]; rfl
theorem e_mayAwait {S : St} {L a z t sc oc k : Nat} (h : CRs S L a z t sc oc) (hk : k ≤ 40) : mX10_mayAwait S (k : Int) = if t + k + a ≤ L then some (1, S) else some (0, up S 67 6 0) := by
  obtain ⟨⟨⟨h1, h2⟩, h3, h4, h5, h6, h7⟩, ⟨b1, b2, b3, b4, b5, b6⟩, -⟩ := h
  unfold mX10_mayAwait
  rw [h1, h2, h5, gd_t (by omega)]
  by_cases c : t + k + a ≤ L
  · rw [if_pos (by omega), h4, gd_t (by decide), if_pos c]
  · rw [if_neg (by omega), if_neg c, nx_e, up_eq, gd_t (by decide)]
/-- a state in which something is wrong -/
def BDs (S T : St) : Prop := T 67 6 = 0 ∧ KRd S T
theorem BDs.tr {S T U : St} (h : KRd S T) (k : BDs T U) : BDs S U := ⟨k.1, h.trans k.2⟩
theorem bd0 {S : St} : BDs S (up S 67 6 0) := ⟨up_eq, kept.rf.upF (by decide)⟩
theorem e_take {S : St} {L a z t sc oc : Nat} {w : List Int} {c : Int} (h : CRs S L a z t sc oc) (hw : txA S a w) (hl : a + w.length = L) (hc : 1 ≤ c ∧ c ≤ 127) : (∃ r, w = c :: r ∧ mX10_take S c = some (up S 67 4 ((a : Int) + 1))) ∨ ((∀ r, w ≠ c :: r) ∧ mX10_take S c = some (up S 67 6 0)) := by
  have p := e_peek h hw hl
  have h2 := h.1.1.2
  cases w with
  | nil =>
    refine Or.inr ⟨fun r e => (by cases e), ?_⟩
    unfold mX10_take
    rw [bd1_e p, gd_t ⟨show inI (0 : Int) by decide, by omega⟩]
    rw [if_neg (by show ¬ (0 : Int) = c; omega)]
    rfl
  | cons x w =>
    have ix : inI x := by
      have b := h.2.2 a (by have := h.2.1; rw [List.length_cons] at hl; omega)
      rw [hw.hd] at b
      omega
    unfold mX10_take
    rw [bd1_e p]
    show (∃ r, x :: w = c :: r ∧ gd (inI x ∧ inI c) _ = _) ∨ _ ∧ gd (inI x ∧ inI c) _ = _
    rw [gd_t ⟨ix, by omega⟩]
    by_cases e : x = c
    · refine Or.inl ⟨w, by rw [e], ?_⟩
      rw [if_pos (show (x :: w).headD 0 = c from e), nx_e, h2]
    · refine Or.inr ⟨fun r q => e (List.cons.inj q).1, ?_⟩
      rw [if_neg (show ¬ (x :: w).headD 0 = c from e), nx_e]
/-! chains, as they are laid -/
theorem itN_chn {M : Int → Int} (w : WF M) : ∀ (f p : Nat), (p : Int) < M 2 → 24 ≤ p + f → ∀ k q : Nat, itN M k (p : Int) = (q : Int) → k < chn M f (p : Int) := by
  have hM2 := w.2.2.1
  intro f
  induction f with
  | zero => intro p hp hf; omega
  | succ f ih =>
    intro p hp hf k q h
    rw [chn_s]
    cases k with
    | zero => omega
    | succ k =>
      rw [itN_sh k _ (by omega)] at h
      rcases (w.2.2.2.1 p hp).2.1 with z | z
      · rw [z] at h
        have nn : ∀ j : Nat, itN M j (-1) = -1 := by
          intro j
          induction j with
          | zero => rfl
          | succ j jh =>
            show (if itN M j (-1) < 0 then -1 else M (96 + itN M j (-1))) = -1
            rw [jh]; rfl
        rw [nn] at h; omega
      · obtain ⟨p', hp'⟩ : ∃ p' : Nat, M (96 + (p : Int)) = (p' : Int) := ⟨(M (96 + (p : Int))).toNat, by omega⟩
        rw [hp'] at h z ⊢
        have := ih p' (by omega) (by omega) k q h
        omega
theorem chn_1 {M : Int → Int} {f p : Nat} : 1 ≤ chn M (f + 1) (p : Int) := by rw [chn_s]; omega
theorem e_re81 {S : St} {M : Int → Int} {a y : Int} (w : WF M) (g : GM S M) : ∀ (d f p k : Nat), 24 ≤ p + d → (p : Int) < M 2 → k ≤ p → d < f → mX10_readExpr_81 S a y f (p : Int) (k : Int) = some ((k + chn M d (p : Int) : Nat) : Int) ∧ k + chn M d (p : Int) ≤ 24 := by
  have hM2 := w.2.2.1
  intro d
  induction d with
  | zero => intro f p k hd hp hk hf; omega
  | succ d ih =>
    intro f p k hd hp hk hf
    obtain ⟨f, rfl⟩ : ∃ f', f = f' + 1 := ⟨f - 1, by omega⟩
    have ok := (w.2.2.2.1 p hp).2.1
    have g6 := (g.2.1 p hp).2.1
    rw [chn_s, mX10_readExpr_81, gd_t (by omega), if_neg (by omega), gd_t (by omega), if_neg (by omega), gd_t (by omega), nx_e, g6]
    rcases ok with q | q
    · rw [q, chn_n (by decide)]
      obtain ⟨f, rfl⟩ : ∃ f', f = f' + 1 := ⟨f - 1, by omega⟩
      refine ⟨?_, by omega⟩
      rw [mX10_readExpr_81, gd_t (by decide), if_pos rfl]
      exact congrArg some (by omega)
    · obtain ⟨p', hp'⟩ : ∃ p' : Nat, M (96 + (p : Int)) = (p' : Int) := ⟨(M (96 + (p : Int))).toNat, by omega⟩
      rw [hp'] at q ⊢
      obtain ⟨i1, i2⟩ := ih f p' (k + 1) (by omega) (by omega) (by omega) (by omega)
      rw [show ((k + 1 : Nat) : Int) = (k : Int) + 1 by omega] at i1
      refine ⟨?_, by omega⟩
      rw [i1]
      exact congrArg some (by omega)
theorem e_re136 {M : Int → Int} {y : Int} {t : Nat} (w : WF M) : ∀ (d f p m : Nat) (S : St), GM S M → 24 ≤ p + d → (p : Int) < M 2 → chn M d (p : Int) = m → t + m ≤ 40 → d < f → S 67 8 = (t : Int) → ∃ T, mX10_readExpr_136 y f ((m : Int) - 1) (p : Int) S = some T ∧ kept [70] [] S T ∧ (∀ k q : Nat, itN M k (p : Int) = (q : Int) → T 70 ((t + m - 1 - k : Nat) : Int) = (q : Int)) ∧ ∀ j : Int, (j < (t : Int) ∨ (t : Int) + (m : Int) ≤ j) → T 70 j = S 70 j := by
  have hM2 := w.2.2.1
  intro d
  induction d with
  | zero => intro f p m S g hd hp; omega
  | succ d ih =>
    intro f p m S g hd hp hm ht hf h8
    obtain ⟨f, rfl⟩ : ∃ f', f = f' + 1 := ⟨f - 1, by omega⟩
    have ok := (w.2.2.2.1 p hp).2.1
    have g6 := (g.2.1 p hp).2.1
    rw [chn_s] at hm
    rw [mX10_readExpr_136, gd_t (by omega), if_neg (by omega), gd_t (by omega), if_neg (by omega), h8, gd_t (by omega), nx_e, gd_t (by omega), nx_e]
    rw [show (up S 70 ((t : Int) + ((m : Int) - 1)) (p : Int)) 6 (p : Int) = S 6 (p : Int) from rfl, g6]
    rcases ok with q | q
    · rw [q, chn_n (by decide)] at hm
      obtain ⟨f, rfl⟩ : ∃ f', f = f' + 1 := ⟨f - 1, by omega⟩
      have m1 : m = 1 := by omega
      subst m1
      refine ⟨up S 70 ((t : Int) + (((1 : Nat) : Int) - 1)) (p : Int), ?_, kept.rf.upA (by decide), fun k z hz => ?_, fun j hj => up_nk (by omega)⟩
      · rw [q, mX10_readExpr_136, gd_t (by omega), if_pos (by omega)]
      · cases k with
        | zero =>
          have hz' : (p : Int) = (z : Int) := hz
          rw [show ((t + 1 - 1 - 0 : Nat) : Int) = (t : Int) + (((1 : Nat) : Int) - 1) by omega, up_eq, hz']
        | succ k =>
          have := itN_chn w (d + 1) p hp hd (k + 1) z hz
          rw [chn_s, q, chn_n (by decide)] at this
          omega
    · obtain ⟨p', hp'⟩ : ∃ p' : Nat, M (96 + (p : Int)) = (p' : Int) := ⟨(M (96 + (p : Int))).toNat, by omega⟩
      rw [hp'] at q hm ⊢
      obtain ⟨T, t1, t2, t3, t4⟩ := ih f p' (m - 1) (up S 70 ((t : Int) + ((m : Int) - 1)) (p : Int)) (g.of (fun i a b => up_n (by omega))) (by omega) (by omega) (by omega) (by omega) (by omega) h8
      rw [show ((m - 1 : Nat) : Int) - 1 = (m : Int) - 1 - 1 by omega] at t1
      refine ⟨T, t1, (kept.rf.upA (by decide)).trans t2, fun k z hz => ?_, fun j hj => ?_⟩
      · cases k with
        | zero =>
          have hz' : (p : Int) = (z : Int) := hz
          rw [show ((t + m - 1 - 0 : Nat) : Int) = (t : Int) + ((m : Int) - 1) by omega, t4 _ (by omega), up_eq, hz']
        | succ k =>
          rw [itN_sh k _ (by omega), hp'] at hz
          have := t3 k z hz
          rw [show t + m - 1 - (k + 1) = t + (m - 1) - 1 - k by omega]
          exact this
      · rw [t4 j (by omega), up_nk (by omega)]
