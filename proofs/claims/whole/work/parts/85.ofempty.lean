/-! sequences of what may be empty: found in a kind -/
/-- from a part to the next, to what is in it -/
def stp (M : Int → Int) (p q : Nat) : Prop := ((q : Int) = M (96 + (p : Int))) ∨ ((3 ≤ M (24 + (p : Int)) ∧ M (24 + (p : Int)) ≤ 6) ∧ (q : Int) = M (72 + (p : Int))) ∨ (M (24 + (p : Int)) = 7 ∧ ∃ t : Nat, (t : Int) < M (198 + ((6 + p : Nat) : Int)) ∧ (q : Int) = fpM M (6 + p) t)
def RQ (M : Int → Int) : Nat → Nat → Nat → Prop
  | 0, p, q => p = q
  | n + 1, p, q => ∃ r, stp M p r ∧ RQ M n r q
def badQ (M : Int → Int) (F : Nat → Bool) (q : Nat) : Prop := (3 ≤ M (24 + (q : Int)) ∧ M (24 + (q : Int)) ≤ 6) ∧ F (M (72 + (q : Int))).toNat = true
def fnd (M : Int → Int) (F : Nat → Bool) (p : Nat) : Prop := ∃ n q, RQ M n p q ∧ badQ M F q
theorem fnd_iff {M : Int → Int} {F : Nat → Bool} {p : Nat} : fnd M F p ↔ badQ M F p ∨ ∃ r, stp M p r ∧ fnd M F r := by
  constructor
  · rintro ⟨n, q, a, b⟩
    cases n with
    | zero => cases a; exact Or.inl b
    | succ n =>
      obtain ⟨r, r1, r2⟩ := a
      exact Or.inr ⟨r, r1, n, q, r2, b⟩
  · rintro (b | ⟨r, r1, n, q, r2, b⟩)
    · exact ⟨0, p, rfl, b⟩
    · exact ⟨n + 1, q, ⟨r, r1, r2⟩, b⟩
/-- what stands in a sequence has no next -/
def CN (M : Int → Int) : Prop := ∀ p : Nat, (p : Int) < M 2 → (3 ≤ M (24 + (p : Int)) ∧ M (24 + (p : Int)) ≤ 6) → M (96 + M (72 + (p : Int))) = -1
/-- homes of parts; each part is met from its home -/
def HM (M : Int → Int) (hm : Nat → Nat) : Prop := CN M ∧ (∀ e t : Nat, (e : Int) < M 0 → (t : Int) < M (198 + (e : Int)) → hm (fpM M e t).toNat = e) ∧ (∀ p q : Nat, (p : Int) < M 2 → stp M p q → hm q = hm p) ∧ (∀ q : Nat, (q : Int) < M 2 → (((hm q : Nat) : Int) < M 0 ∧ ∃ t : Nat, (t : Int) < M (198 + ((hm q : Nat) : Int)) ∧ (q : Int) = fpM M (hm q) t) ∨ ∃ p : Nat, p < q ∧ stp M p q)
/-- within the part alone -/
def fs (M : Int → Int) (F : Nat → Bool) (p : Nat) : Prop := badQ M F p ∨ ((3 ≤ M (24 + (p : Int)) ∧ M (24 + (p : Int)) ≤ 6) ∧ fnd M F (M (72 + (p : Int))).toNat) ∨ (M (24 + (p : Int)) = 7 ∧ ∃ t : Nat, (t : Int) < M (198 + ((6 + p : Nat) : Int)) ∧ fnd M F (fpM M (6 + p) t).toNat)
theorem fnd_fs {M : Int → Int} {F : Nat → Bool} {p : Nat} (h : WF M) (hp : (p : Int) < M 2) : fnd M F p ↔ fs M F p ∨ (0 ≤ M (96 + (p : Int)) ∧ fnd M F (M (96 + (p : Int))).toNat) := by
  obtain ⟨h1, h2, h3, h4, h5, h6⟩ := h.2.2.2.1 p hp
  rw [fnd_iff]
  unfold fs stp
  constructor
  · rintro (b | ⟨r, (e | ⟨s, e⟩ | ⟨s, t, t1, e⟩), f⟩)
    · exact Or.inl (Or.inl b)
    · exact Or.inr ⟨by omega, by rw [← e]; exact f⟩
    · exact Or.inl (Or.inr (Or.inl ⟨s, by rw [← e]; exact f⟩))
    · exact Or.inl (Or.inr (Or.inr ⟨s, t, t1, by rw [← e]; exact f⟩))
  · rintro ((b | ⟨s, f⟩ | ⟨s, t, t1, f⟩) | ⟨z, f⟩)
    · exact Or.inl b
    · have := h6 s
      exact Or.inr ⟨_, Or.inr (Or.inl ⟨s, by omega⟩), f⟩
    · have := ((h5 s).2.2.2.1 t t1).2
      exact Or.inr ⟨_, Or.inr (Or.inr ⟨s, t, t1, by omega⟩), f⟩
    · exact Or.inr ⟨_, Or.inl (by omega), f⟩
theorem fs_seq {M : Int → Int} {F : Nat → Bool} {p : Nat} (h : WF M) (hc : CN M) (hp : (p : Int) < M 2) (s : 3 ≤ M (24 + (p : Int)) ∧ M (24 + (p : Int)) ≤ 6) : fs M F p ↔ (F (M (72 + (p : Int))).toNat = true ∨ fs M F (M (72 + (p : Int))).toNat) := by
  have q := (h.2.2.2.1 p hp).2.2.2.2.2 s
  have c := hc p hp s
  have f := fnd_fs (F := F) (p := (M (72 + (p : Int))).toNat) h (by omega)
  rw [show (((M (72 + (p : Int))).toNat : Nat) : Int) = M (72 + (p : Int)) by omega, c] at f
  have f' : fnd M F (M (72 + (p : Int))).toNat ↔ fs M F (M (72 + (p : Int))).toNat := f.trans ⟨fun x => x.elim id (fun y => absurd y.1 (by decide)), Or.inl⟩
  rw [← f']
  constructor
  · rintro (b | ⟨_, b⟩ | ⟨b, _⟩)
    · exact Or.inl b.2
    · exact Or.inr b
    · omega
  · rintro (b | b)
    · exact Or.inl ⟨s, b⟩
    · exact Or.inr (Or.inl ⟨s, b⟩)
theorem fs_not {M : Int → Int} {F : Nat → Bool} {p : Nat} (s : ¬ (3 ≤ M (24 + (p : Int)) ∧ M (24 + (p : Int)) ≤ 6)) : fs M F p ↔ (M (24 + (p : Int)) = 7 ∧ ∃ t : Nat, (t : Int) < M (198 + ((6 + p : Nat) : Int)) ∧ fnd M F (fpM M (6 + p) t).toNat) := by
  unfold fs badQ
  constructor
  · rintro (b | b | b)
    · exact absurd b.1 s
    · exact absurd b.1 s
    · exact b
  · intro b; exact Or.inr (Or.inr b)
def tells (o : Option Int) (P : Prop) : Prop := ∃ r, o = some r ∧ (r = 0 ∨ r = 1) ∧ (r = 1 ↔ P)
theorem ie32 {S : St} {rec : Nat → Int → St → Option Int} {d : Nat → Nat} {v16 v3 : Int} (h : WF (S 84)) (h01 : e01 S) (hc : CN (S 84)) (hd : DP (S 84) d) : ∀ (n f p : Nat), (p : Int) < S 84 2 → 24 - p ≤ n → n < f → (∃ y : Int, fs (S 84) (eb S) p ∧ mX12_isOfEmpty_32 rec S v16 v3 f (p : Int) = some (0, y)) ∨ (∃ y : Nat, (y : Int) < S 84 2 ∧ d p ≤ d y ∧ ¬ (3 ≤ S 84 (24 + (y : Int)) ∧ S 84 (24 + (y : Int)) ≤ 6) ∧ (fs (S 84) (eb S) p ↔ fs (S 84) (eb S) y) ∧ mX12_isOfEmpty_32 rec S v16 v3 f (p : Int) = some (1, (y : Int))) := by
  have hM2 := h.2.2.1
  intro n
  induction n with
  | zero => intro f p a b; omega
  | succ n jh =>
    intro f p a b c
    obtain ⟨f', rfl⟩ : ∃ f', f = f' + 1 := ⟨f - 1, by omega⟩
    obtain ⟨h1, h2, h3, h4, h5, h6⟩ := h.2.2.2.1 p a
    by_cases sq : 3 ≤ S 84 (24 + (p : Int)) ∧ S 84 (24 + (p : Int)) ≤ 6
    · have h6' := h6 sq
      obtain ⟨c', hc'⟩ : ∃ c' : Nat, S 84 (72 + (p : Int)) = (c' : Int) := ⟨(S 84 (72 + (p : Int))).toNat, by omega⟩
      have fq := fs_seq (F := eb S) h hc a sq
      have v := eb_val h01 (x := c') (by omega)
      have un : mX12_isOfEmpty_32 rec S v16 v3 (f' + 1) (p : Int) = if S 89 (c' : Int) = 0 then mX12_isOfEmpty_32 rec S v16 v3 f' (c' : Int) else some (0, (c' : Int)) := by
        rw [mX12_isOfEmpty_32, gd_t (by omega), gd_t (by omega), e_in (by omega) (by decide) (by decide), if_pos sq]
        rw [bd1_e rfl, gd_t (by decide), if_neg (by decide), gd_t (by omega), nx_e, hc', gd_t (by omega), gd_t (by rw [v]; split <;> decide)]
      rw [un, v]
      rw [hc', show ((c' : Int)).toNat = c' from rfl] at fq
      cases hb : eb S c' with
      | true =>
        rw [hb] at fq
        exact Or.inl ⟨(c' : Int), fq.mpr (Or.inl rfl), by rw [if_pos rfl, if_neg (by decide)]⟩
      | false =>
        rw [hb] at fq
        have fq' : fs (S 84) (eb S) p ↔ fs (S 84) (eb S) c' := fq.trans ⟨fun x => x.elim (fun y => by cases y) id, Or.inr⟩
        rw [if_neg (show ¬ (false = true) by decide), if_pos rfl]
        rcases jh f' c' (by omega) (by omega) (by omega) with ⟨y, y1, y2⟩ | ⟨y, y1, y2, y3, y4, y5⟩
        · exact Or.inl ⟨y, fq'.mpr y1, y2⟩
        · refine Or.inr ⟨y, y1, ?_, y3, fq'.trans y4, y5⟩
          have := ((hd.2 p a).2.2.1 sq).2
          rw [hc', show ((c' : Int)).toNat = c' from rfl] at this
          omega
    · refine Or.inr ⟨p, a, Nat.le_refl _, sq, Iff.rfl, ?_⟩
      rw [mX12_isOfEmpty_32, gd_t (by omega), gd_t (by omega), e_in (by omega) (by decide) (by decide), if_neg sq]
      rw [bd1_e rfl, gd_t (by decide), if_pos rfl]
theorem ie25 {S : St} {rec : Nat → Int → St → Option Int} {d : Nat → Nat} {v3 : Int} {L : Nat} (h : WF (S 84)) (h01 : e01 S) (hc : CN (S 84)) (hd : DP (S 84) d) (hr : ∀ y : Nat, (y : Int) < S 84 2 → L ≤ d y → S 84 (24 + (y : Int)) = 7 → tells (rec 0 ((6 + y : Nat) : Int) S) (∃ t : Nat, (t : Int) < S 84 (198 + ((6 + y : Nat) : Int)) ∧ fnd (S 84) (eb S) (fpM (S 84) (6 + y) t).toNat)) : ∀ (n f : Nat) (q : Int), okq (S 84) q → 24 - q ≤ n ∨ q < 0 → n < f → (0 ≤ q → d q.toNat = L) → ∃ r : Nat, mX12_isOfEmpty_25 rec S v3 f q = some (r : Int) ∧ r ≤ 2 ∧ (r ≠ 2 ↔ 0 ≤ q ∧ fnd (S 84) (eb S) q.toNat) := by
  have hM2 := h.2.2.1
  intro n
  induction n with
  | zero =>
    intro f q hq hn hf hl
    obtain ⟨g, rfl⟩ : ∃ g, f = g + 1 := ⟨f - 1, by omega⟩
    unfold okq at hq
    refine ⟨2, ?_, by omega, ⟨fun x => absurd rfl x, fun x => by omega⟩⟩
    rw [mX12_isOfEmpty_25, gd_t (by omega), if_pos (by omega)]; rfl
  | succ n ih =>
    intro f q hq hn hf hl
    obtain ⟨g, rfl⟩ : ∃ g, f = g + 1 := ⟨f - 1, by omega⟩
    have hq0 := hq
    unfold okq at hq
    by_cases z : q < 0
    · refine ⟨2, ?_, by omega, ⟨fun x => absurd rfl x, fun x => by omega⟩⟩
      rw [mX12_isOfEmpty_25, gd_t (by omega), if_pos (by omega)]; rfl
    obtain ⟨p, rfl⟩ := Int.eq_ofNat_of_zero_le (show 0 ≤ q by omega)
    have lv := hl (by omega)
    rw [show ((p : Int)).toNat = p from rfl] at lv ⊢
    have o := (h.2.2.2.1 p (by omega)).2.1
    have ff := fnd_fs (F := eb S) (p := p) h (by omega)
    have nx' : ∃ r : Nat, mX12_isOfEmpty_25 rec S v3 g (S 84 (96 + (p : Int))) = some (r : Int) ∧ r ≤ 2 ∧ (r ≠ 2 ↔ 0 ≤ S 84 (96 + (p : Int)) ∧ fnd (S 84) (eb S) (S 84 (96 + (p : Int))).toNat) := ih g _ (okq_next h hq0 (by omega)) (by omega) (by omega) (fun x => by rw [(hd.2 p (by omega)).2.2.2 x]; exact lv)
    have goOn : ¬ fs (S 84) (eb S) p → ∃ r : Nat, (gd (0 ≤ (96 + (p : Int)) ∧ (96 + (p : Int)) < 228) <| nx (S 84 (96 + (p : Int))) fun x_41 => mX12_isOfEmpty_25 rec S v3 g x_41) = some (r : Int) ∧ r ≤ 2 ∧ (r ≠ 2 ↔ 0 ≤ (p : Int) ∧ fnd (S 84) (eb S) p) := fun nf => by
      obtain ⟨r, r1, r2, r3⟩ := nx'
      refine ⟨r, by rw [gd_t (by omega), nx_e, r1], r2, r3.trans ⟨fun x => ⟨by omega, ff.mpr (Or.inr x)⟩, fun x => (ff.mp x.2).elim (fun y => absurd y nf) id⟩⟩
    rw [mX12_isOfEmpty_25, gd_t (by omega), if_neg z]
    rcases ie32 (rec := rec) (v16 := (p : Int)) (v3 := v3) h h01 hc hd 24 FU p (by omega) (by omega) (by unfold FU; omega) with ⟨y, y1, y2⟩ | ⟨y, y1, y2, y3, y4, y5⟩
    · refine ⟨0, ?_, by omega, ⟨fun _ => ⟨by omega, ff.mpr (Or.inl y1)⟩, fun _ => by omega⟩⟩
      rw [bd2_e y2, if_pos rfl]; rfl
    · obtain ⟨h1, h2, h3, h4, h5, h6⟩ := h.2.2.2.1 y y1
      have fy := fs_not (F := eb S) y3
      rw [bd2_e y5, if_neg (by decide), gd_t (by omega)]
      by_cases s7 : S 84 (24 + (y : Int)) = 7
      · obtain ⟨r, r1, r2, r3⟩ := hr y y1 (by omega) s7
        have q1 := (h5 s7).1
        have mid : ∀ w : Nat, (w = if r = 0 then 1 else 0) → (gd (inI (S 84 (24 + (y : Int)))) <| if (S 84 (24 + (y : Int))) = 7 then (gd (0 ≤ (48 + (y : Int)) ∧ (48 + (y : Int)) < 228) <| bd1 (rec 0 (S 84 (48 + (y : Int))) S) fun r_46 => gd (inI r_46) <| if r_46 = 0 then (some (1 : Nat)) else (some (0))) else (some (1))) = some w := fun w hw => by
          rw [gd_t (by omega), if_pos s7, gd_t (by omega), q1, show (6 : Int) + (y : Int) = ((6 + y : Nat) : Int) by omega, bd1_e r1, gd_t (by omega), hw]
          split <;> rfl
        rcases r2 with r2 | r2
        · rw [bd1_e (mid 1 (by rw [if_pos r2])), if_neg (by decide)]
          exact goOn (fun nf => by
            have := r3.mpr ((fy.mp (y4.mp nf)).2)
            omega)
        · rw [bd1_e (mid 0 (by rw [if_neg (by omega)])), if_pos rfl]
          exact ⟨1, rfl, by omega, ⟨fun _ => ⟨by omega, ff.mpr (Or.inl (y4.mpr (fy.mpr ⟨s7, r3.mp r2⟩)))⟩, fun _ => by omega⟩⟩
      · rw [bd1_e (show (gd (inI (S 84 (24 + (y : Int)))) <| if (S 84 (24 + (y : Int))) = 7 then (gd (0 ≤ (48 + (y : Int)) ∧ (48 + (y : Int)) < 228) <| bd1 (rec 0 (S 84 (48 + (y : Int))) S) fun r_46 => gd (inI r_46) <| if r_46 = 0 then (some (1 : Nat)) else (some (0))) else (some (1))) = some 1 by rw [gd_t (by omega), if_neg s7]), if_neg (by decide)]
        exact goOn (fun nf => s7 (fy.mp (y4.mp nf)).1)
theorem ie11 {S : St} {rec : Nat → Int → St → Option Int} {d : Nat → Nat} {L e : Nat} {lo : Int} (h : WF (S 84)) (h01 : e01 S) (hc : CN (S 84)) (hd : DP (S 84) d) (he : e < 30) (hlo : 0 ≤ lo) (hE : okE (S 84) lo e) (hl : ∀ t : Nat, (t : Int) < S 84 (198 + (e : Int)) → d (fpM (S 84) e t).toNat = L) (hr : ∀ y : Nat, (y : Int) < S 84 2 → L ≤ d y → S 84 (24 + (y : Int)) = 7 → tells (rec 0 ((6 + y : Nat) : Int) S) (∃ t : Nat, (t : Int) < S 84 (198 + ((6 + y : Nat) : Int)) ∧ fnd (S 84) (eb S) (fpM (S 84) (6 + y) t).toNat)) : tells (bX12_isOfEmpty rec S (e : Int)) (∃ t : Nat, (t : Int) < S 84 (198 + (e : Int)) ∧ fnd (S 84) (eb S) (fpM (S 84) e t).toNat) := by
  have hm := hE.1
  have key : ∀ k t f : Nat, (t : Int) + k = S 84 (198 + (e : Int)) → k < f → ∃ r : Nat, mX12_isOfEmpty_11 rec S f (tlM (S 84) e t) = some (r : Int) ∧ r ≤ 2 ∧ (r ≠ 2 ↔ ∃ t' : Nat, t ≤ t' ∧ (t' : Int) < S 84 (198 + (e : Int)) ∧ fnd (S 84) (eb S) (fpM (S 84) e t').toNat) := by
    intro k
    induction k with
    | zero =>
      intro t f ht hf
      obtain ⟨g, rfl⟩ : ∃ g, f = g + 1 := ⟨f - 1, by omega⟩
      have e1 : t = (S 84 (198 + (e : Int))).toNat := by omega
      have e2 := hE.2.2
      rw [← e1] at e2
      refine ⟨2, ?_, by omega, ⟨fun x => absurd rfl x, fun ⟨t', a, b, _⟩ => by omega⟩⟩
      rw [mX12_isOfEmpty_11, e2, gd_t (by decide), if_pos (by decide)]; rfl
    | succ k ih =>
      intro t f ht hf
      obtain ⟨g, rfl⟩ : ∃ g, f = g + 1 := ⟨f - 1, by omega⟩
      have q := hE.2.1 t (by omega)
      obtain ⟨r, r1, r2, r3⟩ := ie25 (v3 := tlM (S 84) e t) (L := L) h h01 hc hd hr 24 FU (fpM (S 84) e t) (Or.inr ⟨by omega, q.2.2⟩) (by omega) (by unfold FU; omega) (fun _ => hl t (by omega))
      have un : mX12_isOfEmpty_11 rec S (g + 1) (tlM (S 84) e t) = if (r : Int) = 0 then some 0 else if (r : Int) = 1 then some 1 else mX12_isOfEmpty_11 rec S g (tlM (S 84) e (t + 1)) := by
        have r1' : mX12_isOfEmpty_25 rec S (tlM (S 84) e t) FU (S 84 (120 + tlM (S 84) e t)) = some (r : Int) := r1
        rw [mX12_isOfEmpty_11, gd_t (by omega), if_neg (by omega), gd_t (by omega), nx_e, bd1_e r1', gd_t (by omega), nx_e]
        rfl
      rw [un]
      by_cases c2 : r = 2
      · subst c2
        have nf : ¬ fnd (S 84) (eb S) (fpM (S 84) e t).toNat := fun x => (r3.mpr ⟨by omega, x⟩) rfl
        rw [if_neg (by decide), if_neg (by decide)]
        obtain ⟨u, u1, u2, u3⟩ := ih (t + 1) g (by omega) (by omega)
        refine ⟨u, u1, u2, u3.trans ⟨fun ⟨t', a, b, c⟩ => ⟨t', by omega, b, c⟩, fun ⟨t', a, b, c⟩ => ⟨t', ?_, b, c⟩⟩⟩
        by_cases w : t' = t
        · subst w; exact absurd c nf
        · omega
      · have yes : ∃ t' : Nat, t ≤ t' ∧ (t' : Int) < S 84 (198 + (e : Int)) ∧ fnd (S 84) (eb S) (fpM (S 84) e t').toNat := ⟨t, Nat.le_refl _, by omega, (r3.mp c2).2⟩
        by_cases c0 : r = 0
        · exact ⟨0, by rw [if_pos (by omega)]; rfl, by omega, ⟨fun _ => yes, fun _ => by omega⟩⟩
        · exact ⟨1, by rw [if_neg (by omega), if_pos (by omega)]; rfl, by omega, ⟨fun _ => yes, fun _ => by omega⟩⟩
  obtain ⟨r, r1, r2, r3⟩ := key (S 84 (198 + (e : Int))).toNat 0 FU (by omega) (by unfold FU; omega)
  have r1' : mX12_isOfEmpty_11 rec S FU (S 84 (168 + (e : Int))) = some (r : Int) := r1
  have r3' : r ≠ 2 ↔ ∃ t : Nat, (t : Int) < S 84 (198 + (e : Int)) ∧ fnd (S 84) (eb S) (fpM (S 84) e t).toNat := r3.trans ⟨fun ⟨t, _, b⟩ => ⟨t, b⟩, fun ⟨t, b⟩ => ⟨t, Nat.zero_le _, b⟩⟩
  refine ⟨if r = 2 then 0 else 1, ?_, by split <;> omega, ?_⟩
  · unfold bX12_isOfEmpty
    rw [gd_t (by omega), nx_e, bd1_e r1']
    by_cases c2 : r = 2
    · rw [if_pos c2, if_neg (by omega), if_neg (by omega)]
    · rw [if_neg c2]
      by_cases c0 : r = 0
      · rw [if_pos (by omega)]
      · rw [if_neg (by omega), if_pos (by omega)]
  · rw [← r3']
    by_cases c2 : r = 2
    · rw [if_pos c2]; exact ⟨fun x => by omega, fun x => absurd c2 x⟩
    · rw [if_neg c2]; exact ⟨fun _ => c2, fun _ => rfl⟩
theorem ieR {S : St} {d : Nat → Nat} (h : WF (S 84)) (h01 : e01 S) (hc : CN (S 84)) (hd : DP (S 84) d) : ∀ (k f y : Nat), (y : Int) < S 84 2 → 6 - d y ≤ k → k ≤ f → S 84 (24 + (y : Int)) = 7 → tells (RX12_isOfEmpty f 0 ((6 + y : Nat) : Int) S) (∃ t : Nat, (t : Int) < S 84 (198 + ((6 + y : Nat) : Int)) ∧ fnd (S 84) (eb S) (fpM (S 84) (6 + y) t).toNat) := by
  have hM2 := h.2.2.1
  intro k
  induction k with
  | zero =>
    intro f y hy hk hf s7
    have := ((hd.2 y hy).2.1 s7).1
    omega
  | succ k ih =>
    intro f y hy hk hf s7
    obtain ⟨g, rfl⟩ : ∃ g, f = g + 1 := ⟨f - 1, by omega⟩
    obtain ⟨z1, z2⟩ := (hd.2 y hy).2.1 s7
    have q3 := ((h.2.2.2.1 y hy).2.2.2.2.1 s7).2.2
    show tells (if (0 : Nat) = 0 then bX12_isOfEmpty (RX12_isOfEmpty g) S ((6 + y : Nat) : Int) else _) _
    rw [if_pos rfl]
    exact ie11 (L := d y + 1) h h01 hc hd (by omega) (by omega) q3 z2 (fun y' a b c => ih g y' a (by omega) (by omega) c)
theorem e_isOfEmpty {S : St} {d : Nat → Nat} {e : Nat} (h : WF (S 84)) (h01 : e01 S) (hc : CN (S 84)) (hd : DP (S 84) d) (he : (e : Int) < S 84 0) : tells (mX12_isOfEmpty S (e : Int)) (∃ t : Nat, (t : Int) < S 84 (198 + (e : Int)) ∧ fnd (S 84) (eb S) (fpM (S 84) e t).toNat) := by
  have hM0 := h.1
  unfold mX12_isOfEmpty
  show tells (if (0 : Nat) = 0 then bX12_isOfEmpty (RX12_isOfEmpty 15) S (e : Int) else _) _
  rw [if_pos rfl]
  exact ie11 (L := 0) h h01 hc hd (by omega) (by omega) (h.2.2.2.2.1 e he) (fun t ht => hd.1 e t he ht) (fun y' a b c => ieR h h01 hc hd 6 15 y' a (by omega) (by omega) c)
/-- by homes -/
theorem fnd_home {M : Int → Int} {F : Nat → Bool} {hm : Nat → Nat} (h : WF M) (hh : HM M hm) {e : Nat} (he : (e : Int) < M 0) : (∃ t : Nat, (t : Int) < M (198 + (e : Int)) ∧ fnd M F (fpM M e t).toNat) ↔ ∃ q : Nat, (q : Int) < M 2 ∧ hm q = e ∧ badQ M F q := by
  obtain ⟨hc, a1, a2, a3⟩ := hh
  have step : ∀ p q : Nat, (p : Int) < M 2 → stp M p q → (q : Int) < M 2 := fun p q hp hs => by
    obtain ⟨h1, h2, h3, h4, h5, h6⟩ := h.2.2.2.1 p hp
    rcases hs with e | ⟨s, e⟩ | ⟨s, t, t1, e⟩
    · omega
    · have := h6 s; omega
    · have := ((h5 s).2.2.2.1 t t1).2.2; omega
  have down : ∀ n p q : Nat, (p : Int) < M 2 → RQ M n p q → (q : Int) < M 2 ∧ hm q = hm p := by
    intro n
    induction n with
    | zero => intro p q hp hr; cases hr; exact ⟨hp, rfl⟩
    | succ n ih =>
      intro p q hp hr
      obtain ⟨r, r1, r2⟩ := hr
      obtain ⟨x, y⟩ := ih r q (step p r hp r1) r2
      exact ⟨x, by rw [y, a2 p r hp r1]⟩
  constructor
  · rintro ⟨t, t1, n, q, r, b⟩
    have o := ((h.2.2.2.2.1 e he).2.1 t t1).2
    obtain ⟨x, y⟩ := down n _ q (by omega) r
    exact ⟨q, x, by rw [y, a1 e t he t1], b⟩
  · have up : ∀ N q : Nat, q ≤ N → (q : Int) < M 2 → hm q = e → fnd M F q → ∃ t : Nat, (t : Int) < M (198 + (e : Int)) ∧ fnd M F (fpM M e t).toNat := by
      intro N
      induction N with
      | zero =>
        intro q hN hq hm' hf
        rcases a3 q hq with ⟨_, t, t1, t2⟩ | ⟨p, p1, _⟩
        · rw [hm'] at t1 t2
          exact ⟨t, t1, by rw [← t2]; exact hf⟩
        · omega
      | succ N ih =>
        intro q hN hq hm' hf
        rcases a3 q hq with ⟨_, t, t1, t2⟩ | ⟨p, p1, p2⟩
        · rw [hm'] at t1 t2
          exact ⟨t, t1, by rw [← t2]; exact hf⟩
        · exact ih p (by omega) (by omega) (by rw [← a2 p q (by omega) p2]; exact hm') (fnd_iff.mpr (Or.inr ⟨q, p2, hf⟩))
    rintro ⟨q, q1, q2, q3⟩
    exact up q q (Nat.le_refl _) q1 q2 ⟨0, q, rfl, q3⟩
