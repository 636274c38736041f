/-! deals -/
def gS (m x : Nat) : Nat := (5 * x + 3) % m
def itS (m : Nat) : Nat → Nat → Nat
  | 0, x => x
  | s + 1, x => itS m s (gS m x)
theorem itS_s {m s x : Nat} : itS m (s + 1) x = itS m s (gS m x) := rfl
def runS (m : Nat) : Nat → Nat → Nat → Nat
  | 0, _, s => s
  | k + 1, x, s => runS m k (gS m x) (s ||| 2 ^ x)
theorem run_all : ∀ b : Nat, b < 11 → runS (2 ^ b) (2 ^ b) 0 0 = 2 ^ (2 ^ b) - 1 ∧ itS (2 ^ b) (2 ^ b) 0 = 0 := by decide +kernel
theorem run_bit {m : Nat} : ∀ k x s y, (runS m k x s).testBit y = true → s.testBit y = true ∨ ∃ i, i < k ∧ itS m i x = y := by
  intro k
  induction k with
  | zero => intro x s y h; exact Or.inl h
  | succ k ih =>
    intro x s y h
    rcases ih (gS m x) (s ||| 2 ^ x) y h with c | ⟨i, i1, i2⟩
    · rw [Nat.testBit_or, Nat.testBit_two_pow, Bool.or_eq_true] at c
      rcases c with c | c
      · exact Or.inl c
      · exact Or.inr ⟨0, by omega, of_decide_eq_true c⟩
    · exact Or.inr ⟨i + 1, by omega, i2⟩
theorem itS_add {m : Nat} : ∀ i j x, itS m (i + j) x = itS m j (itS m i x) := by
  intro i
  induction i with
  | zero => intro j x; rw [Nat.zero_add]; rfl
  | succ i ih => intro j x; rw [show i + 1 + j = (i + j) + 1 by omega, itS_s, ih]; rfl
theorem orbit {b x : Nat} (hb : b < 11) (hx : x < 2 ^ b) : ∃ s, s ≤ 2 ^ b - 1 ∧ itS (2 ^ b) s x = 0 := by
  obtain ⟨r1, r2⟩ := run_all b hb
  have p0 : 0 < (2 : Nat) ^ b := Nat.two_pow_pos b
  have t : (runS (2 ^ b) (2 ^ b) 0 0).testBit x = true := by
    rw [r1, Nat.testBit_two_pow_sub_one]; exact decide_eq_true hx
  rcases run_bit _ _ _ _ t with c | ⟨i, i1, i2⟩
  · rw [Nat.zero_testBit] at c; cases c
  · by_cases z : i = 0
    · subst z
      exact ⟨0, by omega, i2.symm⟩
    · refine ⟨2 ^ b - i, by omega, ?_⟩
      rw [← i2, ← itS_add, show i + (2 ^ b - i) = 2 ^ b by omega]
      exact r2
theorem first_lt {b x k : Nat} (hb : b < 11) (hx : x < 2 ^ b) (hk : 1 ≤ k) : ∃ s, s ≤ 2 ^ b - 1 ∧ itS (2 ^ b) s x < k ∧ ∀ j, j < s → k ≤ itS (2 ^ b) j x := by
  obtain ⟨s, s1, s2⟩ := orbit hb hx
  have key : ∀ n, (∃ j, j < n ∧ itS (2 ^ b) j x < k ∧ ∀ i, i < j → k ≤ itS (2 ^ b) i x) ∨ ∀ j, j < n → k ≤ itS (2 ^ b) j x := by
    intro n
    induction n with
    | zero => exact Or.inr fun j hj => by omega
    | succ n ih =>
      rcases ih with ⟨j, a, c⟩ | ih
      · exact Or.inl ⟨j, by omega, c⟩
      · by_cases z : itS (2 ^ b) n x < k
        · exact Or.inl ⟨n, by omega, z, ih⟩
        · refine Or.inr fun j hj => ?_
          by_cases e : j = n
          · rw [e]; omega
          · exact ih j (by omega)
  rcases key (s + 1) with ⟨j, a, c⟩ | c
  · exact ⟨j, by omega, c⟩
  · have := c s (by omega)
    omega
theorem gS_an {b x : Nat} (hb : b < 11) (hx : x < 2 ^ b) : an (5 * (x : Int) + 3) ((2 ^ b : Nat) - 1 : Int) = ((gS (2 ^ b) x : Nat) : Int) ∧ gS (2 ^ b) x < 2 ^ b := by
  have p0 : 0 < (2 : Nat) ^ b := Nat.two_pow_pos b
  have p : (2 : Nat) ^ b ≤ 2 ^ 10 := Nat.pow_le_pow_right (by omega) (by omega)
  have p' : (2 : Nat) ^ b ≤ 1024 := p
  refine ⟨?_, Nat.mod_lt _ p0⟩
  rw [show 5 * (x : Int) + 3 = ((5 * x + 3 : Nat) : Int) by omega, show ((2 ^ b : Nat) : Int) - 1 = ((2 ^ b - 1 : Nat) : Int) by omega, an_nat (by omega) (by omega), Nat.and_two_pow_sub_one_eq_mod]
  rfl
def DL (S : St) : Prop := (S 83 45 = 0 ∧ S 80 1 = 0) ∨ (S 83 45 = 1 ∧ ∃ e lo hi k b x l : Nat, ((e : Int) < S 84 0 ∧ lo ≤ hi ∧ (hi : Int) ≤ S 84 1 ∧ k = sN (S 84) e (hi + 1 - lo) lo ∧ k ≤ 1000 ∧ b < 11 ∧ x < 2 ^ b ∧ l ≤ k) ∧ (S 80 1 = (l : Int) ∧ S 80 2 = (e : Int) ∧ S 80 3 = (lo : Int) ∧ S 80 4 = (k : Int) ∧ S 80 5 = ((2 ^ b : Nat) : Int) - 1 ∧ S 80 6 = (x : Int)) ∧ S 83 49 = (l : Int) ∧ S 83 46 = (e : Int) ∧ S 83 47 = (lo : Int) ∧ S 83 48 = (k : Int) ∧ S 83 50 = ((2 ^ b : Nat) : Int) ∧ S 83 51 = (x : Int))
theorem DL.of {S T : St} (h : DL S) (a : T 84 = S 84) (b : T 80 = S 80) (c : ∀ k : Int, 45 ≤ k → k ≤ 51 → T 83 k = S 83 k) : DL T := by
  unfold DL at h ⊢
  rw [a, b, c 45 (by omega) (by omega), c 46 (by omega) (by omega), c 47 (by omega) (by omega), c 48 (by omega) (by omega), c 49 (by omega) (by omega), c 50 (by omega) (by omega), c 51 (by omega) (by omega)]
  exact h
theorem Cor.of {S T : St} (h : Cor S) (a : T 84 = S 84) (k : ∀ i, 2 ≤ i → i ≤ 11 → T i = S i) (l : ∀ i, 40 ≤ i → i ≤ 46 → T i = S i) : Cor T := by
  obtain ⟨E, TE, KE, rO, rT, rK, st, w, o, t⟩ := h
  refine ⟨E, TE, KE, rO, rT, rK, st, ?_⟩
  rw [a]
  refine ⟨w, o, ?_⟩
  obtain ⟨⟨t1, t2, t3⟩, t4, t5⟩ := t
  refine ⟨⟨by rw [l 40 (by omega) (by omega)]; exact t1, t2.of (fun i x y => k i x (by omega)), ?_⟩, ?_⟩
  · unfold OA at t3 ⊢
    rw [k 2 (by omega) (by omega), k 11 (by omega) (by omega)]
    exact t3
  · unfold nbG nb rz tb at t4 ⊢
    unfold tb at t5
    rw [l 41 (by omega) (by omega), l 42 (by omega) (by omega), l 43 (by omega) (by omega), l 44 (by omega) (by omega), l 45 (by omega) (by omega), l 46 (by omega) (by omega)]
    exact ⟨t4, t5⟩
theorem s_left {S : St} (h : DL S) : ∃ r : Int, mX11_left S = some r ∧ mX12_left S = some r ∧ inI r := by
  unfold mX11_left mX12_left
  rcases h with ⟨a, b⟩ | ⟨a, e, lo, hi, k, b, x, l, ⟨c1, c2, c3, c4, c5, c6, c7, c8⟩, ⟨d1, d2⟩, f1, f2⟩
  · exact ⟨0, by rw [b], by rw [a, gd_t (by decide), if_pos rfl], by omega⟩
  · exact ⟨(l : Int), by rw [d1], by rw [a, gd_t (by decide), if_neg (by decide), f1], by omega⟩
theorem s_deal {S : St} (h : Cor S) (hD : DL S) {a b c w : Int} (ha : inI a) (hb : inI b) (hc : inI c) (hw : inI w) : ∃ (r : Int) (S1 S2 : St), mX11_deal S a b c w = some (r, S1) ∧ mX12_deal S1 a b c w = some (r, S2) ∧ inI r ∧ kept [80] [] S S1 ∧ kept [80, 90, 91, 92] [(83, 45), (83, 46), (83, 47), (83, 48), (83, 49), (83, 50), (83, 51)] S S2 ∧ DL S2 := by
  have hM1 := h.wf.2.1
  have bo := e_boxy h ha hb hc
  have iw := e_in (v := w) (lo := 0) (hi := 2000000000) (by omega) (by decide) (by decide)
  by_cases hW : 0 ≤ w ∧ w ≤ 2000000000
  · rw [if_pos hW] at iw
    have eF : ∀ (S1 S' : St) (V : Option (Int × St)) (z : Int), mX12_inBox S1 a b c 1000 = some (z, S') → (gd (inI z) <| if (-1) ≤ z then (nx (up S' 83 45 1) fun S_10 => nx (up S_10 83 46 a) fun S_11 => nx (up S_11 83 47 b) fun S_12 => nx (up S_12 83 48 (max 0 z)) fun S_13 => nx (up S_13 83 49 (S_13 83 48)) fun S_14 => gd (inI (S_14 83 48)) <| bd1 (mX12_bitsFor (S_14 83 48)) fun r_17 => nx (up S_14 83 50 (shl 1 r_17)) fun S_18 => gd ((0 ≤ w ∧ w ≤ 2147483647) ∧ (0 < (S_18 83 50) ∧ (S_18 83 50) ≤ 2147483647)) <| nx (up S_18 83 51 (w % (S_18 83 50))) fun S_20 => some ((S_20 83 48), S_20)) else (some (z, S'))) = V → mX12_deal S1 a b c w = V := fun S1 S' V z y1 y2 => by
      unfold mX12_deal
      rw [gd_t hw, bd1_e iw, gd_t (by decide), if_neg (by decide), bd2_e y1, bd2_s]
      exact y2
    have un : ∀ (z : Int) (S' : St), z = -2 ∨ z = -3 → mX12_inBox S a b c 1000 = some (z, S') → kept [90, 91, 92] [] S S' → mX11_deal S a b c w = some (z, S) → ∃ (r : Int) (S1 S2 : St), mX11_deal S a b c w = some (r, S1) ∧ mX12_deal S1 a b c w = some (r, S2) ∧ inI r ∧ kept [80] [] S S1 ∧ kept [80, 90, 91, 92] [(83, 45), (83, 46), (83, 47), (83, 48), (83, 49), (83, 50), (83, 51)] S S2 ∧ DL S2 := fun z S' hz y1 y2 y3 => by
      refine ⟨z, S, S', y3, eF S S' _ z y1 ?_, by omega, kept.rf, y2.mono (by simp) (by simp), hD.of (y2.cell 84 (by decide) (by decide)) (y2.cell 80 (by decide) (by decide)) (fun k _ _ => congrFun (y2.cell 83 (by decide) (by decide)) k)⟩
      rw [gd_t (by omega), if_neg (by omega)]
    by_cases hB : isB (S 84) a b c
    · have bl := bx_le (M := S 84) (e := a.toNat) (lo := b.toNat) (hi := c.toNat)
      rw [if_pos hB] at bo
      generalize hk : bx (S 84) a.toNat b.toNat c.toNat = k at bl
      have bt := c_btw h hB
      rw [hk] at bt
      by_cases y : k ≤ 1000
      · -- it begins
        obtain ⟨q, q1, q2, q3, q4, q5⟩ := e_bitsFor (k := k) (by omega)
        have q10 : q < 11 := by
          refine Classical.byContradiction fun w => ?_
          have := q5 10 (by omega)
          have : (2 : Nat) ^ 10 = 1024 := rfl
          omega
        have p0 : 0 < (2 : Nat) ^ q := Nat.two_pow_pos q
        have p : (2 : Nat) ^ q ≤ 2 ^ 10 := Nat.pow_le_pow_right (by omega) (by omega)
        have p' : (2 : Nat) ^ q ≤ 1024 := p
        obtain ⟨v, rfl⟩ : ∃ e : Nat, w = (e : Int) := ⟨w.toNat, by omega⟩
        have xm : an (v : Int) (((2 ^ q : Nat) : Int) - 1) = ((v % 2 ^ q : Nat) : Int) := by
          rw [show ((2 ^ q : Nat) : Int) - 1 = ((2 ^ q - 1 : Nat) : Int) by omega, an_nat (by omega) (by omega), Nat.and_two_pow_sub_one_eq_mod]
        obtain ⟨S1, hS1⟩ : ∃ S1 : St, S1 = up (up (up (up (up (up S 80 2 a) 80 3 b) 80 4 (k : Int)) 80 1 (k : Int)) 80 5 (((2 ^ q : Nat) : Int) - 1)) 80 6 ((v % 2 ^ q : Nat) : Int) := ⟨_, rfl⟩
        have o80 : ∀ i, i ≠ 80 → S1 i = S i := fun i hi => by rw [hS1]; simp only [up, if_neg hi]
        have k1 : kept [80] [] S S1 := fun i j x _ => by rw [o80 i (fun w => x (by simp [w]))]
        have h1 : Cor S1 := h.of (o80 84 (by decide)) (fun i _ _ => o80 i (by omega)) (fun i _ _ => o80 i (by omega))
        have e84 : S1 84 = S 84 := o80 84 (by decide)
        obtain ⟨S', s1, s2, s3⟩ := f_inBox h1 (most := 1000) (by omega) ha hb hc
        rw [e84, if_pos hB, hk, if_pos y] at s1
        have mx : max 0 (if k = 0 then -1 else (k : Int)) = (k : Int) := by split <;> omega
        obtain ⟨S2, hS2⟩ : ∃ S2 : St, S2 = up (up (up (up (up (up (up S' 83 45 1) 83 46 a) 83 47 b) 83 48 (k : Int)) 83 49 (k : Int)) 83 50 ((2 ^ q : Nat) : Int)) 83 51 ((v % 2 ^ q : Nat) : Int) := ⟨_, rfl⟩
        have o83 : ∀ i, i ≠ 83 → S2 i = S' i := fun i hi => by rw [hS2]; simp only [up, if_neg hi]
        refine ⟨(k : Int), S1, S2, ?_, eF S1 S' _ _ s1 ?_, by omega, k1, ?_, Or.inr ⟨by rw [hS2]; rfl, a.toNat, b.toNat, c.toNat, k, q, v % 2 ^ q, k, ⟨?_, by omega, ?_, ?_, y, q10, Nat.mod_lt _ p0, Nat.le_refl _⟩, ⟨?_, ?_, ?_, ?_, ?_, ?_⟩, ?_, ?_, ?_, ?_, ?_, ?_⟩⟩
        · have bg : mX1_begin S a b (k : Int) (v : Int) = some S1 := by
            unfold mX1_begin
            rw [nx_e, nx_e, nx_e, nx_e, gd_t (by omega), bd1_e q2, nx_e, shl1 (by omega), nx_e]
            rw [show (up (up (up (up (up S 80 2 a) 80 3 b) 80 4 (k : Int)) 80 1 (k : Int)) 80 5 (((2 ^ q : Nat) : Int) - 1)) 80 5 = (((2 ^ q : Nat) : Int) - 1) from up_eq, xm, ← hS1]
          unfold mX11_deal
          rw [bd1_e bo, gd_t (by decide), if_neg (by decide), gd_t hw, if_neg (by omega), if_pos (by omega), bd1_e bt, gd_t (by omega), if_pos (by omega), bd1_e bg]
        · rw [gd_t (by split <;> omega), if_pos (by split <;> omega), nx_e, nx_e, nx_e, mx, nx_e]
          rw [show (up (up (up (up S' 83 45 1) 83 46 a) 83 47 b) 83 48 (k : Int)) 83 48 = (k : Int) from up_eq, nx_e]
          rw [show (up (up (up (up (up S' 83 45 1) 83 46 a) 83 47 b) 83 48 (k : Int)) 83 49 (k : Int)) 83 48 = (k : Int) from rfl, gd_t (by omega), bd1_e q3, shl1 (by omega), nx_e]
          rw [show (up (up (up (up (up (up S' 83 45 1) 83 46 a) 83 47 b) 83 48 (k : Int)) 83 49 (k : Int)) 83 50 ((2 ^ q : Nat) : Int)) 83 50 = ((2 ^ q : Nat) : Int) from up_eq, gd_t (by omega), nx_e, ← Int.natCast_emod, ← hS2]
          rw [hS2]; rfl
        · have s2' : kept [80, 90, 91, 92] [(83, 45), (83, 46), (83, 47), (83, 48), (83, 49), (83, 50), (83, 51)] S S' := kept.trans (k1.mono (by simp) (by simp)) (s2.mono (by simp) (by simp))
          rw [hS2]
          exact ((((((s2'.upF (by decide)).upF (by decide)).upF (by decide)).upF (by decide)).upF (by decide)).upF (by decide)).upF (by decide)
        · rw [o83 84 (by decide), s2.cell 84 (by decide) (by decide), e84]; omega
        · rw [o83 84 (by decide), s2.cell 84 (by decide) (by decide), e84]; omega
        · rw [o83 84 (by decide), s2.cell 84 (by decide) (by decide), e84, ← hk]
          exact bx_sN (by omega) (by rw [hk]; omega)
        · rw [o83 80 (by decide), s2.cell 80 (by decide) (by decide), hS1]; rfl
        · rw [o83 80 (by decide), s2.cell 80 (by decide) (by decide), hS1]; show a = _; omega
        · rw [o83 80 (by decide), s2.cell 80 (by decide) (by decide), hS1]; show b = _; omega
        · rw [o83 80 (by decide), s2.cell 80 (by decide) (by decide), hS1]; rfl
        · rw [o83 80 (by decide), s2.cell 80 (by decide) (by decide), hS1]; rfl
        · rw [o83 80 (by decide), s2.cell 80 (by decide) (by decide), hS1, up_eq]
        · rw [hS2]; rfl
        · rw [hS2]; show a = _; omega
        · rw [hS2]; show b = _; omega
        · rw [hS2]; rfl
        · rw [hS2]; rfl
        · rw [hS2, up_eq]
      · obtain ⟨S', s1, s2, s3⟩ := f_inBox h (most := 1000) (by omega) ha hb hc
        rw [if_pos hB, hk, if_neg y] at s1
        refine un (-3) S' (by omega) s1 s2 ?_
        unfold mX11_deal
        rw [bd1_e bo, gd_t (by decide), if_neg (by decide), gd_t hw, if_neg (by omega), if_pos (by omega), bd1_e bt, gd_t (by omega), if_neg (by omega)]
    · obtain ⟨S', s1, s2, s3⟩ := f_inBox h (most := 1000) (by omega) ha hb hc
      rw [if_neg hB] at s1 bo
      refine un (-2) S' (by omega) s1 s2 ?_
      unfold mX11_deal
      rw [bd1_e bo, gd_t (by decide), if_pos rfl]
  · rw [if_neg hW] at iw
    refine ⟨-2, S, S, ?_, ?_, by omega, kept.rf, kept.rf, hD⟩
    · unfold mX11_deal
      rw [bd1_e bo]
      by_cases hB : isB (S 84) a b c
      · rw [if_pos hB, gd_t (by decide), if_neg (by decide), gd_t hw]
        by_cases z : w < 0
        · rw [if_pos z]
        · rw [if_neg z, if_neg (by omega)]
      · rw [if_neg hB, gd_t (by decide), if_pos rfl]
    · unfold mX12_deal
      rw [gd_t hw, bd1_e iw, gd_t (by decide), if_pos rfl, bd2_s, gd_t (by decide), if_neg (by decide)]
