/-! the class's sets of what may be empty -/
def sh11 (S : St) : St := fun i => S (i + 11)
theorem e_isOff13 {S : St} {M : Int → Int} {e t : Nat} (h : WF M) (hG : GM (sh11 S) M) (he : e < 30) (ht : t < 31) : mX2_isOff_13 S (e : Int) (t : Int) = some (if offM M e t then 1 else 0) := (show mX2_isOff_13 S (e : Int) (t : Int) = mX2_isOff_2 (sh11 S) (e : Int) (t : Int) from rfl).trans (e_isOff2 h hG he ht)
theorem e_start13 {S : St} {M : Int → Int} {e t : Nat} {lo : Int} (hlo : 0 ≤ lo) (hG : GM (sh11 S) M) (he : e < 30) (hE : okE M lo e) (ht : (t : Int) < M (198 + (e : Int))) : mX2_start_13 S (e : Int) (t : Int) = some (((fpM M e t).toNat : Nat) : Int) ∧ lo ≤ fpM M e t ∧ fpM M e t < M 2 := (show mX2_start_13 S (e : Int) (t : Int) = mX2_start_2 (sh11 S) (e : Int) (t : Int) from rfl) ▸ e_start2 hlo hG he hE ht
theorem bt_nat {x k : Nat} : bt (x : Int) (k : Int) = x.testBit k := rfl
/-- a bit more -/
theorem or_bit {x k : Nat} (hx : x < 2 ^ 30) (hk : k < 30) : orr (x : Int) (shl 1 (k : Int)) = ((x ||| 2 ^ k : Nat) : Int) ∧ x ||| 2 ^ k < 2 ^ 30 ∧ ∀ j, (x ||| 2 ^ k).testBit j = (x.testBit j || decide (k = j)) := by
  have p : 2 ^ k < 2 ^ 30 := Nat.pow_lt_pow_right (by decide) hk
  refine ⟨?_, Nat.or_lt_two_pow hx p, fun j => ?_⟩
  · rw [shl1 (by omega), orr_nat (Nat.lt_trans hx (by decide)) (Nat.lt_trans p (by decide))]
  · rw [Nat.testBit_or, Nat.testBit_two_pow]
theorem or_0 {x : Nat} (hx : x < 2 ^ 30) : orr (x : Int) 0 = (x : Int) := by
  have := orr_nat (m := x) (n := 0) (Nat.lt_trans hx (by decide)) (by decide)
  rw [Nat.or_zero] at this
  exact this
/-! the class's Leaning 33: what may be empty -/
def cf33 (S : St) (x : Nat) : Bool := if x < 24 then bt (S 33 1) (x : Int) else bt (S 33 2) ((x - 24 : Nat) : Int)
def c0133 (S : St) : Prop := (0 ≤ S 33 1 ∧ S 33 1 < 2 ^ 30) ∧ (0 ≤ S 33 2 ∧ S 33 2 < 2 ^ 30)
theorem e_isEmpty33 {S : St} {p : Nat} (h : c0133 S) (hp : p < 24) : mX3_isEmpty_33 S (p : Int) = some (if cf33 S p then 1 else 0) := by
  unfold mX3_isEmpty_33 cf33
  have h1 := h.1
  rw [gd_t (by omega), if_neg (by omega), if_pos hp, has_bt (by omega) (by omega) (by omega) (by omega)]
  cases bt (S 33 1) (p : Int) <;> rfl
theorem ae33_5 {S : St} {M : Int → Int} {a : Int} (h : WF M) (hG : GM S M) (hc : c0133 S) (ha : inI a) : ∀ (d i f : Nat) (q : Int), i + d = 24 → d < f → okq M q → mX3_allEmpty_33_5 S a f (i : Int) q = some (if tE M (cf33 S) a d q then 1 else 0) := by
  have hM2 := h.2.2.1
  intro d
  induction d with
  | zero =>
    intro i f q hi hf hq
    obtain ⟨g, rfl⟩ : ∃ g, f = g + 1 := ⟨f - 1, by omega⟩
    rw [mX3_allEmpty_33_5, gd_t (by omega), if_pos (by omega)]; rfl
  | succ d ih =>
    intro i f q hi hf hq
    obtain ⟨g, rfl⟩ : ∃ g, f = g + 1 := ⟨f - 1, by omega⟩
    have hq0 := hq
    unfold okq at hq
    rw [mX3_allEmpty_33_5, gd_t (by omega), if_neg (by omega), gd_t (by omega)]
    by_cases z : q = -1
    · rw [if_pos z]; subst z; rfl
    · obtain ⟨p, rfl⟩ := Int.eq_ofNat_of_zero_le (show 0 ≤ q by omega)
      have g6 : S 6 (p : Int) = M (96 + (p : Int)) := (hG.2.1 p (by omega)).2.1
      have l := ih (i + 1) g (M (96 + (p : Int))) (by omega) (by omega) (okq_next h hq0 (by omega))
      rw [show ((i + 1 : Nat) : Int) = (i : Int) + 1 by omega] at l
      have v := e_isEmpty33 hc (p := p) (by omega)
      rw [if_neg z]
      unfold tE
      rw [if_neg (show ¬ (p : Int) < 0 by omega), show ((p : Int)).toNat = p from rfl]
      by_cases e : (p : Int) = a
      · rw [bd1_e (show (gd (inI a) <| if (p : Int) = a then (some (1 : Nat)) else _) = some 1 by rw [gd_t ha, if_pos e]), if_neg (by decide), gd_t (by omega), nx_e, g6, l]
        simp [e]
      · cases hb : cf33 S p with
        | true =>
          rw [hb, if_pos rfl] at v
          rw [bd1_e (show (gd (inI a) <| if (p : Int) = a then (some (1 : Nat)) else (bd1 (mX3_isEmpty_33 S (p : Int)) fun r_23 => gd (inI r_23) <| if r_23 = 0 then (some (0)) else (some (1)))) = some 1 by rw [gd_t ha, if_neg e, bd1_e v, gd_t (by decide), if_neg (by decide)]), if_neg (by decide), gd_t (by omega), nx_e, g6, l]
          simp
        | false =>
          rw [hb, if_neg (by decide)] at v
          rw [bd1_e (show (gd (inI a) <| if (p : Int) = a then (some (1 : Nat)) else (bd1 (mX3_isEmpty_33 S (p : Int)) fun r_23 => gd (inI r_23) <| if r_23 = 0 then (some (0)) else (some (1)))) = some 0 by rw [gd_t ha, if_neg e, bd1_e v, gd_t (by decide), if_pos rfl]), if_pos rfl]
          simp [e]
theorem e_allEmpty33 {S : St} {M : Int → Int} {a q : Int} (h : WF M) (hG : GM S M) (hc : c0133 S) (ha : inI a) (hq : okq M q) : mX3_allEmpty_33 S q a = some (if tE M (cf33 S) a 24 q then 1 else 0) := by
  have l := ae33_5 h hG hc ha 24 0 FU q (by omega) (by unfold FU; omega) hq
  unfold mX3_allEmpty_33
  cases hb : tE M (cf33 S) a 24 q with
  | true => rw [hb, if_pos rfl] at l; rw [bd1_e (show mX3_allEmpty_33_5 S a FU 0 q = some (1 : Int) from l)]; rfl
  | false => rw [hb, if_neg (by decide)] at l; rw [bd1_e (show mX3_allEmpty_33_5 S a FU 0 q = some (0 : Int) from l)]; rfl
theorem e_exprIsEmpty33 {S : St} {M : Int → Int} {e : Nat} {lo : Int} (h : WF M) (hG : GM S M) (hc : c0133 S) (he : e < 30) (hlo : 0 ≤ lo) (hE : okE M lo e) : mX3_exprIsEmpty_33 S (e : Int) = some (if xE M (cf33 S) e then 1 else 0) := by
  have hm := hE.1
  have g8 : S 8 (e : Int) = M (198 + (e : Int)) := hG.2.2.1 e he
  have key : ∀ d t f : Nat, (t : Int) + d = M (198 + (e : Int)) → d < f → anyN t (fun t => !offM M e t && tE M (cf33 S) (-1) 24 (fpM M e t)) = false → mX3_exprIsEmpty_33_2 S (e : Int) f (t : Int) = some (if xE M (cf33 S) e then 0 else 1) := by
    intro d
    induction d with
    | zero =>
      intro t f ht hf ha
      obtain ⟨g, rfl⟩ : ∃ g, f = g + 1 := ⟨f - 1, by omega⟩
      rw [mX3_exprIsEmpty_33_2, gd_t (by omega), g8, gd_t (by omega), if_pos (by omega)]
      unfold xE
      rw [show (M (198 + (e : Int))).toNat = t by omega, ha]; rfl
    | succ d ih =>
      intro t f ht hf ha
      obtain ⟨g, rfl⟩ : ∃ g, f = g + 1 := ⟨f - 1, by omega⟩
      obtain ⟨q1, q2, q3⟩ := e_start2 (t := t) hlo hG he hE (by omega)
      rw [mX3_exprIsEmpty_33_2, gd_t (by omega), g8, gd_t (by omega), if_neg (by omega), bd1_e (e_isOff2 h hG he (by omega))]
      have go : (!offM M e t && tE M (cf33 S) (-1) 24 (fpM M e t)) = false → mX3_exprIsEmpty_33_2 S (e : Int) g ((t : Int) + 1) = some (if xE M (cf33 S) e then 0 else 1) := fun hh => by
        have := ih (t + 1) g (by omega) (by omega) (by show (anyN t _ || _) = false; rw [ha]; exact hh)
        rw [show ((t + 1 : Nat) : Int) = (t : Int) + 1 by omega] at this
        exact this
      cases ho : offM M e t with
      | true =>
        rw [if_pos rfl, gd_t (by decide), if_neg (by decide)]
        exact go (by rw [ho]; rfl)
      | false =>
        have l := e_allEmpty33 (a := -1) (q := fpM M e t) h hG hc (by decide) (Or.inr ⟨by omega, q3⟩)
        rw [if_neg (by decide), gd_t (by decide), if_pos rfl, bd1_e q1, Int.toNat_of_nonneg (by omega), bd1_e l]
        cases hb : tE M (cf33 S) (-1) 24 (fpM M e t) with
        | true =>
          rw [if_pos rfl, gd_t (by decide), if_neg (by decide)]
          have : xE M (cf33 S) e = true := anyN_iff.mpr ⟨t, by omega, by rw [ho, hb]; rfl⟩
          rw [this]; rfl
        | false =>
          rw [if_neg (by decide), gd_t (by decide), if_pos rfl]
          exact go (by rw [ho, hb]; rfl)
  have l := key (M (198 + (e : Int))).toNat 0 FU (by omega) (by unfold FU; omega) rfl
  unfold mX3_exprIsEmpty_33
  cases hb : xE M (cf33 S) e with
  | true => rw [hb, if_pos rfl] at l; rw [bd1_e (show mX3_exprIsEmpty_33_2 S (e : Int) FU 0 = some (0 : Int) from l)]; rfl
  | false => rw [hb, if_neg (by decide)] at l; rw [bd1_e (show mX3_exprIsEmpty_33_2 S (e : Int) FU 0 = some (1 : Int) from l)]; rfl
theorem e_partIsEmpty33 {S : St} {M : Int → Int} {p : Nat} (h : WF M) (hG : GM S M) (hc : c0133 S) (hp : (p : Int) < M 2) : mX3_partIsEmpty_33 S (p : Int) = some (if ruP M (cf33 S) p then 1 else 0) := by
  have hM2 := h.2.2.1
  have hM0 := h.1
  obtain ⟨h1, h2, h3, h4, h5, h6⟩ := h.2.2.2.1 p hp
  obtain ⟨g3, g6, g4, g4', g5, g5'⟩ := hG.2.1 p hp
  have g3 : S 3 (p : Int) = M (24 + (p : Int)) := g3
  have g4 : M (24 + (p : Int)) ≠ 7 → S 4 (p : Int) = M (48 + (p : Int)) := g4
  have g5 : 3 ≤ M (24 + (p : Int)) ∧ M (24 + (p : Int)) ≤ 6 → S 5 (p : Int) = M (72 + (p : Int)) := g5
  have c2 := hc.2
  unfold mX3_partIsEmpty_33 ruP
  rw [gd_t (by omega), nx_e, g3]
  by_cases s0 : M (24 + (p : Int)) = 0
  · rw [bd1_e (show (gd (inI (M (24 + (p : Int)))) <| if M (24 + (p : Int)) = 0 then (some (0 : Nat)) else _) = some 0 by rw [gd_t (by omega), if_pos s0]), if_pos rfl, gd_t (by omega), if_neg (by omega), if_pos s0]; rfl
  by_cases s1 : M (24 + (p : Int)) = 1
  · rw [bd1_e (show (gd (inI (M (24 + (p : Int)))) <| if M (24 + (p : Int)) = 0 then (some (0 : Nat)) else (if M (24 + (p : Int)) = 1 then (some 0) else (some 1))) = some 0 by rw [gd_t (by omega), if_neg s0, if_pos s1]), if_pos rfl, gd_t (by omega), if_pos s1, if_neg s0, if_pos s1]; rfl
  rw [bd1_e (show (gd (inI (M (24 + (p : Int)))) <| if M (24 + (p : Int)) = 0 then (some (0 : Nat)) else (if M (24 + (p : Int)) = 1 then (some 0) else (some 1))) = some 1 by rw [gd_t (by omega), if_neg s0, if_neg s1]), if_neg (by decide), gd_t (by omega), if_neg s0, if_neg s1]
  by_cases s2 : M (24 + (p : Int)) = 2
  · have := h4 s2
    obtain ⟨k, hk⟩ : ∃ k : Nat, M (48 + (p : Int)) = (k : Int) := ⟨(M (48 + (p : Int))).toNat, by omega⟩
    rw [if_pos s2, if_pos s2, g4 (by omega), hk, has_bt (by omega) (by omega) (by omega) (by omega), show ((k : Int)).toNat = k from rfl]
    have e : cf33 S (24 + k) = bt (S 33 2) (k : Int) := by unfold cf33; rw [if_neg (by omega), show 24 + k - 24 = k by omega]
    rw [e]
    cases bt (S 33 2) (k : Int) <;> rfl
  rw [if_neg s2, if_neg s2]
  by_cases s7 : M (24 + (p : Int)) = 7
  · obtain ⟨q1, q2, q3⟩ := h5 s7
    rw [if_pos s7, if_pos s7, show (6 : Int) + (p : Int) = ((6 + p : Nat) : Int) by omega, bd1_e (e_exprIsEmpty33 h hG hc (by omega) (by omega) q3), gd_t (by split <;> decide)]
  rw [if_neg s7, if_neg s7]
  have h6' := h6 (by omega)
  obtain ⟨c, hcc⟩ : ∃ c : Nat, M (72 + (p : Int)) = (c : Int) := ⟨(M (72 + (p : Int))).toNat, by omega⟩
  have v := e_isEmpty33 hc (p := c) (by omega)
  rw [g5 (by omega), g4 (by omega), hcc, show ((c : Int)).toNat = c from rfl]
  have fin : (bd1 (mX3_isEmpty_33 S (c : Int)) fun r_14 => gd (inI r_14) <| if r_14 = 0 then (some (0 : Int)) else (some 1)) = some (if cf33 S c then 1 else 0) := by
    rw [bd1_e v]
    cases cf33 S c <;> rfl
  by_cases s6 : M (24 + (p : Int)) = 6
  · rw [if_pos s6, if_pos s6, fin]
  rw [if_neg s6, if_neg s6, gd_t (by omega)]
  by_cases z : M (48 + (p : Int)) = 0
  · rw [if_pos z]; simp [z]
  · rw [if_neg z, fin]; simp [z]
theorem set133 {S : St} {p : Nat} (hc : c0133 S) (hp : p < 24) {r : Bool} (hr : cf33 S p = true → r = true) : wp (if (if r then (1 : Int) else 0) = 0 then (nx (up S 33 1 (orr (S 33 1) 0)) fun S' => some S') else (nx (up S 33 1 (orr (S 33 1) (shl 1 (p : Int)))) fun S' => some S')) (fun S' => c0133 S' ∧ (∀ x, cf33 S' x = setF (cf33 S) p r x) ∧ kept [] [(33, 1)] S S') := by
  obtain ⟨x, hx⟩ := Int.eq_ofNat_of_zero_le hc.1.1
  have hx2 : x < 2 ^ 30 := by have := hc.1.2; rw [hx] at this; omega
  have c2 := hc.2
  cases r with
  | false =>
    rw [if_pos (by decide), wp_nx, wp_some, hx, or_0 hx2]
    have e1 : up S 33 1 (x : Int) 33 1 = S 33 1 := by rw [up_eq, hx]
    have e2 : up S 33 1 (x : Int) 33 2 = S 33 2 := by rw [up_nk (by decide)]
    refine ⟨⟨by rw [e1]; exact hc.1, by rw [e2]; exact hc.2⟩, fun y => ?_, kept.upF kept.rf (by simp)⟩
    unfold setF
    have e3 : cf33 (up S 33 1 (x : Int)) y = cf33 S y := by unfold cf33; rw [e1, e2]
    rw [e3]
    by_cases e : y = p
    · subst e
      rw [if_pos rfl]
      cases hb : cf33 S y
      · rfl
      · exact absurd (hr hb) (by decide)
    · rw [if_neg e]
  | true =>
    obtain ⟨o1, o2, o3⟩ := or_bit (k := p) hx2 (by omega)
    rw [if_neg (by decide), wp_nx, wp_some, hx, o1]
    have e2 : up S 33 1 ((x ||| 2 ^ p : Nat) : Int) 33 2 = S 33 2 := by rw [up_nk (by decide)]
    refine ⟨⟨by rw [up_eq]; omega, by rw [e2]; exact hc.2⟩, fun y => ?_, kept.upF kept.rf (by simp)⟩
    unfold setF cf33
    rw [e2, up_eq]
    by_cases c : y < 24
    · rw [if_pos c, if_pos c, bt_nat, o3, hx, bt_nat]
      by_cases e : y = p
      · subst e; simp
      · rw [if_neg e]; simp [Ne.symm e]
    · rw [if_neg c, if_neg c, if_neg (by omega)]
theorem set233 {S : St} {p : Nat} (hc : c0133 S) (hp : p < 6) {r : Bool} (hr : cf33 S (24 + p) = true → r = true) : wp (if (if r then (1 : Int) else 0) = 0 then (nx (up S 33 2 (orr (S 33 2) 0)) fun S' => some S') else (nx (up S 33 2 (orr (S 33 2) (shl 1 (p : Int)))) fun S' => some S')) (fun S' => c0133 S' ∧ (∀ x, cf33 S' x = setF (cf33 S) (24 + p) r x) ∧ kept [] [(33, 2)] S S') := by
  obtain ⟨x, hx⟩ := Int.eq_ofNat_of_zero_le hc.2.1
  have hx2 : x < 2 ^ 30 := by have := hc.2.2; rw [hx] at this; omega
  cases r with
  | false =>
    rw [if_pos (by decide), wp_nx, wp_some, hx, or_0 hx2]
    have e1 : up S 33 2 (x : Int) 33 2 = S 33 2 := by rw [up_eq, hx]
    have e2 : up S 33 2 (x : Int) 33 1 = S 33 1 := by rw [up_nk (by decide)]
    refine ⟨⟨by rw [e2]; exact hc.1, by rw [e1]; exact hc.2⟩, fun y => ?_, kept.upF kept.rf (by simp)⟩
    unfold setF
    have e3 : cf33 (up S 33 2 (x : Int)) y = cf33 S y := by unfold cf33; rw [e1, e2]
    rw [e3]
    by_cases e : y = 24 + p
    · subst e
      rw [if_pos rfl]
      cases hb : cf33 S (24 + p)
      · rfl
      · exact absurd (hr hb) (by decide)
    · rw [if_neg e]
  | true =>
    obtain ⟨o1, o2, o3⟩ := or_bit (k := p) hx2 (by omega)
    rw [if_neg (by decide), wp_nx, wp_some, hx, o1]
    have e2 : up S 33 2 ((x ||| 2 ^ p : Nat) : Int) 33 1 = S 33 1 := by rw [up_nk (by decide)]
    refine ⟨⟨by rw [e2]; exact hc.1, by rw [up_eq]; omega⟩, fun y => ?_, kept.upF kept.rf (by simp)⟩
    unfold setF cf33
    rw [e2, up_eq]
    by_cases c : y < 24
    · rw [if_pos c, if_pos c, if_neg (by omega)]
    · rw [if_neg c, if_neg c, bt_nat, o3, hx, bt_nat]
      by_cases e : y = 24 + p
      · subst e; simp
      · rw [if_neg e]; simp [show ¬ p = y - 24 by omega]
/-! the class's Leaning 26: what may be empty -/
def cf26 (S : St) (x : Nat) : Bool := if x < 24 then bt (S 26 1) (x : Int) else bt (S 26 2) ((x - 24 : Nat) : Int)
def c0126 (S : St) : Prop := (0 ≤ S 26 1 ∧ S 26 1 < 2 ^ 30) ∧ (0 ≤ S 26 2 ∧ S 26 2 < 2 ^ 30)
theorem e_isEmpty26 {S : St} {p : Nat} (h : c0126 S) (hp : p < 24) : mX3_isEmpty_26 S (p : Int) = some (if cf26 S p then 1 else 0) := by
  unfold mX3_isEmpty_26 cf26
  have h1 := h.1
  rw [gd_t (by omega), if_neg (by omega), if_pos hp, has_bt (by omega) (by omega) (by omega) (by omega)]
  cases bt (S 26 1) (p : Int) <;> rfl
theorem ae26_5 {S : St} {M : Int → Int} {a : Int} (h : WF M) (hG : GM (sh11 S) M) (hc : c0126 S) (ha : inI a) : ∀ (d i f : Nat) (q : Int), i + d = 24 → d < f → okq M q → mX3_allEmpty_26_5 S a f (i : Int) q = some (if tE M (cf26 S) a d q then 1 else 0) := by
  have hM2 := h.2.2.1
  intro d
  induction d with
  | zero =>
    intro i f q hi hf hq
    obtain ⟨g, rfl⟩ : ∃ g, f = g + 1 := ⟨f - 1, by omega⟩
    rw [mX3_allEmpty_26_5, gd_t (by omega), if_pos (by omega)]; rfl
  | succ d ih =>
    intro i f q hi hf hq
    obtain ⟨g, rfl⟩ : ∃ g, f = g + 1 := ⟨f - 1, by omega⟩
    have hq0 := hq
    unfold okq at hq
    rw [mX3_allEmpty_26_5, gd_t (by omega), if_neg (by omega), gd_t (by omega)]
    by_cases z : q = -1
    · rw [if_pos z]; subst z; rfl
    · obtain ⟨p, rfl⟩ := Int.eq_ofNat_of_zero_le (show 0 ≤ q by omega)
      have g6 : S 17 (p : Int) = M (96 + (p : Int)) := (hG.2.1 p (by omega)).2.1
      have l := ih (i + 1) g (M (96 + (p : Int))) (by omega) (by omega) (okq_next h hq0 (by omega))
      rw [show ((i + 1 : Nat) : Int) = (i : Int) + 1 by omega] at l
      have v := e_isEmpty26 hc (p := p) (by omega)
      rw [if_neg z]
      unfold tE
      rw [if_neg (show ¬ (p : Int) < 0 by omega), show ((p : Int)).toNat = p from rfl]
      by_cases e : (p : Int) = a
      · rw [bd1_e (show (gd (inI a) <| if (p : Int) = a then (some (1 : Nat)) else _) = some 1 by rw [gd_t ha, if_pos e]), if_neg (by decide), gd_t (by omega), nx_e, g6, l]
        simp [e]
      · cases hb : cf26 S p with
        | true =>
          rw [hb, if_pos rfl] at v
          rw [bd1_e (show (gd (inI a) <| if (p : Int) = a then (some (1 : Nat)) else (bd1 (mX3_isEmpty_26 S (p : Int)) fun r_23 => gd (inI r_23) <| if r_23 = 0 then (some (0)) else (some (1)))) = some 1 by rw [gd_t ha, if_neg e, bd1_e v, gd_t (by decide), if_neg (by decide)]), if_neg (by decide), gd_t (by omega), nx_e, g6, l]
          simp
        | false =>
          rw [hb, if_neg (by decide)] at v
          rw [bd1_e (show (gd (inI a) <| if (p : Int) = a then (some (1 : Nat)) else (bd1 (mX3_isEmpty_26 S (p : Int)) fun r_23 => gd (inI r_23) <| if r_23 = 0 then (some (0)) else (some (1)))) = some 0 by rw [gd_t ha, if_neg e, bd1_e v, gd_t (by decide), if_pos rfl]), if_pos rfl]
          simp [e]
theorem e_allEmpty26 {S : St} {M : Int → Int} {a q : Int} (h : WF M) (hG : GM (sh11 S) M) (hc : c0126 S) (ha : inI a) (hq : okq M q) : mX3_allEmpty_26 S q a = some (if tE M (cf26 S) a 24 q then 1 else 0) := by
  have l := ae26_5 h hG hc ha 24 0 FU q (by omega) (by unfold FU; omega) hq
  unfold mX3_allEmpty_26
  cases hb : tE M (cf26 S) a 24 q with
  | true => rw [hb, if_pos rfl] at l; rw [bd1_e (show mX3_allEmpty_26_5 S a FU 0 q = some (1 : Int) from l)]; rfl
  | false => rw [hb, if_neg (by decide)] at l; rw [bd1_e (show mX3_allEmpty_26_5 S a FU 0 q = some (0 : Int) from l)]; rfl
theorem e_exprIsEmpty26 {S : St} {M : Int → Int} {e : Nat} {lo : Int} (h : WF M) (hG : GM (sh11 S) M) (hc : c0126 S) (he : e < 30) (hlo : 0 ≤ lo) (hE : okE M lo e) : mX3_exprIsEmpty_26 S (e : Int) = some (if xE M (cf26 S) e then 1 else 0) := by
  have hm := hE.1
  have g8 : S 19 (e : Int) = M (198 + (e : Int)) := hG.2.2.1 e he
  have key : ∀ d t f : Nat, (t : Int) + d = M (198 + (e : Int)) → d < f → anyN t (fun t => !offM M e t && tE M (cf26 S) (-1) 24 (fpM M e t)) = false → mX3_exprIsEmpty_26_2 S (e : Int) f (t : Int) = some (if xE M (cf26 S) e then 0 else 1) := by
    intro d
    induction d with
    | zero =>
      intro t f ht hf ha
      obtain ⟨g, rfl⟩ : ∃ g, f = g + 1 := ⟨f - 1, by omega⟩
      rw [mX3_exprIsEmpty_26_2, gd_t (by omega), g8, gd_t (by omega), if_pos (by omega)]
      unfold xE
      rw [show (M (198 + (e : Int))).toNat = t by omega, ha]; rfl
    | succ d ih =>
      intro t f ht hf ha
      obtain ⟨g, rfl⟩ : ∃ g, f = g + 1 := ⟨f - 1, by omega⟩
      obtain ⟨q1, q2, q3⟩ := e_start13 (t := t) hlo hG he hE (by omega)
      rw [mX3_exprIsEmpty_26_2, gd_t (by omega), g8, gd_t (by omega), if_neg (by omega), bd1_e (e_isOff13 h hG he (by omega))]
      have go : (!offM M e t && tE M (cf26 S) (-1) 24 (fpM M e t)) = false → mX3_exprIsEmpty_26_2 S (e : Int) g ((t : Int) + 1) = some (if xE M (cf26 S) e then 0 else 1) := fun hh => by
        have := ih (t + 1) g (by omega) (by omega) (by show (anyN t _ || _) = false; rw [ha]; exact hh)
        rw [show ((t + 1 : Nat) : Int) = (t : Int) + 1 by omega] at this
        exact this
      cases ho : offM M e t with
      | true =>
        rw [if_pos rfl, gd_t (by decide), if_neg (by decide)]
        exact go (by rw [ho]; rfl)
      | false =>
        have l := e_allEmpty26 (a := -1) (q := fpM M e t) h hG hc (by decide) (Or.inr ⟨by omega, q3⟩)
        rw [if_neg (by decide), gd_t (by decide), if_pos rfl, bd1_e q1, Int.toNat_of_nonneg (by omega), bd1_e l]
        cases hb : tE M (cf26 S) (-1) 24 (fpM M e t) with
        | true =>
          rw [if_pos rfl, gd_t (by decide), if_neg (by decide)]
          have : xE M (cf26 S) e = true := anyN_iff.mpr ⟨t, by omega, by rw [ho, hb]; rfl⟩
          rw [this]; rfl
        | false =>
          rw [if_neg (by decide), gd_t (by decide), if_pos rfl]
          exact go (by rw [ho, hb]; rfl)
  have l := key (M (198 + (e : Int))).toNat 0 FU (by omega) (by unfold FU; omega) rfl
  unfold mX3_exprIsEmpty_26
  cases hb : xE M (cf26 S) e with
  | true => rw [hb, if_pos rfl] at l; rw [bd1_e (show mX3_exprIsEmpty_26_2 S (e : Int) FU 0 = some (0 : Int) from l)]; rfl
  | false => rw [hb, if_neg (by decide)] at l; rw [bd1_e (show mX3_exprIsEmpty_26_2 S (e : Int) FU 0 = some (1 : Int) from l)]; rfl
theorem e_partIsEmpty26 {S : St} {M : Int → Int} {p : Nat} (h : WF M) (hG : GM (sh11 S) M) (hc : c0126 S) (hp : (p : Int) < M 2) : mX3_partIsEmpty_26 S (p : Int) = some (if ruP M (cf26 S) p then 1 else 0) := by
  have hM2 := h.2.2.1
  have hM0 := h.1
  obtain ⟨h1, h2, h3, h4, h5, h6⟩ := h.2.2.2.1 p hp
  obtain ⟨g3, g6, g4, g4', g5, g5'⟩ := hG.2.1 p hp
  have g3 : S 14 (p : Int) = M (24 + (p : Int)) := g3
  have g4 : M (24 + (p : Int)) ≠ 7 → S 15 (p : Int) = M (48 + (p : Int)) := g4
  have g5 : 3 ≤ M (24 + (p : Int)) ∧ M (24 + (p : Int)) ≤ 6 → S 16 (p : Int) = M (72 + (p : Int)) := g5
  have c2 := hc.2
  unfold mX3_partIsEmpty_26 ruP
  rw [gd_t (by omega), nx_e, g3]
  by_cases s0 : M (24 + (p : Int)) = 0
  · rw [bd1_e (show (gd (inI (M (24 + (p : Int)))) <| if M (24 + (p : Int)) = 0 then (some (0 : Nat)) else _) = some 0 by rw [gd_t (by omega), if_pos s0]), if_pos rfl, gd_t (by omega), if_neg (by omega), if_pos s0]; rfl
  by_cases s1 : M (24 + (p : Int)) = 1
  · rw [bd1_e (show (gd (inI (M (24 + (p : Int)))) <| if M (24 + (p : Int)) = 0 then (some (0 : Nat)) else (if M (24 + (p : Int)) = 1 then (some 0) else (some 1))) = some 0 by rw [gd_t (by omega), if_neg s0, if_pos s1]), if_pos rfl, gd_t (by omega), if_pos s1, if_neg s0, if_pos s1]; rfl
  rw [bd1_e (show (gd (inI (M (24 + (p : Int)))) <| if M (24 + (p : Int)) = 0 then (some (0 : Nat)) else (if M (24 + (p : Int)) = 1 then (some 0) else (some 1))) = some 1 by rw [gd_t (by omega), if_neg s0, if_neg s1]), if_neg (by decide), gd_t (by omega), if_neg s0, if_neg s1]
  by_cases s2 : M (24 + (p : Int)) = 2
  · have := h4 s2
    obtain ⟨k, hk⟩ : ∃ k : Nat, M (48 + (p : Int)) = (k : Int) := ⟨(M (48 + (p : Int))).toNat, by omega⟩
    rw [if_pos s2, if_pos s2, g4 (by omega), hk, has_bt (by omega) (by omega) (by omega) (by omega), show ((k : Int)).toNat = k from rfl]
    have e : cf26 S (24 + k) = bt (S 26 2) (k : Int) := by unfold cf26; rw [if_neg (by omega), show 24 + k - 24 = k by omega]
    rw [e]
    cases bt (S 26 2) (k : Int) <;> rfl
  rw [if_neg s2, if_neg s2]
  by_cases s7 : M (24 + (p : Int)) = 7
  · obtain ⟨q1, q2, q3⟩ := h5 s7
    rw [if_pos s7, if_pos s7, show (6 : Int) + (p : Int) = ((6 + p : Nat) : Int) by omega, bd1_e (e_exprIsEmpty26 h hG hc (by omega) (by omega) q3), gd_t (by split <;> decide)]
  rw [if_neg s7, if_neg s7]
  have h6' := h6 (by omega)
  obtain ⟨c, hcc⟩ : ∃ c : Nat, M (72 + (p : Int)) = (c : Int) := ⟨(M (72 + (p : Int))).toNat, by omega⟩
  have v := e_isEmpty26 hc (p := c) (by omega)
  rw [g5 (by omega), g4 (by omega), hcc, show ((c : Int)).toNat = c from rfl]
  have fin : (bd1 (mX3_isEmpty_26 S (c : Int)) fun r_14 => gd (inI r_14) <| if r_14 = 0 then (some (0 : Int)) else (some 1)) = some (if cf26 S c then 1 else 0) := by
    rw [bd1_e v]
    cases cf26 S c <;> rfl
  by_cases s6 : M (24 + (p : Int)) = 6
  · rw [if_pos s6, if_pos s6, fin]
  rw [if_neg s6, if_neg s6, gd_t (by omega)]
  by_cases z : M (48 + (p : Int)) = 0
  · rw [if_pos z]; simp [z]
  · rw [if_neg z, fin]; simp [z]
theorem set126 {S : St} {p : Nat} (hc : c0126 S) (hp : p < 24) {r : Bool} (hr : cf26 S p = true → r = true) : wp (if (if r then (1 : Int) else 0) = 0 then (nx (up S 26 1 (orr (S 26 1) 0)) fun S' => some S') else (nx (up S 26 1 (orr (S 26 1) (shl 1 (p : Int)))) fun S' => some S')) (fun S' => c0126 S' ∧ (∀ x, cf26 S' x = setF (cf26 S) p r x) ∧ kept [] [(26, 1)] S S') := by
  obtain ⟨x, hx⟩ := Int.eq_ofNat_of_zero_le hc.1.1
  have hx2 : x < 2 ^ 30 := by have := hc.1.2; rw [hx] at this; omega
  have c2 := hc.2
  cases r with
  | false =>
    rw [if_pos (by decide), wp_nx, wp_some, hx, or_0 hx2]
    have e1 : up S 26 1 (x : Int) 26 1 = S 26 1 := by rw [up_eq, hx]
    have e2 : up S 26 1 (x : Int) 26 2 = S 26 2 := by rw [up_nk (by decide)]
    refine ⟨⟨by rw [e1]; exact hc.1, by rw [e2]; exact hc.2⟩, fun y => ?_, kept.upF kept.rf (by simp)⟩
    unfold setF
    have e3 : cf26 (up S 26 1 (x : Int)) y = cf26 S y := by unfold cf26; rw [e1, e2]
    rw [e3]
    by_cases e : y = p
    · subst e
      rw [if_pos rfl]
      cases hb : cf26 S y
      · rfl
      · exact absurd (hr hb) (by decide)
    · rw [if_neg e]
  | true =>
    obtain ⟨o1, o2, o3⟩ := or_bit (k := p) hx2 (by omega)
    rw [if_neg (by decide), wp_nx, wp_some, hx, o1]
    have e2 : up S 26 1 ((x ||| 2 ^ p : Nat) : Int) 26 2 = S 26 2 := by rw [up_nk (by decide)]
    refine ⟨⟨by rw [up_eq]; omega, by rw [e2]; exact hc.2⟩, fun y => ?_, kept.upF kept.rf (by simp)⟩
    unfold setF cf26
    rw [e2, up_eq]
    by_cases c : y < 24
    · rw [if_pos c, if_pos c, bt_nat, o3, hx, bt_nat]
      by_cases e : y = p
      · subst e; simp
      · rw [if_neg e]; simp [Ne.symm e]
    · rw [if_neg c, if_neg c, if_neg (by omega)]
theorem set226 {S : St} {p : Nat} (hc : c0126 S) (hp : p < 6) {r : Bool} (hr : cf26 S (24 + p) = true → r = true) : wp (if (if r then (1 : Int) else 0) = 0 then (nx (up S 26 2 (orr (S 26 2) 0)) fun S' => some S') else (nx (up S 26 2 (orr (S 26 2) (shl 1 (p : Int)))) fun S' => some S')) (fun S' => c0126 S' ∧ (∀ x, cf26 S' x = setF (cf26 S) (24 + p) r x) ∧ kept [] [(26, 2)] S S') := by
  obtain ⟨x, hx⟩ := Int.eq_ofNat_of_zero_le hc.2.1
  have hx2 : x < 2 ^ 30 := by have := hc.2.2; rw [hx] at this; omega
  cases r with
  | false =>
    rw [if_pos (by decide), wp_nx, wp_some, hx, or_0 hx2]
    have e1 : up S 26 2 (x : Int) 26 2 = S 26 2 := by rw [up_eq, hx]
    have e2 : up S 26 2 (x : Int) 26 1 = S 26 1 := by rw [up_nk (by decide)]
    refine ⟨⟨by rw [e2]; exact hc.1, by rw [e1]; exact hc.2⟩, fun y => ?_, kept.upF kept.rf (by simp)⟩
    unfold setF
    have e3 : cf26 (up S 26 2 (x : Int)) y = cf26 S y := by unfold cf26; rw [e1, e2]
    rw [e3]
    by_cases e : y = 24 + p
    · subst e
      rw [if_pos rfl]
      cases hb : cf26 S (24 + p)
      · rfl
      · exact absurd (hr hb) (by decide)
    · rw [if_neg e]
  | true =>
    obtain ⟨o1, o2, o3⟩ := or_bit (k := p) hx2 (by omega)
    rw [if_neg (by decide), wp_nx, wp_some, hx, o1]
    have e2 : up S 26 2 ((x ||| 2 ^ p : Nat) : Int) 26 1 = S 26 1 := by rw [up_nk (by decide)]
    refine ⟨⟨by rw [e2]; exact hc.1, by rw [up_eq]; omega⟩, fun y => ?_, kept.upF kept.rf (by simp)⟩
    unfold setF cf26
    rw [e2, up_eq]
    by_cases c : y < 24
    · rw [if_pos c, if_pos c, if_neg (by omega)]
    · rw [if_neg c, if_neg c, bt_nat, o3, hx, bt_nat]
      by_cases e : y = 24 + p
      · subst e; simp
      · rw [if_neg e]; simp [show ¬ p = y - 24 by omega]
