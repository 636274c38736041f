/-! feed() -/
theorem byt (y : Int) : ∃ v : Nat, v ≤ 255 ∧ an y 255 = (v : Int) ∧ s8 y = sb (v : Int) := by
  refine ⟨(iI y).toBitVec.toNat % 256, by omega, ?_, ?_⟩
  · refine i32_nat (x := iI y &&& iI 255) ?_ (by omega)
    rw [Int32.toBitVec_and, show (iI 255).toBitVec = BitVec.ofNat 32 255 from iI_bv 255]
    refine BitVec.eq_of_toNat_eq ?_
    rw [BitVec.toNat_and, BitVec.toNat_ofNat, BitVec.toNat_ofNat, Nat.mod_eq_of_lt (show 255 < 2 ^ 32 by decide), show (255 : Nat) = 2 ^ 8 - 1 from rfl, Nat.and_two_pow_sub_one_eq_mod]
    omega
  · have e : s8 y = Int.bmod ((iI y).toBitVec.toNat : Int) 256 := by
      show ((iI y).toInt8.toInt32).toInt = _
      rw [Int8.toInt_toInt32, Int32.toInt_toInt8, show (iI y).toInt = (iI y).toBitVec.toInt from rfl, BitVec.toInt_eq_toNat_bmod]
      exact Int.bmod_bmod_of_dvd (by decide)
    rw [e]
    unfold sb
    rw [Int.bmod_def]
    have : (((iI y).toBitVec.toNat : Int)) % ((256 : Nat) : Int) = (((iI y).toBitVec.toNat % 256 : Nat) : Int) := by omega
    rw [this]
    split <;> split <;> omega
theorem e_put4 {a : Int} : ∀ (d : Nat) (f n : Nat) (S : St), d ≤ 4 → d < f → n + d ≤ 400 → S 0 1 = (n : Int) → ∃ S' : St, mX11_putFour_3 a f (8 * (d : Int) - 8) S = some S' ∧ S' 0 1 = ((n + d : Nat) : Int) ∧ kept [1] [(0, 1)] S S' ∧ (∀ i : Nat, i < d → S' 1 ((n + i : Nat) : Int) = s8 (ush a (8 * ((d - 1 - i : Nat) : Int)))) ∧ (∀ j : Int, j < (n : Int) → S' 1 j = S 1 j) := by
  intro d
  induction d with
  | zero =>
    intro f n S h4 hf hn h1
    obtain ⟨g, rfl⟩ : ∃ g, f = g + 1 := ⟨f - 1, by omega⟩
    refine ⟨S, ?_, by rw [h1]; omega, kept.rf, fun i hi => by omega, fun _ _ => rfl⟩
    rw [mX11_putFour_3, gd_t (by omega), if_pos (by omega)]
  | succ d ih =>
    intro f n S h4 hf hn h1
    obtain ⟨g, rfl⟩ : ∃ g, f = g + 1 := ⟨f - 1, by omega⟩
    have e1 : 8 * ((d + 1 : Nat) : Int) - 8 = 8 * (d : Int) := by omega
    obtain ⟨v, v1, v2, v3⟩ := byt (ush a (8 * (d : Int)))
    have sbb : -128 ≤ s8 (ush a (8 * (d : Int))) ∧ s8 (ush a (8 * (d : Int))) ≤ 127 := by
      rw [v3]; unfold sb; split <;> omega
    obtain ⟨S', r1, r2, r3, r4, r5⟩ := ih g (n + 1) (up (up S 1 (n : Int) (s8 (ush a (8 * (d : Int))))) 0 1 ((n : Int) + 1)) (by omega) (by omega) (by omega) (by rw [up_eq]; omega)
    refine ⟨S', ?_, by rw [r2]; omega, kept.trans ((kept.rf.upA (by decide)).upF (by decide)) r3, fun i hi => ?_, fun j hj => ?_⟩
    · rw [mX11_putFour_3, e1, gd_t (by omega), if_neg (by omega), h1, gd_t (by omega), if_neg (by omega), gd_t ⟨by omega, sbb⟩, nx_e, show (up S 1 (n : Int) (s8 (ush a (8 * (d : Int))))) 0 1 = S 0 1 from rfl, h1, nx_e]
      exact r1
    · by_cases c : i = 0
      · subst c
        rw [r5 _ (by omega)]
        show (up S 1 (n : Int) _) 1 _ = _
        rw [show ((n + 0 : Nat) : Int) = (n : Int) from rfl, up_eq, show d + 1 - 1 - 0 = d by omega]
      · have := r4 (i - 1) (by omega)
        rw [show n + 1 + (i - 1) = n + i by omega, show d - 1 - (i - 1) = d + 1 - 1 - i by omega] at this
        exact this
    · rw [r5 j (by omega)]
      show (up S 1 (n : Int) _) 1 j = _
      rw [up_nk (by omega)]
theorem e_putFour {a : Int} {n : Nat} {S : St} (hn : n + 4 ≤ 400) (h1 : S 0 1 = (n : Int)) : ∃ S' : St, mX11_putFour S a = some S' ∧ S' 0 1 = ((n + 4 : Nat) : Int) ∧ kept [1] [(0, 1)] S S' ∧ (∀ i : Nat, i < 4 → S' 1 ((n + i : Nat) : Int) = s8 (ush a (24 - 8 * (i : Int)))) ∧ (∀ j : Int, j < (n : Int) → S' 1 j = S 1 j) := by
  obtain ⟨S', r1, r2, r3, r4, r5⟩ := e_put4 (a := a) 4 FU n S (by omega) (by unfold FU; omega) hn h1
  refine ⟨S', ?_, r2, r3, fun i hi => ?_, r5⟩
  · unfold mX11_putFour
    rw [bd1_e (show mX11_putFour_3 a FU 24 S = some S' from r1)]
  · rw [r4 i hi, show 8 * ((4 - 1 - i : Nat) : Int) = 24 - 8 * (i : Int) by omega]
def fv (a b c d e : Int) (k : Nat) : Int := if k = 0 then a else if k = 1 then b else if k = 2 then c else if k = 3 then d else e
theorem c_feed {S : St} {n : Nat} {a b c d e : Int} (hn : n + 20 ≤ 400) (h1 : S 0 1 = (n : Int)) : ∃ S' : St, mX11_feed S a b c d e = some (((n + 20 : Nat) : Int), S') ∧ S' 0 1 = ((n + 20 : Nat) : Int) ∧ kept [1] [(0, 1)] S S' ∧ (∀ i : Nat, i < 20 → S' 1 ((n + i : Nat) : Int) = s8 (ush (fv a b c d e (i / 4)) (24 - 8 * ((i % 4 : Nat) : Int)))) ∧ (∀ j : Int, j < (n : Int) → S' 1 j = S 1 j) := by
  obtain ⟨S1, a1, a2, a3, a4, a5⟩ := e_putFour (a := a) (n := n) (S := S) (by omega) h1
  obtain ⟨S2, b1, b2, b3, b4, b5⟩ := e_putFour (a := b) (n := n + 4) (S := S1) (by omega) a2
  obtain ⟨S3, c1, c2, c3, c4, c5⟩ := e_putFour (a := c) (n := n + 4 + 4) (S := S2) (by omega) b2
  obtain ⟨S4, d1, d2, d3, d4, d5⟩ := e_putFour (a := d) (n := n + 4 + 4 + 4) (S := S3) (by omega) c2
  obtain ⟨S5, e1, e2, e3, e4, e5⟩ := e_putFour (a := e) (n := n + 4 + 4 + 4 + 4) (S := S4) (by omega) d2
  refine ⟨S5, ?_, by rw [e2], kept.trans (kept.trans (kept.trans (kept.trans a3 b3) c3) d3) e3, fun i hi => ?_, fun j hj => ?_⟩
  · unfold mX11_feed
    rw [h1, gd_t (by omega), if_pos (by omega), bd1_e a1, bd1_e b1, bd1_e c1, bd1_e d1, bd1_e e1, e2]
  · unfold fv
    by_cases q0 : i < 4
    · rw [e5 _ (by omega), d5 _ (by omega), c5 _ (by omega), b5 _ (by omega), a4 i q0, if_pos (by omega), show i % 4 = i by omega]
    · by_cases q1 : i < 8
      · have := b4 (i - 4) (by omega)
        rw [show n + 4 + (i - 4) = n + i by omega] at this
        rw [e5 _ (by omega), d5 _ (by omega), c5 _ (by omega), this, if_neg (by omega), if_pos (by omega), show i - 4 = i % 4 by omega]
      · by_cases q2 : i < 12
        · have := c4 (i - 8) (by omega)
          rw [show n + 4 + 4 + (i - 8) = n + i by omega] at this
          rw [e5 _ (by omega), d5 _ (by omega), this, if_neg (by omega), if_neg (by omega), if_pos (by omega), show i - 8 = i % 4 by omega]
        · by_cases q3 : i < 16
          · have := d4 (i - 12) (by omega)
            rw [show n + 4 + 4 + 4 + (i - 12) = n + i by omega] at this
            rw [e5 _ (by omega), this, if_neg (by omega), if_neg (by omega), if_neg (by omega), if_pos (by omega), show i - 12 = i % 4 by omega]
          · have := e4 (i - 16) (by omega)
            rw [show n + 4 + 4 + 4 + 4 + (i - 16) = n + i by omega] at this
            rw [this, if_neg (by omega), if_neg (by omega), if_neg (by omega), if_neg (by omega), show i - 16 = i % 4 by omega]
  · rw [e5 _ (by omega), d5 _ (by omega), c5 _ (by omega), b5 _ (by omega), a5 _ hj]
