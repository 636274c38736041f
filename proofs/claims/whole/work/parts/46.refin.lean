/-! the reference: rings, rows, bags of so many or of any number -/
theorem mod_nat {a b : Nat} : (a : Int) % (b : Int) = ((a % b : Nat) : Int) := rfl
theorem div_nat {a b : Nat} : (a : Int) / (b : Int) = ((a / b : Nat) : Int) := rfl
theorem phi_le {d : Nat} : phi d ≤ 6 := by
  unfold phi
  split
  · omega
  · split
    · omega
    · split <;> omega
theorem sm_le {n B : Nat} {f : Nat → Nat} (h : ∀ i, i < n → f i ≤ B) : sm n f ≤ n * B := by
  induction n with
  | zero => rw [Nat.zero_mul]; exact Nat.le_refl _
  | succ n ih =>
    rw [sm_s, Nat.succ_mul]
    have := ih (fun i hi => h i (by omega))
    have := h n (by omega)
    omega
theorem rm6 {S : St} {N n k : Nat} (hN : 1 ≤ N ∧ N ≤ 7) (hn : n ≤ 7) (hk : k ≤ 7) {T : Nat → Nat → Nat → Nat} (hT : ∀ j a q : Nat, j ≤ 7 → a ≤ n → q ≤ 7 → S 92 ((pl j a q : Nat) : Int) = ((min LL (T j a q) : Nat) : Int)) : ∀ d v f : Nat, v + d = N → d < f → mX12_ringsMany_6 S (N : Int) (n : Int) (k : Int) f ((v + 1 : Nat) : Int) ((sm v (fun d => if N % (d + 1) = 0 ∧ n % (d + 1) = 0 ∧ k % (d + 1) = 0 then phi (d + 1) * min LL (T (N / (d + 1)) (n / (d + 1)) (k / (d + 1))) else 0) : Nat) : Int) = some ((sm N (fun d => if N % (d + 1) = 0 ∧ n % (d + 1) = 0 ∧ k % (d + 1) = 0 then phi (d + 1) * min LL (T (N / (d + 1)) (n / (d + 1)) (k / (d + 1))) else 0) : Nat) : Int) := by
  intro d
  induction d with
  | zero =>
    intro v f hv hf
    obtain ⟨g, rfl⟩ : ∃ g, f = g + 1 := ⟨f - 1, by omega⟩
    rw [mX12_ringsMany_6, gd_t (by omega), if_pos (by omega), show v = N by omega]
  | succ d ih =>
    intro v f hv hf
    obtain ⟨g, rfl⟩ : ∃ g, f = g + 1 := ⟨f - 1, by omega⟩
    have ih' := ih (v + 1) g (by omega) (by omega)
    rw [show ((v + 1 + 1 : Nat) : Int) = ((v + 1 : Nat) : Int) + 1 by omega, sm_s] at ih'
    have m1 := Nat.mod_lt N (show v + 1 > 0 by omega)
    have m2 := Nat.mod_lt n (show v + 1 > 0 by omega)
    have m3 := Nat.mod_lt k (show v + 1 > 0 by omega)
    rw [mX12_ringsMany_6, gd_t (by omega), if_neg (by omega), gd_t (by omega), mod_nat, gd_t (by omega)]
    by_cases c1 : N % (v + 1) = 0
    · rw [if_pos (by omega), gd_t (by omega), mod_nat, gd_t (by omega)]
      by_cases c2 : n % (v + 1) = 0
      · rw [if_pos (by omega), gd_t (by omega), mod_nat, gd_t (by omega)]
        by_cases c3 : k % (v + 1) = 0
        · have d1 := Nat.div_le_self N (v + 1)
          have d2 := Nat.div_le_self n (v + 1)
          have d3 := Nat.div_le_self k (v + 1)
          have b : pl (N / (v + 1)) (n / (v + 1)) (k / (v + 1)) < 512 := Nat.lt_of_lt_of_le (pl_lt (by omega) (by omega) (show N / (v + 1) < 8 by omega)) (by decide)
          have ph := phi_le (d := v + 1)
          rw [if_pos (by omega), bd1_e (e_turnsOf (by omega)), show (((v + 1 : Nat) : Int)).toNat = v + 1 from rfl, gd_t (by omega), div_nat, div_nat, div_nat, bd1_e e_pl, gd_t (by omega), nx_e, hT _ _ _ (by omega) (by omega) (by omega), ← Int.natCast_mul, ← Int.natCast_add]
          rw [if_pos ⟨c1, c2, c3⟩] at ih'
          exact ih'
        · rw [if_neg (by omega)]
          rw [if_neg (by omega), Nat.add_zero] at ih'
          exact ih'
      · rw [if_neg (by omega)]
        rw [if_neg (by omega), Nat.add_zero] at ih'
        exact ih'
    · rw [if_neg (by omega)]
      rw [if_neg (by omega), Nat.add_zero] at ih'
      exact ih'
theorem LL_eq : LL = 100000000000000000 := rfl
/-- rings of N things, as the reference tells them -/
theorem e_ringsMany {S : St} {N n k : Nat} (hN : 1 ≤ N ∧ N ≤ 7) (hn : n ≤ 7) (hk : k ≤ 7) {c : Nat → Nat → Nat} (hT : ∀ j a q : Nat, j ≤ 7 → a ≤ n → q ≤ 7 → S 92 ((pl j a q : Nat) : Int) = ((min LL (tr c j a q) : Nat) : Int)) : mX12_ringsMany S (N : Int) (n : Int) (k : Int) = some ((min CC (rgu c N n k / N) : Nat) : Int) := by
  have l := rm6 hN hn hk hT N 0 FU (by omega) (by unfold FU; omega)
  have l : mX12_ringsMany_6 S (N : Int) (n : Int) (k : Int) FU 1 0 = some ((rgs LL c N n k : Nat) : Int) := l
  have bd : rgs LL c N n k ≤ N * (6 * LL) := by
    refine sm_le fun d hd => ?_
    by_cases h : N % (d + 1) = 0 ∧ n % (d + 1) = 0 ∧ k % (d + 1) = 0
    · rw [if_pos h]
      exact Nat.mul_le_mul phi_le (Nat.min_le_left _ _)
    · rw [if_neg h]; exact Nat.zero_le _
  have bd2 : N * (6 * LL) ≤ 7 * (6 * LL) := Nat.mul_le_mul_right _ hN.2
  have hd : rgs LL c N n k / N ≤ rgs LL c N n k := Nat.div_le_self _ _
  have bd3 : rgs LL c N n k ≤ 4200000000000000000 := Nat.le_trans bd (Nat.le_trans bd2 (by rw [LL_eq]; decide))
  have key : inL ((rgs LL c N n k / N : Nat) : Int) := by
    generalize rgs LL c N n k / N = Q at hd ⊢
    omega
  unfold mX12_ringsMany
  rw [bd1_e l, gd_t (by omega), gd_t (by omega), div_nat, gd_t key]
  congr 1
  have e : min CC (rgs LL c N n k / N) = min CC (rgu c N n k / N) := ring_cap hN (by rw [LL_eq, CC_eq]; decide)
  rw [← e, CC_eq]
  generalize rgs LL c N n k / N = Q
  omega
/-- of so many things, or (0) of any number, uncapped; T: rows or bags by number, size, letters -/
def inT (ring : Bool) (T : Nat → Nat → Nat → Nat) (c : Nat → Nat → Nat) (num n k : Nat) : Nat :=
  if num = 0 then sm (n + 1) (fun j => if ring then (if j = 0 then 0 else rgu c j n k / j) else T j n k) else (if ring then rgu c num n k / num else T num n k)
theorem CC_pos1 : 1 ≤ CC := CC_pos
theorem im56 {S : St} {sort n k : Nat} (hn : n ≤ 7) (hk : k ≤ 7) (hs : 3 ≤ sort ∧ sort ≤ 6) {c : Nat → Nat → Nat} {T : Nat → Nat → Nat → Nat} (hR : sort = 6 → ∀ j a q : Nat, j ≤ 7 → a ≤ n → q ≤ 7 → S 92 ((pl j a q : Nat) : Int) = ((min LL (tr c j a q) : Nat) : Int)) (hT : sort ≠ 6 → ∀ j : Nat, j ≤ 7 → ∃ x : Nat, S 92 ((pl j n k : Nat) : Int) = (x : Int) ∧ x ≤ LL ∧ min CC x = min CC (T j n k)) : ∀ d j f : Nat, j + d = n + 1 → (sort = 6 → 1 ≤ j) → d < f → mX12_inMany_56 S (sort : Int) (n : Int) (k : Int) f (j : Int) ((min CC (sm j (fun j => if sort = 6 then (if j = 0 then 0 else rgu c j n k / j) else T j n k)) : Nat) : Int) = some ((min CC (sm (n + 1) (fun j => if sort = 6 then (if j = 0 then 0 else rgu c j n k / j) else T j n k)) : Nat) : Int) := by
  intro d
  induction d with
  | zero =>
    intro j f hj h6 hf
    obtain ⟨g, rfl⟩ : ∃ g, f = g + 1 := ⟨f - 1, by omega⟩
    rw [mX12_inMany_56, gd_t (by omega), if_pos (by omega), show j = n + 1 by omega]
  | succ d ih =>
    intro j f hj h6 hf
    obtain ⟨g, rfl⟩ : ∃ g, f = g + 1 := ⟨f - 1, by omega⟩
    have ih' := ih (j + 1) g (by omega) (by omega) (by omega)
    rw [show ((j + 1 : Nat) : Int) = (j : Int) + 1 by omega, sm_s] at ih'
    rw [mX12_inMany_56, gd_t (by omega), if_neg (by omega), gd_t (by omega)]
    have cl : ∀ x : Nat, min CC x ≤ 1000000000000 := fun x => Nat.min_le_left _ _
    by_cases c6 : sort = 6
    · have := h6 c6
      rw [if_pos (by omega), bd1_e (e_ringsMany (by omega) hn hk (hR c6))]
      have a1 := cl (sm j (fun j => if sort = 6 then (if j = 0 then 0 else rgu c j n k / j) else T j n k))
      have a2 := cl (rgu c j n k / j)
      rw [bd1_e (e_addC (by omega))]
      rw [if_pos c6, if_neg (by omega), ← min_add] at ih'
      exact ih'
    · have b : pl j n k < 512 := Nat.lt_of_lt_of_le (pl_lt (by omega) (by omega) (show j < 8 by omega)) (by decide)
      obtain ⟨x, x1, x2, x3⟩ := hT c6 j (by omega)
      rw [LL_eq] at x2
      have a1 := cl (sm j (fun j => if sort = 6 then (if j = 0 then 0 else rgu c j n k / j) else T j n k))
      have a2 := cl x
      rw [if_neg (by omega), bd1_e e_pl, gd_t (by omega), x1, gd_t (by omega), show min (1000000000000 : Int) (x : Int) = ((min CC x : Nat) : Int) by rw [CC_eq]; omega]
      rw [bd1_e (e_addC (by omega)), x3]
      rw [if_neg c6, ← min_add] at ih'
      exact ih'
theorem e_inMany {S : St} {sort num n k : Nat} (hn : n ≤ 7) (hk : k ≤ 7) (hnum : num ≤ 7) (hs : 3 ≤ sort ∧ sort ≤ 6) {c : Nat → Nat → Nat} {T : Nat → Nat → Nat → Nat} (hR : sort = 6 → ∀ j a q : Nat, j ≤ 7 → a ≤ n → q ≤ 7 → S 92 ((pl j a q : Nat) : Int) = ((min LL (tr c j a q) : Nat) : Int)) (hT : sort ≠ 6 → ∀ j : Nat, j ≤ 7 → ∃ x : Nat, S 92 ((pl j n k : Nat) : Int) = (x : Int) ∧ x ≤ LL ∧ min CC x = min CC (T j n k)) : mX12_inMany S (sort : Int) (num : Int) (n : Int) (k : Int) = some ((min CC (inT (sort == 6) T c num n k) : Nat) : Int) := by
  unfold mX12_inMany inT
  rw [gd_t (by omega)]
  by_cases z : num = 0
  · rw [if_pos (by omega), if_pos z]
    by_cases c6 : sort = 6
    · rw [bd1_e (show (gd (inI (sort : Int)) <| if (sort : Int) = 6 then (some (1 : Int)) else (some 0)) = some 1 by rw [gd_t (by omega), if_pos (by omega)])]
      have l := im56 hn hk hs hR hT n 1 FU (by omega) (fun _ => by omega) (by unfold FU; omega)
      rw [sm_s, if_pos c6, if_pos rfl] at l
      rw [bd1_e (show mX12_inMany_56 S (sort : Int) (n : Int) (k : Int) FU 1 0 = _ from l)]
      congr 4
      funext j
      rw [if_pos c6, c6]
      rfl
    · rw [bd1_e (show (gd (inI (sort : Int)) <| if (sort : Int) = 6 then (some (1 : Int)) else (some 0)) = some 0 by rw [gd_t (by omega), if_neg (by omega)])]
      have l := im56 hn hk hs hR hT (n + 1) 0 FU (by omega) (fun h => absurd h c6) (by unfold FU; omega)
      rw [bd1_e (show mX12_inMany_56 S (sort : Int) (n : Int) (k : Int) FU 0 0 = _ from l)]
      congr 4
      funext j
      rw [if_neg c6, if_neg (by simp [c6])]
  · rw [if_neg (by omega), gd_t (by omega), if_neg z]
    by_cases c6 : sort = 6
    · rw [if_pos (by omega), bd1_e (e_ringsMany (by omega) hn hk (hR c6)), if_pos (by simp [c6])]
    · have b : pl num n k < 512 := Nat.lt_of_lt_of_le (pl_lt (by omega) (by omega) (show num < 8 by omega)) (by decide)
      obtain ⟨x, x1, x2, x3⟩ := hT c6 num hnum
      rw [LL_eq] at x2
      rw [if_neg (by omega), bd1_e e_pl, gd_t (by omega), x1, gd_t (by omega), if_neg (by simp [c6]), ← x3]
      congr 1
      rw [CC_eq]; omega
