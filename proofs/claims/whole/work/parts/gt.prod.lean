/-! bounds: a product over the kinds -/
def pr1 (x : Nat → Nat) : Nat → Nat
  | 0 => 1
  | k + 1 => pr1 x k * (1 + x k)
theorem pr_one {x : Nat} (h : x ≤ 24) : (1 + x) * 5 ^ x * 1296 ≤ 3125 * 6 ^ x := by
  have k : ∀ x : Fin 25, (1 + x.val) * 5 ^ x.val * 1296 ≤ 3125 * 6 ^ x.val := by decide +kernel
  exact k ⟨x, by omega⟩
theorem pr_all {x : Nat → Nat} : ∀ k : Nat, (∀ i, i < k → x i ≤ 24) → pr1 x k * 5 ^ sm k x * 1296 ^ k ≤ 3125 ^ k * 6 ^ sm k x := by
  intro k
  induction k with
  | zero => intro _; exact Nat.le_refl _
  | succ k ih =>
    intro h
    have a := ih (fun i hi => h i (by omega))
    have b := pr_one (h k (by omega))
    have e1 : pr1 x (k + 1) * 5 ^ sm (k + 1) x * 1296 ^ (k + 1) = (pr1 x k * 5 ^ sm k x * 1296 ^ k) * ((1 + x k) * 5 ^ x k * 1296) := by
      rw [sm_s, Nat.pow_add, Nat.pow_succ]
      show pr1 x k * (1 + x k) * (5 ^ sm k x * 5 ^ x k) * (1296 ^ k * 1296) = _
      rw [Nat.mul_mul_mul_comm (pr1 x k) (1 + x k), Nat.mul_mul_mul_comm]
    have e2 : 3125 ^ (k + 1) * 6 ^ sm (k + 1) x = (3125 ^ k * 6 ^ sm k x) * (3125 * 6 ^ x k) := by
      rw [sm_s, Nat.pow_succ, Nat.pow_add 6, Nat.mul_mul_mul_comm]
    rw [e1, e2]
    exact Nat.mul_le_mul a b
/-- six kinds, 24 parts in all -/
theorem pr_six {x : Nat → Nat} (h : sm 6 x ≤ 24) : pr1 x 6 ≤ 15625 := by
  have a := pr_all (x := x) 6 (fun i hi => Nat.le_trans (le_sm hi) h)
  obtain ⟨s, hs⟩ : ∃ s, s = sm 6 x := ⟨_, rfl⟩
  rw [← hs] at a h
  have k : ∀ s : Fin 25, 3125 ^ 6 * 6 ^ s.val < 15626 * (5 ^ s.val * 1296 ^ 6) := by decide +kernel
  have b := k ⟨s, by omega⟩
  have c : pr1 x 6 * (5 ^ s * 1296 ^ 6) < 15626 * (5 ^ s * 1296 ^ 6) := by
    rw [← Nat.mul_assoc]
    exact Nat.lt_of_le_of_lt a b
  have := Nat.lt_of_mul_lt_mul_right c
  omega
