/-! acts -/
def bcOK (v : Nat) : Bool := (mJ6_bitCount_0f7a4 (v : Int) == mX12_bitsOf (v : Int)) && (match mX12_bitsOf (v : Int) with | some r => decide (0 ≤ r ∧ r ≤ 10) | none => false)
theorem bc_ok : ∀ v : Nat, v < 1024 → bcOK v = true := by decide +kernel
theorem bc_all {v : Nat} (hv : v < 1024) : ∃ r : Int, mJ6_bitCount_0f7a4 (v : Int) = some r ∧ mX12_bitsOf (v : Int) = some r ∧ 0 ≤ r ∧ r ≤ 10 := by
  have h := bc_ok v hv
  unfold bcOK at h
  rw [Bool.and_eq_true] at h
  obtain ⟨h1, h2⟩ := h
  have h1' := eq_of_beq h1
  cases e : mX12_bitsOf (v : Int) with
  | none => rw [e] at h2; cases h2
  | some r =>
    rw [e] at h2 h1'
    have := of_decide_eq_true h2
    exact ⟨r, h1', rfl, this⟩
theorem sb_ok : ∀ t : Nat, t < 10 → ∀ v : Nat, v < 1024 → v.testBit t = true → 2 ^ t ≤ v ∧ v - 2 ^ t = v ^^^ 2 ^ t := by decide +kernel
