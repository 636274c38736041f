/-! the left shift of a long; functions that go as the loops of boxes go -/
def lsh (a k : Int) : Int := (jJ a <<< ((iI k).toInt64 &&& 63)).toInt
theorem lsh_b (a k : Int) : -9223372036854775808 ≤ lsh a k ∧ lsh a k ≤ 9223372036854775807 := i64_b _
theorem lsh_1 {k : Int} (h : 0 ≤ k ∧ k ≤ 30) : lsh 1 k = 2 ^ k.toNat := by
  obtain ⟨n, rfl⟩ := Int.eq_ofNat_of_zero_le h.1
  have h2 : ∀ n : Nat, n < 31 → lsh 1 (n : Int) = 2 ^ n := by decide
  exact h2 n (by omega)
section GLS
variable {p : Program} {l : Launch} {e : Env} {R : Room} {s : State} {m : MethodId} {args : Array Value} {below : List Frame} {meth : Method} {c : Code} {H : Heap} {locs : List Loc} {cells slots : Nat} {Q : State → Prop} {cc : ByteArray} {pc : Nat} {ls : Array Slot} {rest : List Value}
theorem gj_shl (hx : p.tables.exec = Jvm.exec) (hb : c.code = cc) {a z : Int} (hdg : decode cc pc = .ok (.lshl, 1)) (k : W p l e R s m args below meth c H locs cells slots Q (F0 m (pc + 1) ls (.long (jJ (lsh a z)) :: rest))) : W p l e R s m args below meth c H locs cells slots Q (F0 m pc ls (.int (iI z) :: .long (jJ a) :: rest)) := lv_lshl hx hb hdg (jJ_of _).symm k
end GLS
/-- the least b (from one on) so that 2 to the b is n or more -/
def bfG (n : Int) : Nat → Int → Int
  | 0, b => b
  | k + 1, b => if lsh 1 b < n then bfG n k (b + 1) else b
/-- the first size (from one on, up to mo) of which there are v or more -/
def firstG (f : Int → Int) (v mo : Int) : Nat → Int → Int
  | 0, _ => -1
  | k + 1, x => if mo < x then -1 else if v ≤ f x then x else firstG f v mo k (x + 1)
