/-! shifts and bytes, as numbers of their own -/
def ush (a k : Int) : Int := ((iI a).toUInt32 >>> ((iI k).toUInt32 &&& Int32.toUInt32 31)).toInt32.toInt
def s8 (y : Int) : Int := (iI y).toInt8.toInt32.toInt
def an (a z : Int) : Int := (iI a &&& iI z).toInt
def orr (a z : Int) : Int := (iI a ||| iI z).toInt
def xo (a z : Int) : Int := (iI a ^^^ iI z).toInt
def shl (a k : Int) : Int := (iI a <<< (iI k &&& 31)).toInt
def shr (a k : Int) : Int := (iI a >>> (iI k &&& 31)).toInt
theorem ush_b (a k : Int) : -2147483648 ≤ ush a k ∧ ush a k ≤ 2147483647 := i32_b _
theorem s8_b (y : Int) : -2147483648 ≤ s8 y ∧ s8 y ≤ 2147483647 := i32_b _
theorem an_b (a z : Int) : -2147483648 ≤ an a z ∧ an a z ≤ 2147483647 := i32_b _
theorem orr_b (a z : Int) : -2147483648 ≤ orr a z ∧ orr a z ≤ 2147483647 := i32_b _
theorem shl_b (a z : Int) : -2147483648 ≤ shl a z ∧ shl a z ≤ 2147483647 := i32_b _
theorem shr_b (a z : Int) : -2147483648 ≤ shr a z ∧ shr a z ≤ 2147483647 := i32_b _
theorem s8_n (y : Int) : vp_nar .byte (iI (s8 y)) = iI (s8 y) := by
  rw [vp_nar_byte]
  unfold s8
  rw [iI_of]
  simp
section GK
variable {p : Program} {l : Launch} {e : Env} {R : Room} {s : State} {m : MethodId} {args : Array Value} {below : List Frame} {meth : Method} {c : Code} {H : Heap} {locs : List Loc} {cells slots : Nat} {Q : State → Prop} {cc : ByteArray} {pc : Nat} {ls : Array Slot} {rest : List Value}
theorem gi_ushr (hx : p.tables.exec = Jvm.exec) (hb : c.code = cc) {a z : Int} (hdg : decode cc pc = .ok (.iushr, 1)) (k : W p l e R s m args below meth c H locs cells slots Q (F0 m (pc + 1) ls (.int (iI (ush a z)) :: rest))) : W p l e R s m args below meth c H locs cells slots Q (F0 m pc ls (.int (iI z) :: .int (iI a) :: rest)) := lv_iushr hx hb hdg (iI_of _).symm k
theorem gi_i2b (hx : p.tables.exec = Jvm.exec) (hb : c.code = cc) {a : Int} (hdg : decode cc pc = .ok (.i2b, 1)) (k : W p l e R s m args below meth c H locs cells slots Q (F0 m (pc + 1) ls (.int (iI (s8 a)) :: rest))) : W p l e R s m args below meth c H locs cells slots Q (F0 m pc ls (.int (iI a) :: rest)) := lv_i2b hx hb hdg (iI_of _).symm k
theorem gi_and (hx : p.tables.exec = Jvm.exec) (hb : c.code = cc) {a z : Int} (hdg : decode cc pc = .ok (.iand, 1)) (k : W p l e R s m args below meth c H locs cells slots Q (F0 m (pc + 1) ls (.int (iI (an a z)) :: rest))) : W p l e R s m args below meth c H locs cells slots Q (F0 m pc ls (.int (iI z) :: .int (iI a) :: rest)) := lv_iand hx hb hdg (gi_as _ (iI_of _).symm k)
theorem gi_or (hx : p.tables.exec = Jvm.exec) (hb : c.code = cc) {a z : Int} (hdg : decode cc pc = .ok (.ior, 1)) (k : W p l e R s m args below meth c H locs cells slots Q (F0 m (pc + 1) ls (.int (iI (orr a z)) :: rest))) : W p l e R s m args below meth c H locs cells slots Q (F0 m pc ls (.int (iI z) :: .int (iI a) :: rest)) := lv_ior hx hb hdg (gi_as _ (iI_of _).symm k)
theorem gi_xor (hx : p.tables.exec = Jvm.exec) (hb : c.code = cc) {a z : Int} (hdg : decode cc pc = .ok (.ixor, 1)) (k : W p l e R s m args below meth c H locs cells slots Q (F0 m (pc + 1) ls (.int (iI (xo a z)) :: rest))) : W p l e R s m args below meth c H locs cells slots Q (F0 m pc ls (.int (iI z) :: .int (iI a) :: rest)) := lv_ixor hx hb hdg (gi_as _ (iI_of _).symm k)
theorem gi_shl (hx : p.tables.exec = Jvm.exec) (hb : c.code = cc) {a z : Int} (hdg : decode cc pc = .ok (.ishl, 1)) (k : W p l e R s m args below meth c H locs cells slots Q (F0 m (pc + 1) ls (.int (iI (shl a z)) :: rest))) : W p l e R s m args below meth c H locs cells slots Q (F0 m pc ls (.int (iI z) :: .int (iI a) :: rest)) := lv_ishl hx hb hdg (gi_as _ (iI_of _).symm k)
theorem gi_shr (hx : p.tables.exec = Jvm.exec) (hb : c.code = cc) {a z : Int} (hdg : decode cc pc = .ok (.ishr, 1)) (k : W p l e R s m args below meth c H locs cells slots Q (F0 m (pc + 1) ls (.int (iI (shr a z)) :: rest))) : W p l e R s m args below meth c H locs cells slots Q (F0 m pc ls (.int (iI z) :: .int (iI a) :: rest)) := lv_ishr hx hb hdg (gi_as _ (iI_of _).symm k)
/-- division: of what is not below 0 -/
theorem iI_div {a z : Int} (ha : 0 ≤ a ∧ a ≤ 2147483647) (hz : 0 < z ∧ z ≤ 2147483647) : iI a / iI z = iI (a / z) := by
  refine Int32.toInt_inj.mp ?_
  have h1 : a / z ≤ a := Int.ediv_le_self z ha.1
  have h0 : 0 ≤ a / z := Int.ediv_nonneg ha.1 (by omega)
  rw [Int32.toInt_div_of_ne_right _ _ (by intro q; have := (iI_eq (a := z) (b := -1) (by omega) (by omega)).mp (q.trans (by decide)); omega), iI_toInt (by omega) (by omega), iI_toInt (by omega) (by omega), iI_toInt (by omega) (by omega), Int.tdiv_eq_ediv_of_nonneg ha.1]
theorem iI_ne {z : Int} (hz : 0 < z ∧ z ≤ 2147483647) : ¬ iI z = 0 := fun q => by
  have := (iI_eq (a := z) (b := 0) (by omega) (by omega)).mp (by rw [iI_0]; exact q)
  omega
theorem iI_rem {a z : Int} (ha : 0 ≤ a ∧ a ≤ 2147483647) (hz : 0 < z ∧ z ≤ 2147483647) : iI a - iI a / iI z * iI z = iI (a % z) := by
  rw [iI_div ha hz, iI_mul, iI_sub]
  congr 1
  rw [Int.mul_comm, Int.emod_def]
theorem gi_div (hx : p.tables.exec = Jvm.exec) (hb : c.code = cc) {a z : Int} (hdg : decode cc pc = .ok (.idiv, 1)) (ha : 0 ≤ a ∧ a ≤ 2147483647) (hz : 0 < z ∧ z ≤ 2147483647) (k : W p l e R s m args below meth c H locs cells slots Q (F0 m (pc + 1) ls (.int (iI (a / z)) :: rest))) : W p l e R s m args below meth c H locs cells slots Q (F0 m pc ls (.int (iI z) :: .int (iI a) :: rest)) := lv_idiv hx hb hdg (iI_ne hz) (gi_as _ (iI_div ha hz) k)
theorem gi_rem (hx : p.tables.exec = Jvm.exec) (hb : c.code = cc) {a z : Int} (hdg : decode cc pc = .ok (.irem, 1)) (ha : 0 ≤ a ∧ a ≤ 2147483647) (hz : 0 < z ∧ z ≤ 2147483647) (k : W p l e R s m args below meth c H locs cells slots Q (F0 m (pc + 1) ls (.int (iI (a % z)) :: rest))) : W p l e R s m args below meth c H locs cells slots Q (F0 m pc ls (.int (iI z) :: .int (iI a) :: rest)) := lv_irem hx hb hdg (iI_ne hz) (gi_as _ (iI_rem ha hz) k)
end GK
