/-! Math.min, Math.max -/
section GM
variable {p : Program} {l : Launch} {e : Env} {R : Room} {s : State} {m : MethodId} {args : Array Value} {below : List Frame} {meth : Method} {c : Code} {H : Heap} {locs : List Loc} {cells slots : Nat} {Q : State → Prop} {cc : ByteArray} {pc nL : Nat} {ls : Array Slot} {rest : List Value} {own : String} {index : Nat}
theorem gj_min (S : CallFix p m c cc nL s args gT own) (w1 : Cond.methodLink own index Lib.MathLoose.min_long.x ∈ gT) (w2 : Cond.static Lib.MathLoose.min_long.x ∈ gT) (w3 : Cond.initialized "java/lang/Math" ∈ gT) (w4 : Cond.code Lib.MathLoose.min_long.x Lib.MathLoose.min_long.code 4 (some .long) ∈ gT) (hls : ls.size = nL) {a z : Int} (hdg : decode cc pc = .ok (.invokestatic index, 3)) (hR : 1 ≤ R.frames ∧ (rest.map fun v => v.category).sum + 15 ≤ R.locals ∧ cells ≤ R.cells ∧ slots ≤ R.slots) (ha : -9223372036854775808 ≤ a ∧ a ≤ 9223372036854775807) (hz : -9223372036854775808 ≤ z ∧ z ≤ 9223372036854775807)
    (k : W p l e R s m args below meth c H locs cells slots Q (F0 m (pc + 3) ls (.long (jJ (min a z)) :: rest))) : W p l e R s m args below meth c H locs cells slots Q (F0 m pc ls (.long (jJ z) :: .long (jJ a) :: rest)) := by
  refine va_mmin_long S.1 S.2.1 (S.2.2.1.trans hls.symm) S.2.2.2.1 (S.2.2.2.2 _ w1) (S.2.2.2.2 _ w2) (S.2.2.2.2 _ w3) (S.2.2.2.2 _ w4) hR.1 hR.2.1 hR.2.2.1 hR.2.2.2 hdg ?_
  refine gj_as (min a z) ?_ k
  rw [Int.min_def]
  by_cases h : a ≤ z
  · simp [jJ_le ha hz, jJ_lt hz ha, h]
    try omega
  · simp [jJ_le ha hz, jJ_lt hz ha, h]
    try omega
theorem gi_min (S : CallFix p m c cc nL s args gT own) (w1 : Cond.methodLink own index Lib.Math.min.name ∈ gT) (w2 : Cond.static Lib.Math.min.name ∈ gT) (w3 : Cond.initialized "java/lang/Math" ∈ gT) (w4 : Cond.code Lib.Math.min.name Lib.Math.min.code 2 (some .int) ∈ gT) (hls : ls.size = nL) {a z : Int} (hdg : decode cc pc = .ok (.invokestatic index, 3)) (hR : 1 ≤ R.frames ∧ (rest.map fun v => v.category).sum + 13 ≤ R.locals ∧ cells ≤ R.cells ∧ slots ≤ R.slots) (ha : -2147483648 ≤ a ∧ a ≤ 2147483647) (hz : -2147483648 ≤ z ∧ z ≤ 2147483647)
    (k : W p l e R s m args below meth c H locs cells slots Q (F0 m (pc + 3) ls (.int (iI (min a z)) :: rest))) : W p l e R s m args below meth c H locs cells slots Q (F0 m pc ls (.int (iI z) :: .int (iI a) :: rest)) := by
  refine va_mmin S.1 S.2.1 (S.2.2.1.trans hls.symm) S.2.2.2.1 (S.2.2.2.2 _ w1) (S.2.2.2.2 _ w2) (S.2.2.2.2 _ w3) (S.2.2.2.2 _ w4) hR.1 hR.2.1 hR.2.2.1 hR.2.2.2 hdg ?_
  refine gi_as (min a z) ?_ k
  rw [Int.min_def]
  by_cases h : a ≤ z
  · simp [iI_le ha hz, iI_lt hz ha, iI_lt ha hz, h]
    try omega
  · simp [iI_le ha hz, iI_lt hz ha, iI_lt ha hz, h]
    try omega
theorem gi_max (S : CallFix p m c cc nL s args gT own) (w1 : Cond.methodLink own index Lib.Math.max.name ∈ gT) (w2 : Cond.static Lib.Math.max.name ∈ gT) (w3 : Cond.initialized "java/lang/Math" ∈ gT) (w4 : Cond.code Lib.Math.max.name Lib.Math.max.code 2 (some .int) ∈ gT) (hls : ls.size = nL) {a z : Int} (hdg : decode cc pc = .ok (.invokestatic index, 3)) (hR : 1 ≤ R.frames ∧ (rest.map fun v => v.category).sum + 13 ≤ R.locals ∧ cells ≤ R.cells ∧ slots ≤ R.slots) (ha : -2147483648 ≤ a ∧ a ≤ 2147483647) (hz : -2147483648 ≤ z ∧ z ≤ 2147483647)
    (k : W p l e R s m args below meth c H locs cells slots Q (F0 m (pc + 3) ls (.int (iI (max a z)) :: rest))) : W p l e R s m args below meth c H locs cells slots Q (F0 m pc ls (.int (iI z) :: .int (iI a) :: rest)) := by
  refine va_mmax S.1 S.2.1 (S.2.2.1.trans hls.symm) S.2.2.2.1 (S.2.2.2.2 _ w1) (S.2.2.2.2 _ w2) (S.2.2.2.2 _ w3) (S.2.2.2.2 _ w4) hR.1 hR.2.1 hR.2.2.1 hR.2.2.2 hdg ?_
  refine gi_as (max a z) ?_ k
  rw [Int.max_def]
  by_cases h : a ≤ z
  · by_cases h2 : a < z
    · simp [iI_lt ha hz, h, h2]
    · have : a = z := by omega
      subst this
      simp
  · have h2 : ¬ a < z := by omega
    simp [iI_lt ha hz, h, h2]
/-- long division of what is not below 0 -/
theorem jJ_div {a z : Int} (ha : 0 ≤ a ∧ a ≤ 9223372036854775807) (hz : 0 < z ∧ z ≤ 9223372036854775807) : jJ a / jJ z = jJ (a / z) := by
  refine Int64.toInt_inj.mp ?_
  have h1 : a / z ≤ a := Int.ediv_le_self z ha.1
  have h0 : 0 ≤ a / z := Int.ediv_nonneg ha.1 (by omega)
  rw [Int64.toInt_div_of_ne_right _ _ (by intro q; have := (jJ_eq (a := z) (b := -1) (by omega) (by omega)).mp (q.trans (by decide)); omega), jJ_toInt (by omega) (by omega), jJ_toInt (by omega) (by omega), jJ_toInt (by omega) (by omega), Int.tdiv_eq_ediv_of_nonneg ha.1]
theorem jJ_ne {z : Int} (hz : 0 < z ∧ z ≤ 9223372036854775807) : ¬ jJ z = 0 := fun q => by
  have := (jJ_eq (a := z) (b := 0) (by omega) (by omega)).mp (q.trans (by decide))
  omega
theorem jJ_rem {a z : Int} (ha : 0 ≤ a ∧ a ≤ 9223372036854775807) (hz : 0 < z ∧ z ≤ 9223372036854775807) : jJ a - jJ a / jJ z * jJ z = jJ (a % z) := by
  rw [jJ_div ha hz, jJ_mul, jJ_sub]
  congr 1
  rw [Int.mul_comm, Int.emod_def]
theorem gj_div (hx : p.tables.exec = Jvm.exec) (hb : c.code = cc) {a z : Int} (hdg : decode cc pc = .ok (.ldiv, 1)) (ha : 0 ≤ a ∧ a ≤ 9223372036854775807) (hz : 0 < z ∧ z ≤ 9223372036854775807) (k : W p l e R s m args below meth c H locs cells slots Q (F0 m (pc + 1) ls (.long (jJ (a / z)) :: rest))) : W p l e R s m args below meth c H locs cells slots Q (F0 m pc ls (.long (jJ z) :: .long (jJ a) :: rest)) := lv_ldiv hx hb hdg (jJ_ne hz) (gj_as _ (jJ_div ha hz) k)
theorem gj_rem (hx : p.tables.exec = Jvm.exec) (hb : c.code = cc) {a z : Int} (hdg : decode cc pc = .ok (.lrem, 1)) (ha : 0 ≤ a ∧ a ≤ 9223372036854775807) (hz : 0 < z ∧ z ≤ 9223372036854775807) (k : W p l e R s m args below meth c H locs cells slots Q (F0 m (pc + 1) ls (.long (jJ (a % z)) :: rest))) : W p l e R s m args below meth c H locs cells slots Q (F0 m pc ls (.long (jJ z) :: .long (jJ a) :: rest)) := lv_lrem hx hb hdg (jJ_ne hz) (gj_as _ (jJ_rem ha hz) k)
end GM
