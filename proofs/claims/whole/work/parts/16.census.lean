theorem dX0_thingsAt_0 : decode cX0_thingsAt 0 = .ok (.ldc2_w 64, 3) := by decide +kernel
theorem wm_1155 : (Jvm.Cond.constantLong "GrownKinds$Census" (64 : Nat) (1000000000000 : Int64)) ∈ gT := gT_in (List.mem_of_getElem? (i := 1155) (by decide +kernel)) (by decide +kernel)
theorem dX0_thingsAt_3 : decode cX0_thingsAt 3 = .ok (.aload_n 0, 1) := by decide +kernel
theorem dX0_thingsAt_4 : decode cX0_thingsAt 4 = .ok (.getfield 22, 3) := by decide +kernel
theorem dX0_thingsAt_7 : decode cX0_thingsAt 7 = .ok (.iload_n 1, 1) := by decide +kernel
theorem dX0_thingsAt_8 : decode cX0_thingsAt 8 = .ok (.bipush 64, 2) := by decide +kernel
theorem dX0_thingsAt_10 : decode cX0_thingsAt 10 = .ok (.imul, 1) := by decide +kernel
theorem dX0_thingsAt_11 : decode cX0_thingsAt 11 = .ok (.iload_n 2, 1) := by decide +kernel
theorem dX0_thingsAt_12 : decode cX0_thingsAt 12 = .ok (.bipush 8, 2) := by decide +kernel
theorem dX0_thingsAt_14 : decode cX0_thingsAt 14 = .ok (.imul, 1) := by decide +kernel
theorem dX0_thingsAt_15 : decode cX0_thingsAt 15 = .ok (.iadd, 1) := by decide +kernel
theorem dX0_thingsAt_16 : decode cX0_thingsAt 16 = .ok (.laload, 1) := by decide +kernel
theorem dX0_thingsAt_17 : decode cX0_thingsAt 17 = .ok (.invokestatic 66, 3) := by decide +kernel
theorem wm_1156 : (Jvm.Cond.methodLink "GrownKinds$Census" (66 : Nat) ({ cls := "java/lang/Math", name := "min", desc := "(JJ)J" } : Jvm.MethodName)) ∈ gT := gT_in (List.mem_of_getElem? (i := 1156) (by decide +kernel)) (by decide +kernel)
theorem wm_1002 : (Jvm.Cond.static ({ cls := "java/lang/Math", name := "min", desc := "(JJ)J" } : Jvm.MethodName)) ∈ gT := gT_in (List.mem_of_getElem? (i := 1002) (by decide +kernel)) (by decide +kernel)
theorem wm_189 : (Jvm.Cond.initialized "java/lang/Math") ∈ gT := gT_in (List.mem_of_getElem? (i := 189) (by decide +kernel)) (by decide +kernel)
theorem wm_1003 : (Jvm.Cond.code ({ cls := "java/lang/Math", name := "min", desc := "(JJ)J" } : Jvm.MethodName) prog_17_method_70_code (4 : Nat) (Option.some Jvm.ClassFile.FieldType.long)) ∈ gT := gT_in (List.mem_of_getElem? (i := 1003) (by decide +kernel)) (by decide +kernel)
theorem dX0_thingsAt_20 : decode cX0_thingsAt 20 = .ok (.lreturn, 1) := by decide +kernel
theorem dX0_totalAt_0 : decode cX0_totalAt 0 = .ok (.ldc2_w 64, 3) := by decide +kernel
theorem dX0_totalAt_3 : decode cX0_totalAt 3 = .ok (.aload_n 0, 1) := by decide +kernel
theorem dX0_totalAt_4 : decode cX0_totalAt 4 = .ok (.getfield 22, 3) := by decide +kernel
theorem dX0_totalAt_7 : decode cX0_totalAt 7 = .ok (.iload_n 1, 1) := by decide +kernel
theorem dX0_totalAt_8 : decode cX0_totalAt 8 = .ok (.bipush 64, 2) := by decide +kernel
theorem dX0_totalAt_10 : decode cX0_totalAt 10 = .ok (.imul, 1) := by decide +kernel
theorem dX0_totalAt_11 : decode cX0_totalAt 11 = .ok (.iload_n 2, 1) := by decide +kernel
theorem dX0_totalAt_12 : decode cX0_totalAt 12 = .ok (.bipush 8, 2) := by decide +kernel
theorem dX0_totalAt_14 : decode cX0_totalAt 14 = .ok (.imul, 1) := by decide +kernel
theorem dX0_totalAt_15 : decode cX0_totalAt 15 = .ok (.iadd, 1) := by decide +kernel
theorem dX0_totalAt_16 : decode cX0_totalAt 16 = .ok (.iload_n 3, 1) := by decide +kernel
theorem dX0_totalAt_17 : decode cX0_totalAt 17 = .ok (.iadd, 1) := by decide +kernel
theorem dX0_totalAt_18 : decode cX0_totalAt 18 = .ok (.laload, 1) := by decide +kernel
theorem dX0_totalAt_19 : decode cX0_totalAt 19 = .ok (.invokestatic 66, 3) := by decide +kernel
theorem dX0_totalAt_22 : decode cX0_totalAt 22 = .ok (.lreturn, 1) := by decide +kernel
theorem dX11_plus_0 : decode cX11_plus 0 = .ok (.ldc2_w 379, 3) := by decide +kernel
theorem wm_1000 : (Jvm.Cond.constantLong "GrownKinds" (379 : Nat) (1000000000000000000 : Int64)) ∈ gT := gT_in (List.mem_of_getElem? (i := 1000) (by decide +kernel)) (by decide +kernel)
theorem dX11_plus_3 : decode cX11_plus 3 = .ok (.lload_n 0, 1) := by decide +kernel
theorem dX11_plus_4 : decode cX11_plus 4 = .ok (.lload_n 2, 1) := by decide +kernel
theorem dX11_plus_5 : decode cX11_plus 5 = .ok (.ladd, 1) := by decide +kernel
theorem dX11_plus_6 : decode cX11_plus 6 = .ok (.invokestatic 234, 3) := by decide +kernel
theorem wm_1001 : (Jvm.Cond.methodLink "GrownKinds" (234 : Nat) ({ cls := "java/lang/Math", name := "min", desc := "(JJ)J" } : Jvm.MethodName)) ∈ gT := gT_in (List.mem_of_getElem? (i := 1001) (by decide +kernel)) (by decide +kernel)
theorem dX11_plus_9 : decode cX11_plus 9 = .ok (.lreturn, 1) := by decide +kernel
theorem dX0_between_0 : decode cX0_between 0 = .ok (.lconst 0, 1) := by decide +kernel
theorem dX0_between_1 : decode cX0_between 1 = .ok (.lstore 4, 2) := by decide +kernel
theorem dX0_between_3 : decode cX0_between 3 = .ok (.iload_n 2, 1) := by decide +kernel
theorem dX0_between_4 : decode cX0_between 4 = .ok (.istore 6, 2) := by decide +kernel
theorem dX0_between_6 : decode cX0_between 6 = .ok (.iload 6, 2) := by decide +kernel
theorem dX0_between_8 : decode cX0_between 8 = .ok (.iload_n 3, 1) := by decide +kernel
theorem dX0_between_9 : decode cX0_between 9 = .ok (.if_icmp .gt 27, 3) := by decide +kernel
theorem dX0_between_36 : decode cX0_between 36 = .ok (.lload 4, 2) := by decide +kernel
theorem dX0_between_38 : decode cX0_between 38 = .ok (.lreturn, 1) := by decide +kernel
theorem dX0_between_12 : decode cX0_between 12 = .ok (.ldc2_w 64, 3) := by decide +kernel
theorem dX0_between_15 : decode cX0_between 15 = .ok (.lload 4, 2) := by decide +kernel
theorem dX0_between_17 : decode cX0_between 17 = .ok (.aload_n 0, 1) := by decide +kernel
theorem dX0_between_18 : decode cX0_between 18 = .ok (.iload_n 1, 1) := by decide +kernel
theorem dX0_between_19 : decode cX0_between 19 = .ok (.iload 6, 2) := by decide +kernel
theorem dX0_between_21 : decode cX0_between 21 = .ok (.invokevirtual 88, 3) := by decide +kernel
theorem wm_1183 : (Jvm.Cond.methodLink "GrownKinds$Census" (88 : Nat) ({ cls := "GrownKinds$Census", name := "thingsAt", desc := "(II)J" } : Jvm.MethodName)) ∈ gT := gT_in (List.mem_of_getElem? (i := 1183) (by decide +kernel)) (by decide +kernel)
theorem wm_1152 : (Jvm.Cond.instanceMethod ({ cls := "GrownKinds$Census", name := "thingsAt", desc := "(II)J" } : Jvm.MethodName)) ∈ gT := gT_in (List.mem_of_getElem? (i := 1152) (by decide +kernel)) (by decide +kernel)
theorem wm_1153 : (Jvm.Cond.selects "GrownKinds$Census" ({ cls := "GrownKinds$Census", name := "thingsAt", desc := "(II)J" } : Jvm.MethodName) ({ cls := "GrownKinds$Census", name := "thingsAt", desc := "(II)J" } : Jvm.MethodName)) ∈ gT := gT_in (List.mem_of_getElem? (i := 1153) (by decide +kernel)) (by decide +kernel)
theorem wm_1154 : (Jvm.Cond.code ({ cls := "GrownKinds$Census", name := "thingsAt", desc := "(II)J" } : Jvm.MethodName) prog_2_method_4_code (3 : Nat) (Option.some Jvm.ClassFile.FieldType.long)) ∈ gT := gT_in (List.mem_of_getElem? (i := 1154) (by decide +kernel)) (by decide +kernel)
theorem dX0_between_24 : decode cX0_between 24 = .ok (.ladd, 1) := by decide +kernel
theorem dX0_between_25 : decode cX0_between 25 = .ok (.invokestatic 66, 3) := by decide +kernel
theorem dX0_between_28 : decode cX0_between 28 = .ok (.lstore 4, 2) := by decide +kernel
theorem dX0_between_30 : decode cX0_between 30 = .ok (.iinc 6 1, 3) := by decide +kernel
theorem dX0_between_33 : decode cX0_between 33 = .ok (.goto (-27), 3) := by decide +kernel
/-- sums that go up to 1,000,000,000,000 -/
def sumC (f : Int → Int) (lo : Int) : Nat → Int
  | 0 => 0
  | k + 1 => min 1000000000000 (sumC f lo k + f (lo + k))
theorem sumC_b {f : Int → Int} {lo : Int} (hf : ∀ x, 0 ≤ f x) : ∀ k, 0 ≤ sumC f lo k ∧ sumC f lo k ≤ 1000000000000
  | 0 => by simp [sumC]
  | k + 1 => by
    have := sumC_b (lo := lo) hf k
    have h2 := hf (lo + k)
    simp only [sumC]
    omega
set_option maxHeartbeats 4000000 in
set_option maxRecDepth 100000 in
theorem wX0_thingsAt (l : Launch) {D : va_G} {cy : Nat → ClassId} {b n : Nat} (hn : 105 ≤ n) {E : Nat → va_E}  {mode40 : Int} {tot : Nat → Int} (h40 : E 40 = O40 b mode40) (h43 : E 43 = cJ cy 384 tot) (a1 : Int) (a2 : Int) (htot : ∀ j, 0 ≤ tot j ∧ tot j ≤ 1000000000000000000) (hk1 : 0 ≤ a1 ∧ a1 < 6) (hk2 : 0 ≤ a2 ∧ a2 < 8) (hb1 : (-2147483648 ≤ a1 ∧ a1 ≤ 2147483647)) (hb2 : (-2147483648 ≤ a2 ∧ a2 ≤ 2147483647)) : gL l yX0_thingsAt cX0_thingsAt 3 1 0 0 D cy b n E [.ref (b + 40), .int (iI a1), .int (iI a2)] (fun r u => r = jJ (min 1000000000000 (tot (a1 * 64 + a2 * 8).toNat)) ∧ (0 ≤ (min 1000000000000 (tot (a1 * 64 + a2 * 8).toNat)) ∧ (min 1000000000000 (tot (a1 * 64 + a2 * 8).toNat)) ≤ 1000000000000) ∧ u.1 = n ∧ u.2 = E) := by
  refine gL_of (by decide) (Nat.le_of_ble_eq_true rfl) ?_
  intro p e s m args below meth c S hr hlk hin hsz ls hl hG
  have hx := S.1
  have hb := S.2.1
  have hl : lv_has ls 3 [(0, .ref (b + 40)), (1, .int (iI a1)), (2, .int (iI a2))] := hl
  refine lv_ldc2 (v := 1000000000000) hx hb S.2.2.2.1 (S.2.2.2.2 _ wm_1155) dX0_thingsAt_0 ?_
  refine gj_as 1000000000000 (by decide) ?_
  refine lv_aload_n hx hb dX0_thingsAt_3 rfl (lv_at hl 0 rfl) ?_
  refine g_get S hG 40 4 (show gEof hG 40 = O40 b mode40 from h40) cpX0 wm_406 dX0_thingsAt_4 rfl (by omega) (by decide) ?_
  refine lv_iload_n hx hb dX0_thingsAt_7 rfl (lv_at hl 1 rfl) ?_
  refine lv_bipush (v := iI 64) hx hb dX0_thingsAt_8 (by decide) ?_
  refine gi_mul hx hb dX0_thingsAt_10 ?_
  refine lv_iload_n hx hb dX0_thingsAt_11 rfl (lv_at hl 2 rfl) ?_
  refine lv_bipush (v := iI 8) hx hb dX0_thingsAt_12 (by decide) ?_
  refine gi_mul hx hb dX0_thingsAt_14 ?_
  refine gi_add hx hb dX0_thingsAt_15 ?_
  refine gi_nm (fun x_1 ex_1 => ?_)
  refine gj_ald S hG 43 (show gEof hG 43 = cJ cy 384 tot from h43) (by omega) dX0_thingsAt_16 (by omega) (by decide) ?_
  refine gj_nm (fun x_2 ex_2 => ?_)
  have bx_2 := htot (x_1.toNat)
  refine gj_min S wm_1156 wm_1002 wm_189 wm_1003 hl.1 dX0_thingsAt_17 ⟨Nat.le_of_ble_eq_true rfl, Nat.le_of_ble_eq_true rfl, Nat.le_of_ble_eq_true rfl, Nat.le_of_ble_eq_true rfl⟩ (by omega) (by omega) ?_
  exact g_lret S hr hlk hG (by omega) dX0_thingsAt_20 ⟨Nat.le_of_ble_eq_true rfl, Nat.le_of_ble_eq_true rfl⟩ ⟨congrArg jJ (by subst_vars; first | rfl | omega | ((repeat' split) <;> omega)), (by subst_vars; omega), rfl, rfl⟩
set_option maxHeartbeats 4000000 in
set_option maxRecDepth 100000 in
theorem wX0_totalAt (l : Launch) {D : va_G} {cy : Nat → ClassId} {b n : Nat} (hn : 105 ≤ n) {E : Nat → va_E}  {mode40 : Int} {tot : Nat → Int} (h40 : E 40 = O40 b mode40) (h43 : E 43 = cJ cy 384 tot) (a1 : Int) (a2 : Int) (a3 : Int) (htot : ∀ j, 0 ≤ tot j ∧ tot j ≤ 1000000000000000000) (hk1 : 0 ≤ a1 ∧ a1 < 6) (hk2 : 0 ≤ a2 ∧ a2 < 8) (hk3 : 0 ≤ a3 ∧ a3 < 8) (hb1 : (-2147483648 ≤ a1 ∧ a1 ≤ 2147483647)) (hb2 : (-2147483648 ≤ a2 ∧ a2 ≤ 2147483647)) (hb3 : (-2147483648 ≤ a3 ∧ a3 ≤ 2147483647)) : gL l yX0_totalAt cX0_totalAt 4 1 0 0 D cy b n E [.ref (b + 40), .int (iI a1), .int (iI a2), .int (iI a3)] (fun r u => r = jJ (min 1000000000000 (tot (a1 * 64 + a2 * 8 + a3).toNat)) ∧ (0 ≤ (min 1000000000000 (tot (a1 * 64 + a2 * 8 + a3).toNat)) ∧ (min 1000000000000 (tot (a1 * 64 + a2 * 8 + a3).toNat)) ≤ 1000000000000) ∧ u.1 = n ∧ u.2 = E) := by
  refine gL_of (by decide) (Nat.le_of_ble_eq_true rfl) ?_
  intro p e s m args below meth c S hr hlk hin hsz ls hl hG
  have hx := S.1
  have hb := S.2.1
  have hl : lv_has ls 4 [(0, .ref (b + 40)), (1, .int (iI a1)), (2, .int (iI a2)), (3, .int (iI a3))] := hl
  refine lv_ldc2 (v := 1000000000000) hx hb S.2.2.2.1 (S.2.2.2.2 _ wm_1155) dX0_totalAt_0 ?_
  refine gj_as 1000000000000 (by decide) ?_
  refine lv_aload_n hx hb dX0_totalAt_3 rfl (lv_at hl 0 rfl) ?_
  refine g_get S hG 40 4 (show gEof hG 40 = O40 b mode40 from h40) cpX0 wm_406 dX0_totalAt_4 rfl (by omega) (by decide) ?_
  refine lv_iload_n hx hb dX0_totalAt_7 rfl (lv_at hl 1 rfl) ?_
  refine lv_bipush (v := iI 64) hx hb dX0_totalAt_8 (by decide) ?_
  refine gi_mul hx hb dX0_totalAt_10 ?_
  refine lv_iload_n hx hb dX0_totalAt_11 rfl (lv_at hl 2 rfl) ?_
  refine lv_bipush (v := iI 8) hx hb dX0_totalAt_12 (by decide) ?_
  refine gi_mul hx hb dX0_totalAt_14 ?_
  refine gi_add hx hb dX0_totalAt_15 ?_
  refine lv_iload_n hx hb dX0_totalAt_16 rfl (lv_at hl 3 rfl) ?_
  refine gi_add hx hb dX0_totalAt_17 ?_
  refine gi_nm (fun x_1 ex_1 => ?_)
  refine gj_ald S hG 43 (show gEof hG 43 = cJ cy 384 tot from h43) (by omega) dX0_totalAt_18 (by omega) (by decide) ?_
  refine gj_nm (fun x_2 ex_2 => ?_)
  have bx_2 := htot (x_1.toNat)
  refine gj_min S wm_1156 wm_1002 wm_189 wm_1003 hl.1 dX0_totalAt_19 ⟨Nat.le_of_ble_eq_true rfl, Nat.le_of_ble_eq_true rfl, Nat.le_of_ble_eq_true rfl, Nat.le_of_ble_eq_true rfl⟩ (by omega) (by omega) ?_
  exact g_lret S hr hlk hG (by omega) dX0_totalAt_22 ⟨Nat.le_of_ble_eq_true rfl, Nat.le_of_ble_eq_true rfl⟩ ⟨congrArg jJ (by subst_vars; first | rfl | omega | ((repeat' split) <;> omega)), (by subst_vars; omega), rfl, rfl⟩
set_option maxHeartbeats 4000000 in
set_option maxRecDepth 100000 in
theorem wX11_plus (l : Launch) {D : va_G} {cy : Nat → ClassId} {b n : Nat} (hn : 105 ≤ n) {E : Nat → va_E}   (a1 : Int) (a2 : Int) (hp : 0 ≤ a1 ∧ a1 ≤ 1000000000000000000 ∧ 0 ≤ a2 ∧ a2 ≤ 1000000000000000000) (hb1 : (-9223372036854775808 ≤ a1 ∧ a1 ≤ 9223372036854775807)) (hb2 : (-9223372036854775808 ≤ a2 ∧ a2 ≤ 9223372036854775807)) : gL l yX11_plus cX11_plus 4 1 0 0 D cy b n E [.long (jJ a1), .long (jJ a2)] (fun r u => r = jJ (min 1000000000000000000 (a1 + a2)) ∧ (0 ≤ (min 1000000000000000000 (a1 + a2)) ∧ (min 1000000000000000000 (a1 + a2)) ≤ 1000000000000000000) ∧ u.1 = n ∧ u.2 = E) := by
  refine gL_of (by decide) (Nat.le_of_ble_eq_true rfl) ?_
  intro p e s m args below meth c S hr hlk hin hsz ls hl hG
  have hx := S.1
  have hb := S.2.1
  have hl : lv_has ls 4 [(0, .long (jJ a1)), (2, .long (jJ a2))] := hl
  refine lv_ldc2 (v := 1000000000000000000) hx hb S.2.2.2.1 (S.2.2.2.2 _ wm_1000) dX11_plus_0 ?_
  refine gj_as 1000000000000000000 (by decide) ?_
  refine lv_lload_n hx hb dX11_plus_3 rfl (lv_at hl 0 rfl) ?_
  refine lv_lload_n hx hb dX11_plus_4 rfl (lv_at hl 1 rfl) ?_
  refine gj_add hx hb dX11_plus_5 ?_
  refine gj_nm (fun x_1 ex_1 => ?_)
  refine gj_min S wm_1001 wm_1002 wm_189 wm_1003 hl.1 dX11_plus_6 ⟨Nat.le_of_ble_eq_true rfl, Nat.le_of_ble_eq_true rfl, Nat.le_of_ble_eq_true rfl, Nat.le_of_ble_eq_true rfl⟩ (by omega) (by omega) ?_
  exact g_lret S hr hlk hG (by omega) dX11_plus_9 ⟨Nat.le_of_ble_eq_true rfl, Nat.le_of_ble_eq_true rfl⟩ ⟨congrArg jJ (by subst_vars; first | rfl | omega | ((repeat' split) <;> omega)), (by subst_vars; omega), rfl, rfl⟩
theorem wV_0_88 : gWV "GrownKinds$Census" 88 yX0_thingsAt cX0_thingsAt 3 (some .long) := ⟨wm_1183, wm_1152, wm_1153, wm_180, wm_1154, by decide +kernel, by decide +kernel⟩
set_option maxHeartbeats 4000000 in
set_option maxRecDepth 100000 in
theorem wX0_between (l : Launch) {D : va_G} {cy : Nat → ClassId} {b n : Nat} (hn : 105 ≤ n) {E : Nat → va_E}  {mode40 : Int} {tot : Nat → Int} (h40 : E 40 = O40 b mode40) (h43 : E 43 = cJ cy 384 tot) (a1 : Int) (a2 : Int) (a3 : Int) (htot : ∀ j, 0 ≤ tot j ∧ tot j ≤ 1000000000000000000) (hk1 : 0 ≤ a1 ∧ a1 < 6) (hk2 : 0 ≤ a2 ∧ a2 ≤ 8) (hk3 : 0 ≤ a3 ∧ a3 < 8) (hb1 : (-2147483648 ≤ a1 ∧ a1 ≤ 2147483647)) (hb2 : (-2147483648 ≤ a2 ∧ a2 ≤ 2147483647)) (hb3 : (-2147483648 ≤ a3 ∧ a3 ≤ 2147483647)) : gL l yX0_between cX0_between 7 2 0 0 D cy b n E [.ref (b + 40), .int (iI a1), .int (iI a2), .int (iI a3)] (fun r u => r = jJ (sumC (fun x => min 1000000000000 (tot (a1 * 64 + x * 8).toNat)) a2 (a3 + 1 - a2).toNat) ∧ (0 ≤ (sumC (fun x => min 1000000000000 (tot (a1 * 64 + x * 8).toNat)) a2 (a3 + 1 - a2).toNat) ∧ (sumC (fun x => min 1000000000000 (tot (a1 * 64 + x * 8).toNat)) a2 (a3 + 1 - a2).toNat) ≤ 1000000000000) ∧ u.1 = n ∧ u.2 = E) := by
  refine gL_of (by decide) (Nat.le_of_ble_eq_true rfl) ?_
  intro p e s m args below meth c S hr hlk hin hsz ls hl hG
  have hx := S.1
  have hb := S.2.1
  have hl : lv_has ls 7 [(0, .ref (b + 40)), (1, .int (iI a1)), (2, .int (iI a2)), (3, .int (iI a3))] := hl
  refine lv_lconst (v := jJ 0) hx hb dX0_between_0 (by decide) ?_
  refine lv_lstore (lv' := [(4, .long (jJ 0)), (0, .ref (b + 40)), (1, .int (iI a1)), (2, .int (iI a2)), (3, .int (iI a3))]) hx hb dX0_between_1 hl (by decide) rfl (fun ls hl => ?_)
  refine lv_iload_n hx hb dX0_between_3 rfl (lv_at hl 3 rfl) ?_
  refine lv_istore (lv' := [(6, .int (iI a2)), (4, .long (jJ 0)), (0, .ref (b + 40)), (1, .int (iI a1)), (2, .int (iI a2)), (3, .int (iI a3))]) hx hb dX0_between_4 hl (by decide) rfl (fun ls hl => ?_)
  have loop6 : ∀ (t6 : Nat) (nv : Int) (sv : Int) (H : Heap) (locs : List Loc) (ls : Array Slot), Int.toNat (8 - nv) < t6 → (a2 ≤ nv ∧ (nv ≤ a3 + 1 ∨ nv = a2)) → (sv = sumC (fun x => min 1000000000000 (tot (a1 * 64 + x * 8).toNat)) a2 (nv - a2).toNat) → gW D cy b n s H locs E → lv_has ls 7 [(6, .int (iI nv)), (4, .long (jJ sv)), (0, .ref (b + 40)), (1, .int (iI a1)), (2, .int (iI a2)), (3, .int (iI a3))] → W p l e (gRm 2 0 0) s m args below meth c H locs 0 0 (gQL D cy b s args below 0 0 (fun r u => r = jJ (sumC (fun x => min 1000000000000 (tot (a1 * 64 + x * 8).toNat)) a2 (a3 + 1 - a2).toNat) ∧ (0 ≤ (sumC (fun x => min 1000000000000 (tot (a1 * 64 + x * 8).toNat)) a2 (a3 + 1 - a2).toNat) ∧ (sumC (fun x => min 1000000000000 (tot (a1 * 64 + x * 8).toNat)) a2 (a3 + 1 - a2).toNat) ≤ 1000000000000) ∧ u.1 = n ∧ u.2 = E)) (F0 m 6 ls []) := by
    intro t6
    induction t6 with
    | zero => intro nv sv H locs ls hm6; exact absurd hm6 (Nat.not_lt_zero _)
    | succ t6 ih6 =>
      intro nv sv H locs ls hm6 hnv hsv  hG hl
      have hsb := sumC_b (f := (fun x => min 1000000000000 (tot (a1 * 64 + x * 8).toNat))) (lo := a2) (fun x => by have := htot (a1 * 64 + x * 8).toNat; omega) (nv - a2).toNat; rw [← hsv] at hsb
      refine lv_iload hx hb dX0_between_6 (lv_at hl 0 rfl) ?_
      refine lv_iload_n hx hb dX0_between_8 rfl (lv_at hl 5 rfl) ?_
      refine gi_icmp_gt (tgt := 36) hx hb dX0_between_9 (by decide) (by omega) (by omega) (fun c_1 => ?_) (fun c_1 => ?_)
      · refine lv_lload hx hb dX0_between_36 (lv_at hl 1 rfl) ?_
        exact g_lret S hr hlk hG (by omega) dX0_between_38 ⟨Nat.le_of_ble_eq_true rfl, Nat.le_of_ble_eq_true rfl⟩ ⟨congrArg jJ (by rw [hsv, show (nv - a2).toNat = (a3 + 1 - a2).toNat by omega]), (sumC_b (fun x => by have := htot (a1 * 64 + x * 8).toNat; omega) _), rfl, rfl⟩
      · refine lv_ldc2 (v := 1000000000000) hx hb S.2.2.2.1 (S.2.2.2.2 _ wm_1155) dX0_between_12 ?_
        refine gj_as 1000000000000 (by decide) ?_
        refine lv_lload hx hb dX0_between_15 (lv_at hl 1 rfl) ?_
        refine lv_aload_n hx hb dX0_between_17 rfl (lv_at hl 2 rfl) ?_
        refine lv_iload_n hx hb dX0_between_18 rfl (lv_at hl 3 rfl) ?_
        refine lv_iload hx hb dX0_between_19 (lv_at hl 0 rfl) ?_
        refine g_vl (As := [.int (iI a1), .int (iI nv)]) (rest := [.long (jJ sv), .long (jJ 1000000000000)]) S hG (by omega) (wX0_thingsAt l hn (show gEof hG 40 = O40 b mode40 from h40) (show gEof hG 43 = cJ cy 384 tot from h43) a1 nv (by omega) (by omega) (by omega) (by omega) (by omega)) wV_0_88 (show gEof hG 40 = O40 b mode40 from h40) cpX0 (by omega) dX0_between_21 rfl hl.1 (ar := 2) (by decide +kernel) rfl ⟨Nat.le_of_ble_eq_true rfl, Nat.le_of_ble_eq_true rfl, Nat.le_of_ble_eq_true rfl, Nat.le_of_ble_eq_true rfl⟩ (Nat.le_of_ble_eq_true rfl) (fun r_2 u_3 H locs hp_4 hG => ?_)
        obtain ⟨nu_3, Eu_3⟩ := u_3
        dsimp only at hp_4 hG
        obtain ⟨rfl, rb_5, en_6, ee_7⟩ := hp_4
        have hG := gW_eq2 hG en_6 ee_7
        refine gj_nm (fun x_8 ex_8 => ?_)
        refine gj_add hx hb dX0_between_24 ?_
        refine gj_nm (fun x_9 ex_9 => ?_)
        refine gj_min S wm_1156 wm_1002 wm_189 wm_1003 hl.1 dX0_between_25 ⟨Nat.le_of_ble_eq_true rfl, Nat.le_of_ble_eq_true rfl, Nat.le_of_ble_eq_true rfl, Nat.le_of_ble_eq_true rfl⟩ (by omega) (by omega) ?_
        refine gj_nm (fun x_10 ex_10 => ?_)
        refine lv_lstore (lv' := [(4, .long (jJ x_10)), (6, .int (iI nv)), (0, .ref (b + 40)), (1, .int (iI a1)), (2, .int (iI a2)), (3, .int (iI a3))]) hx hb dX0_between_28 hl (by decide) rfl (fun ls hl => ?_)
        refine lv_iinc (v := iI (nv + 1)) (lv' := [(6, .int (iI (nv + 1))), (4, .long (jJ x_10)), (0, .ref (b + 40)), (1, .int (iI a1)), (2, .int (iI a2)), (3, .int (iI a3))]) hx hb dX0_between_30 hl (k := 1) rfl ((iI_add nv (1)).trans (congrArg iI (by omega))) (by decide) rfl (fun ls hl => ?_)
        refine lv_goto (tgt := 6) hx hb dX0_between_33 (by decide) ?_
        exact ih6 (nv + 1) x_10 _ _ ls (by omega) (by omega) (by rw [show (nv + 1 - a2).toNat = (nv - a2).toNat + 1 by omega]; simp only [sumC]; rw [← hsv, show a2 + ((nv - a2).toNat : Int) = nv by omega]; subst_vars; rfl) hG (lv_sub hl [0, 1, 2, 3, 4, 5] rfl)
  exact loop6 (Int.toNat (8 - a2) + 1) a2 0 _ _ ls (by omega) (by omega) (by rw [show (a2 - a2).toNat = 0 by omega]; rfl) hG (lv_sub hl [0, 1, 2, 3, 4, 5] rfl)
