theorem dX11_things_0 : decode cX11_things 0 = .ok (.aload_n 0, 1) := by decide +kernel
theorem dX11_things_1 : decode cX11_things 1 = .ok (.iload_n 1, 1) := by decide +kernel
theorem dX11_things_2 : decode cX11_things 2 = .ok (.iload_n 2, 1) := by decide +kernel
theorem dX11_things_3 : decode cX11_things 3 = .ok (.invokevirtual 175, 3) := by decide +kernel
theorem dX11_things_6 : decode cX11_things 6 = .ok (.ifCond .eq 15, 3) := by decide +kernel
theorem dX11_things_21 : decode cX11_things 21 = .ok (.ldc2_w 210, 3) := by decide +kernel
theorem wm_1166 : (Jvm.Cond.constantLong "GrownKinds" (210 : Nat) (-2 : Int64)) ∈ gT := gT_in (List.mem_of_getElem? (i := 1166) (by decide +kernel)) (by decide +kernel)
theorem dX11_things_24 : decode cX11_things 24 = .ok (.lreturn, 1) := by decide +kernel
theorem dX11_things_9 : decode cX11_things 9 = .ok (.aload_n 0, 1) := by decide +kernel
theorem dX11_things_10 : decode cX11_things 10 = .ok (.getfield 51, 3) := by decide +kernel
theorem dX11_things_13 : decode cX11_things 13 = .ok (.iload_n 1, 1) := by decide +kernel
theorem dX11_things_14 : decode cX11_things 14 = .ok (.iload_n 2, 1) := by decide +kernel
theorem dX11_things_15 : decode cX11_things 15 = .ok (.invokevirtual 206, 3) := by decide +kernel
theorem wm_1151 : (Jvm.Cond.methodLink "GrownKinds" (206 : Nat) ({ cls := "GrownKinds$Census", name := "thingsAt", desc := "(II)J" } : Jvm.MethodName)) ∈ gT := gT_in (List.mem_of_getElem? (i := 1151) (by decide +kernel)) (by decide +kernel)
theorem dX11_things_18 : decode cX11_things 18 = .ok (.goto 6, 3) := by decide +kernel
theorem dX11_boxed_0 : decode cX11_boxed 0 = .ok (.aload_n 0, 1) := by decide +kernel
theorem dX11_boxed_1 : decode cX11_boxed 1 = .ok (.iload_n 1, 1) := by decide +kernel
theorem dX11_boxed_2 : decode cX11_boxed 2 = .ok (.iload_n 2, 1) := by decide +kernel
theorem dX11_boxed_3 : decode cX11_boxed 3 = .ok (.iload_n 3, 1) := by decide +kernel
theorem dX11_boxed_4 : decode cX11_boxed 4 = .ok (.invokevirtual 333, 3) := by decide +kernel
theorem wm_1175 : (Jvm.Cond.methodLink "GrownKinds" (333 : Nat) ({ cls := "GrownKinds", name := "boxy", desc := "(III)Z" } : Jvm.MethodName)) ∈ gT := gT_in (List.mem_of_getElem? (i := 1175) (by decide +kernel)) (by decide +kernel)
theorem wm_1177 : (Jvm.Cond.instanceMethod ({ cls := "GrownKinds", name := "boxy", desc := "(III)Z" } : Jvm.MethodName)) ∈ gT := gT_in (List.mem_of_getElem? (i := 1177) (by decide +kernel)) (by decide +kernel)
theorem wm_50 : Cond.selects "GrownKinds" ⟨"GrownKinds", "boxy", "(III)Z"⟩ ⟨"GrownKinds", "boxy", "(III)Z"⟩ ∈ gT := gT_in (List.mem_of_getElem? (i := 50) (by decide +kernel)) (by decide +kernel)
theorem wm_1178 : (Jvm.Cond.code ({ cls := "GrownKinds", name := "boxy", desc := "(III)Z" } : Jvm.MethodName) prog_1_method_13_code (4 : Nat) (Option.some Jvm.ClassFile.FieldType.boolean)) ∈ gT := gT_in (List.mem_of_getElem? (i := 1178) (by decide +kernel)) (by decide +kernel)
theorem dX11_boxed_7 : decode cX11_boxed 7 = .ok (.ifCond .eq 16, 3) := by decide +kernel
theorem dX11_boxed_23 : decode cX11_boxed 23 = .ok (.ldc2_w 210, 3) := by decide +kernel
theorem dX11_boxed_26 : decode cX11_boxed 26 = .ok (.lreturn, 1) := by decide +kernel
theorem dX11_boxed_10 : decode cX11_boxed 10 = .ok (.aload_n 0, 1) := by decide +kernel
theorem dX11_boxed_11 : decode cX11_boxed 11 = .ok (.getfield 51, 3) := by decide +kernel
theorem dX11_boxed_14 : decode cX11_boxed 14 = .ok (.iload_n 1, 1) := by decide +kernel
theorem dX11_boxed_15 : decode cX11_boxed 15 = .ok (.iload_n 2, 1) := by decide +kernel
theorem dX11_boxed_16 : decode cX11_boxed 16 = .ok (.iload_n 3, 1) := by decide +kernel
theorem dX11_boxed_17 : decode cX11_boxed 17 = .ok (.invokevirtual 337, 3) := by decide +kernel
theorem wm_1179 : (Jvm.Cond.methodLink "GrownKinds" (337 : Nat) ({ cls := "GrownKinds$Census", name := "between", desc := "(III)J" } : Jvm.MethodName)) ∈ gT := gT_in (List.mem_of_getElem? (i := 1179) (by decide +kernel)) (by decide +kernel)
theorem wm_1180 : (Jvm.Cond.instanceMethod ({ cls := "GrownKinds$Census", name := "between", desc := "(III)J" } : Jvm.MethodName)) ∈ gT := gT_in (List.mem_of_getElem? (i := 1180) (by decide +kernel)) (by decide +kernel)
theorem wm_1181 : (Jvm.Cond.selects "GrownKinds$Census" ({ cls := "GrownKinds$Census", name := "between", desc := "(III)J" } : Jvm.MethodName) ({ cls := "GrownKinds$Census", name := "between", desc := "(III)J" } : Jvm.MethodName)) ∈ gT := gT_in (List.mem_of_getElem? (i := 1181) (by decide +kernel)) (by decide +kernel)
theorem wm_1182 : (Jvm.Cond.code ({ cls := "GrownKinds$Census", name := "between", desc := "(III)J" } : Jvm.MethodName) prog_2_method_9_code (7 : Nat) (Option.some Jvm.ClassFile.FieldType.long)) ∈ gT := gT_in (List.mem_of_getElem? (i := 1182) (by decide +kernel)) (by decide +kernel)
theorem dX11_boxed_20 : decode cX11_boxed 20 = .ok (.goto 6, 3) := by decide +kernel
theorem dX11_upto_0 : decode cX11_upto 0 = .ok (.aload_n 0, 1) := by decide +kernel
theorem dX11_upto_1 : decode cX11_upto 1 = .ok (.iload_n 1, 1) := by decide +kernel
theorem dX11_upto_2 : decode cX11_upto 2 = .ok (.iconst 0, 1) := by decide +kernel
theorem dX11_upto_3 : decode cX11_upto 3 = .ok (.iload_n 2, 1) := by decide +kernel
theorem dX11_upto_4 : decode cX11_upto 4 = .ok (.invokevirtual 212, 3) := by decide +kernel
theorem wm_1171 : (Jvm.Cond.methodLink "GrownKinds" (212 : Nat) ({ cls := "GrownKinds", name := "boxed", desc := "(III)J" } : Jvm.MethodName)) ∈ gT := gT_in (List.mem_of_getElem? (i := 1171) (by decide +kernel)) (by decide +kernel)
theorem wm_1172 : (Jvm.Cond.instanceMethod ({ cls := "GrownKinds", name := "boxed", desc := "(III)J" } : Jvm.MethodName)) ∈ gT := gT_in (List.mem_of_getElem? (i := 1172) (by decide +kernel)) (by decide +kernel)
theorem wm_1173 : (Jvm.Cond.selects "GrownKinds" ({ cls := "GrownKinds", name := "boxed", desc := "(III)J" } : Jvm.MethodName) ({ cls := "GrownKinds", name := "boxed", desc := "(III)J" } : Jvm.MethodName)) ∈ gT := gT_in (List.mem_of_getElem? (i := 1173) (by decide +kernel)) (by decide +kernel)
theorem wm_1174 : (Jvm.Cond.code ({ cls := "GrownKinds", name := "boxed", desc := "(III)J" } : Jvm.MethodName) prog_1_method_52_code (4 : Nat) (Option.some Jvm.ClassFile.FieldType.long)) ∈ gT := gT_in (List.mem_of_getElem? (i := 1174) (by decide +kernel)) (by decide +kernel)
theorem dX11_upto_7 : decode cX11_upto 7 = .ok (.lreturn, 1) := by decide +kernel
theorem dX11_first_0 : decode cX11_first 0 = .ok (.aload_n 0, 1) := by decide +kernel
theorem dX11_first_1 : decode cX11_first 1 = .ok (.iload_n 1, 1) := by decide +kernel
theorem dX11_first_2 : decode cX11_first 2 = .ok (.invokevirtual 168, 3) := by decide +kernel
theorem dX11_first_5 : decode cX11_first 5 = .ok (.ifCond .eq 17, 3) := by decide +kernel
theorem dX11_first_22 : decode cX11_first 22 = .ok (.bipush (-2), 2) := by decide +kernel
theorem dX11_first_24 : decode cX11_first 24 = .ok (.ireturn, 1) := by decide +kernel
theorem dX11_first_8 : decode cX11_first 8 = .ok (.lload_n 2, 1) := by decide +kernel
theorem dX11_first_9 : decode cX11_first 9 = .ok (.lconst 1, 1) := by decide +kernel
theorem dX11_first_10 : decode cX11_first 10 = .ok (.lcmp, 1) := by decide +kernel
theorem dX11_first_11 : decode cX11_first 11 = .ok (.ifCond .lt 11, 3) := by decide +kernel
theorem dX11_first_14 : decode cX11_first 14 = .ok (.lload_n 2, 1) := by decide +kernel
theorem dX11_first_15 : decode cX11_first 15 = .ok (.ldc2_w 219, 3) := by decide +kernel
theorem wm_1150 : (Jvm.Cond.constantLong "GrownKinds" (219 : Nat) (1000000000000 : Int64)) ∈ gT := gT_in (List.mem_of_getElem? (i := 1150) (by decide +kernel)) (by decide +kernel)
theorem dX11_first_18 : decode cX11_first 18 = .ok (.lcmp, 1) := by decide +kernel
theorem dX11_first_19 : decode cX11_first 19 = .ok (.ifCond .le 6, 3) := by decide +kernel
theorem dX11_first_25 : decode cX11_first 25 = .ok (.iconst 0, 1) := by decide +kernel
theorem dX11_first_26 : decode cX11_first 26 = .ok (.istore 4, 2) := by decide +kernel
theorem dX11_first_28 : decode cX11_first 28 = .ok (.iload 4, 2) := by decide +kernel
theorem dX11_first_30 : decode cX11_first 30 = .ok (.aload_n 0, 1) := by decide +kernel
theorem dX11_first_31 : decode cX11_first 31 = .ok (.getfield 20, 3) := by decide +kernel
theorem dX11_first_34 : decode cX11_first 34 = .ok (.getfield 159, 3) := by decide +kernel
theorem dX11_first_37 : decode cX11_first 37 = .ok (.if_icmp .gt 27, 3) := by decide +kernel
theorem dX11_first_64 : decode cX11_first 64 = .ok (.iconst (-1), 1) := by decide +kernel
theorem dX11_first_65 : decode cX11_first 65 = .ok (.ireturn, 1) := by decide +kernel
theorem dX11_first_40 : decode cX11_first 40 = .ok (.aload_n 0, 1) := by decide +kernel
theorem dX11_first_41 : decode cX11_first 41 = .ok (.getfield 51, 3) := by decide +kernel
theorem dX11_first_44 : decode cX11_first 44 = .ok (.iload_n 1, 1) := by decide +kernel
theorem dX11_first_45 : decode cX11_first 45 = .ok (.iload 4, 2) := by decide +kernel
theorem dX11_first_47 : decode cX11_first 47 = .ok (.invokevirtual 206, 3) := by decide +kernel
theorem dX11_first_50 : decode cX11_first 50 = .ok (.lload_n 2, 1) := by decide +kernel
theorem dX11_first_51 : decode cX11_first 51 = .ok (.lcmp, 1) := by decide +kernel
theorem dX11_first_52 : decode cX11_first 52 = .ok (.ifCond .lt 6, 3) := by decide +kernel
theorem dX11_first_58 : decode cX11_first 58 = .ok (.iinc 4 1, 3) := by decide +kernel
theorem dX11_first_61 : decode cX11_first 61 = .ok (.goto (-33), 3) := by decide +kernel
theorem dX11_first_55 : decode cX11_first 55 = .ok (.iload 4, 2) := by decide +kernel
theorem dX11_first_57 : decode cX11_first 57 = .ok (.ireturn, 1) := by decide +kernel
theorem dX11_least_0 : decode cX11_least 0 = .ok (.aload_n 0, 1) := by decide +kernel
theorem dX11_least_1 : decode cX11_least 1 = .ok (.iload_n 1, 1) := by decide +kernel
theorem dX11_least_2 : decode cX11_least 2 = .ok (.lconst 1, 1) := by decide +kernel
theorem dX11_least_3 : decode cX11_least 3 = .ok (.invokevirtual 202, 3) := by decide +kernel
theorem wm_1146 : (Jvm.Cond.methodLink "GrownKinds" (202 : Nat) ({ cls := "GrownKinds", name := "first", desc := "(IJ)I" } : Jvm.MethodName)) ∈ gT := gT_in (List.mem_of_getElem? (i := 1146) (by decide +kernel)) (by decide +kernel)
theorem wm_1147 : (Jvm.Cond.instanceMethod ({ cls := "GrownKinds", name := "first", desc := "(IJ)I" } : Jvm.MethodName)) ∈ gT := gT_in (List.mem_of_getElem? (i := 1147) (by decide +kernel)) (by decide +kernel)
theorem wm_1148 : (Jvm.Cond.selects "GrownKinds" ({ cls := "GrownKinds", name := "first", desc := "(IJ)I" } : Jvm.MethodName) ({ cls := "GrownKinds", name := "first", desc := "(IJ)I" } : Jvm.MethodName)) ∈ gT := gT_in (List.mem_of_getElem? (i := 1148) (by decide +kernel)) (by decide +kernel)
theorem wm_1149 : (Jvm.Cond.code ({ cls := "GrownKinds", name := "first", desc := "(IJ)I" } : Jvm.MethodName) prog_1_method_26_code (5 : Nat) (Option.some Jvm.ClassFile.FieldType.int)) ∈ gT := gT_in (List.mem_of_getElem? (i := 1149) (by decide +kernel)) (by decide +kernel)
theorem dX11_least_6 : decode cX11_least 6 = .ok (.ireturn, 1) := by decide +kernel
theorem dX1_bitsFor_0 : decode cX1_bitsFor 0 = .ok (.iconst 0, 1) := by decide +kernel
theorem dX1_bitsFor_1 : decode cX1_bitsFor 1 = .ok (.istore_n 2, 1) := by decide +kernel
theorem dX1_bitsFor_2 : decode cX1_bitsFor 2 = .ok (.iload_n 2, 1) := by decide +kernel
theorem dX1_bitsFor_3 : decode cX1_bitsFor 3 = .ok (.bipush 30, 2) := by decide +kernel
theorem dX1_bitsFor_5 : decode cX1_bitsFor 5 = .ok (.if_icmp .ge 17, 3) := by decide +kernel
theorem dX1_bitsFor_22 : decode cX1_bitsFor 22 = .ok (.iload_n 2, 1) := by decide +kernel
theorem dX1_bitsFor_23 : decode cX1_bitsFor 23 = .ok (.ireturn, 1) := by decide +kernel
theorem dX1_bitsFor_8 : decode cX1_bitsFor 8 = .ok (.lconst 1, 1) := by decide +kernel
theorem dX1_bitsFor_9 : decode cX1_bitsFor 9 = .ok (.iload_n 2, 1) := by decide +kernel
theorem dX1_bitsFor_10 : decode cX1_bitsFor 10 = .ok (.lshl, 1) := by decide +kernel
theorem dX1_bitsFor_11 : decode cX1_bitsFor 11 = .ok (.lload_n 0, 1) := by decide +kernel
theorem dX1_bitsFor_12 : decode cX1_bitsFor 12 = .ok (.lcmp, 1) := by decide +kernel
theorem dX1_bitsFor_13 : decode cX1_bitsFor 13 = .ok (.ifCond .ge 9, 3) := by decide +kernel
theorem dX1_bitsFor_16 : decode cX1_bitsFor 16 = .ok (.iinc 2 1, 3) := by decide +kernel
theorem dX1_bitsFor_19 : decode cX1_bitsFor 19 = .ok (.goto (-17), 3) := by decide +kernel
theorem dX11_bits_0 : decode cX11_bits 0 = .ok (.aload_n 0, 1) := by decide +kernel
theorem dX11_bits_1 : decode cX11_bits 1 = .ok (.iload_n 1, 1) := by decide +kernel
theorem dX11_bits_2 : decode cX11_bits 2 = .ok (.iload_n 2, 1) := by decide +kernel
theorem dX11_bits_3 : decode cX11_bits 3 = .ok (.iload_n 3, 1) := by decide +kernel
theorem dX11_bits_4 : decode cX11_bits 4 = .ok (.invokevirtual 333, 3) := by decide +kernel
theorem dX11_bits_7 : decode cX11_bits 7 = .ok (.ifCond .ne 6, 3) := by decide +kernel
theorem dX11_bits_13 : decode cX11_bits 13 = .ok (.aload_n 0, 1) := by decide +kernel
theorem dX11_bits_14 : decode cX11_bits 14 = .ok (.getfield 51, 3) := by decide +kernel
theorem dX11_bits_17 : decode cX11_bits 17 = .ok (.iload_n 1, 1) := by decide +kernel
theorem dX11_bits_18 : decode cX11_bits 18 = .ok (.iload_n 2, 1) := by decide +kernel
theorem dX11_bits_19 : decode cX11_bits 19 = .ok (.iload_n 3, 1) := by decide +kernel
theorem dX11_bits_20 : decode cX11_bits 20 = .ok (.invokevirtual 337, 3) := by decide +kernel
theorem dX11_bits_23 : decode cX11_bits 23 = .ok (.lstore 4, 2) := by decide +kernel
theorem dX11_bits_25 : decode cX11_bits 25 = .ok (.lload 4, 2) := by decide +kernel
theorem dX11_bits_27 : decode cX11_bits 27 = .ok (.ldc2_w 340, 3) := by decide +kernel
theorem wm_1590 : (Jvm.Cond.constantLong "GrownKinds" (340 : Nat) (1000000 : Int64)) ∈ gT := gT_in (List.mem_of_getElem? (i := 1590) (by decide +kernel)) (by decide +kernel)
theorem dX11_bits_30 : decode cX11_bits 30 = .ok (.lcmp, 1) := by decide +kernel
theorem dX11_bits_31 : decode cX11_bits 31 = .ok (.ifCond .le 6, 3) := by decide +kernel
theorem dX11_bits_37 : decode cX11_bits 37 = .ok (.lload 4, 2) := by decide +kernel
theorem dX11_bits_39 : decode cX11_bits 39 = .ok (.lconst 0, 1) := by decide +kernel
theorem dX11_bits_40 : decode cX11_bits 40 = .ok (.lcmp, 1) := by decide +kernel
theorem dX11_bits_41 : decode cX11_bits 41 = .ok (.ifCond .ne 7, 3) := by decide +kernel
theorem dX11_bits_48 : decode cX11_bits 48 = .ok (.lload 4, 2) := by decide +kernel
theorem dX11_bits_50 : decode cX11_bits 50 = .ok (.invokestatic 342, 3) := by decide +kernel
theorem wm_1591 : (Jvm.Cond.methodLink "GrownKinds" (342 : Nat) ({ cls := "GrownKinds$Dealer", name := "bitsFor", desc := "(J)I" } : Jvm.MethodName)) ∈ gT := gT_in (List.mem_of_getElem? (i := 1591) (by decide +kernel)) (by decide +kernel)
theorem wm_1592 : (Jvm.Cond.static ({ cls := "GrownKinds$Dealer", name := "bitsFor", desc := "(J)I" } : Jvm.MethodName)) ∈ gT := gT_in (List.mem_of_getElem? (i := 1592) (by decide +kernel)) (by decide +kernel)
theorem wm_1593 : (Jvm.Cond.code ({ cls := "GrownKinds$Dealer", name := "bitsFor", desc := "(J)I" } : Jvm.MethodName) prog_3_method_2_code (3 : Nat) (Option.some Jvm.ClassFile.FieldType.int)) ∈ gT := gT_in (List.mem_of_getElem? (i := 1593) (by decide +kernel)) (by decide +kernel)
theorem dX11_bits_53 : decode cX11_bits 53 = .ok (.ireturn, 1) := by decide +kernel
theorem dX11_bits_44 : decode cX11_bits 44 = .ok (.iconst (-1), 1) := by decide +kernel
theorem dX11_bits_45 : decode cX11_bits 45 = .ok (.goto 8, 3) := by decide +kernel
theorem dX11_bits_34 : decode cX11_bits 34 = .ok (.bipush (-3), 2) := by decide +kernel
theorem dX11_bits_36 : decode cX11_bits 36 = .ok (.ireturn, 1) := by decide +kernel
theorem dX11_bits_10 : decode cX11_bits 10 = .ok (.bipush (-2), 2) := by decide +kernel
theorem dX11_bits_12 : decode cX11_bits 12 = .ok (.ireturn, 1) := by decide +kernel
theorem wV_11_206 : gWV "GrownKinds" 206 yX0_thingsAt cX0_thingsAt 3 (some .long) := ⟨wm_1151, wm_1152, wm_1153, wm_180, wm_1154, by decide +kernel, by decide +kernel⟩
set_option maxHeartbeats 4000000 in
set_option maxRecDepth 100000 in
theorem wX11_things (l : Launch) {D : va_G} {cy : Nat → ClassId} {b n : Nat} (hn : 105 ≤ n) {E : Nat → va_E}  {tapeSize0 faultNumber0 faultPlace0 actCount0 stamp0 toldSize0 toldRank0 most2 kinds2 lines2 parts2 steps2 mode40 : Int} {tot : Nat → Int} (h0 : E 0 = O0 b tapeSize0 faultNumber0 faultPlace0 actCount0 stamp0 toldSize0 toldRank0) (h2 : E 2 = O2 b most2 kinds2 lines2 parts2 steps2) (h40 : E 40 = O40 b mode40) (h43 : E 43 = cJ cy 384 tot) (a1 : Int) (a2 : Int) (hki : 0 ≤ kinds2 ∧ kinds2 ≤ 6) (hmo : 0 ≤ most2 ∧ most2 ≤ 7) (htot : ∀ j, 0 ≤ tot j ∧ tot j ≤ 1000000000000000000) (hb1 : (-2147483648 ≤ a1 ∧ a1 ≤ 2147483647)) (hb2 : (-2147483648 ≤ a2 ∧ a2 ≤ 2147483647)) : gL l yX11_things cX11_things 3 2 0 0 D cy b n E [.ref (b + 0), .int (iI a1), .int (iI a2)] (fun r u => r = jJ (if 0 ≤ a1 ∧ a1 < kinds2 ∧ 0 ≤ a2 ∧ a2 ≤ most2 then min 1000000000000 (tot (a1 * 64 + a2 * 8).toNat) else -2) ∧ u.1 = n ∧ u.2 = E) := by
  refine gL_of (by decide) (Nat.le_of_ble_eq_true rfl) ?_
  intro p e s m args below meth c S hr hlk hin hsz ls hl hG
  have hx := S.1
  have hb := S.2.1
  have hl : lv_has ls 3 [(0, .ref (b + 0)), (1, .int (iI a1)), (2, .int (iI a2))] := hl
  refine lv_aload_n hx hb dX11_things_0 rfl (lv_at hl 0 rfl) ?_
  refine lv_iload_n hx hb dX11_things_1 rfl (lv_at hl 1 rfl) ?_
  refine lv_iload_n hx hb dX11_things_2 rfl (lv_at hl 2 rfl) ?_
  refine g_vi (As := [.int (iI a1), .int (iI a2)]) (rest := []) S hG (by omega) (wX11_sized l hn (show gEof hG 0 = O0 b tapeSize0 faultNumber0 faultPlace0 actCount0 stamp0 toldSize0 toldRank0 from h0) (show gEof hG 2 = O2 b most2 kinds2 lines2 parts2 steps2 from h2) a1 a2 (by omega) (by omega) (by omega) (by omega)) wV_11_175 (show gEof hG 0 = O0 b tapeSize0 faultNumber0 faultPlace0 actCount0 stamp0 toldSize0 toldRank0 from h0) cpX11 (by omega) dX11_things_3 rfl hl.1 (ar := 2) (by decide +kernel) rfl ⟨Nat.le_of_ble_eq_true rfl, Nat.le_of_ble_eq_true rfl, Nat.le_of_ble_eq_true rfl, Nat.le_of_ble_eq_true rfl⟩ (Nat.le_of_ble_eq_true rfl) (fun r_1 u_2 H locs hp_3 hG => ?_)
  obtain ⟨nu_2, Eu_2⟩ := u_2
  dsimp only at hp_3 hG
  obtain ⟨rfl, en_4, ee_5⟩ := hp_3
  have hG := gW_eq2 hG en_4 ee_5
  refine gi_nm (fun x_6 ex_6 => ?_)
  refine gi_if_eq (tgt := 21) hx hb dX11_things_6 (by decide) (by omega) (fun c_7 => ?_) (fun c_7 => ?_)
  · refine lv_ldc2 (v := -2) hx hb S.2.2.2.1 (S.2.2.2.2 _ wm_1166) dX11_things_21 ?_
    refine gj_as (-2) (by decide) ?_
    exact g_lret S hr hlk hG (by omega) dX11_things_24 ⟨Nat.le_of_ble_eq_true rfl, Nat.le_of_ble_eq_true rfl⟩ ⟨congrArg jJ (by subst_vars; first | rfl | omega | ((repeat' split) <;> omega)), rfl, rfl⟩
  · refine lv_aload_n hx hb dX11_things_9 rfl (lv_at hl 0 rfl) ?_
    refine g_get S hG 0 7 (show gEof hG 0 = O0 b tapeSize0 faultNumber0 faultPlace0 actCount0 stamp0 toldSize0 toldRank0 from h0) cpX11 wm_673 dX11_things_10 rfl (by omega) (by decide) ?_
    refine lv_iload_n hx hb dX11_things_13 rfl (lv_at hl 1 rfl) ?_
    refine lv_iload_n hx hb dX11_things_14 rfl (lv_at hl 2 rfl) ?_
    refine g_vl (As := [.int (iI a1), .int (iI a2)]) (rest := []) S hG (by omega) (wX0_thingsAt l hn (show gEof hG 40 = O40 b mode40 from h40) (show gEof hG 43 = cJ cy 384 tot from h43) a1 a2 (by omega) (by omega) (by omega) (by omega) (by omega)) wV_11_206 (show gEof hG 40 = O40 b mode40 from h40) cpX0 (by omega) dX11_things_15 rfl hl.1 (ar := 2) (by decide +kernel) rfl ⟨Nat.le_of_ble_eq_true rfl, Nat.le_of_ble_eq_true rfl, Nat.le_of_ble_eq_true rfl, Nat.le_of_ble_eq_true rfl⟩ (Nat.le_of_ble_eq_true rfl) (fun r_8 u_9 H locs hp_10 hG => ?_)
    obtain ⟨nu_9, Eu_9⟩ := u_9
    dsimp only at hp_10 hG
    obtain ⟨rfl, rb_11, en_12, ee_13⟩ := hp_10
    have hG := gW_eq2 hG en_12 ee_13
    refine gj_nm (fun x_14 ex_14 => ?_)
    refine lv_goto (tgt := 24) hx hb dX11_things_18 (by decide) ?_
    exact g_lret S hr hlk hG (by omega) dX11_things_24 ⟨Nat.le_of_ble_eq_true rfl, Nat.le_of_ble_eq_true rfl⟩ ⟨congrArg jJ (by subst_vars; first | rfl | omega | ((repeat' split) <;> omega)), rfl, rfl⟩
theorem wV_11_333 : gWV "GrownKinds" 333 yX11_boxy cX11_boxy 4 (some .boolean) := ⟨wm_1175, wm_1177, wm_50, wm_176, wm_1178, by decide +kernel, by decide +kernel⟩
theorem wV_11_337 : gWV "GrownKinds" 337 yX0_between cX0_between 7 (some .long) := ⟨wm_1179, wm_1180, wm_1181, wm_180, wm_1182, by decide +kernel, by decide +kernel⟩
set_option maxHeartbeats 4000000 in
set_option maxRecDepth 100000 in
theorem wX11_boxed (l : Launch) {D : va_G} {cy : Nat → ClassId} {b n : Nat} (hn : 105 ≤ n) {E : Nat → va_E}  {tapeSize0 faultNumber0 faultPlace0 actCount0 stamp0 toldSize0 toldRank0 most2 kinds2 lines2 parts2 steps2 mode40 : Int} {tot : Nat → Int} (h0 : E 0 = O0 b tapeSize0 faultNumber0 faultPlace0 actCount0 stamp0 toldSize0 toldRank0) (h2 : E 2 = O2 b most2 kinds2 lines2 parts2 steps2) (h40 : E 40 = O40 b mode40) (h43 : E 43 = cJ cy 384 tot) (a1 : Int) (a2 : Int) (a3 : Int) (hki : 0 ≤ kinds2 ∧ kinds2 ≤ 6) (hmo : 0 ≤ most2 ∧ most2 ≤ 7) (htot : ∀ j, 0 ≤ tot j ∧ tot j ≤ 1000000000000000000) (hb1 : (-2147483648 ≤ a1 ∧ a1 ≤ 2147483647)) (hb2 : (-2147483648 ≤ a2 ∧ a2 ≤ 2147483647)) (hb3 : (-2147483648 ≤ a3 ∧ a3 ≤ 2147483647)) : gL l yX11_boxed cX11_boxed 4 3 0 0 D cy b n E [.ref (b + 0), .int (iI a1), .int (iI a2), .int (iI a3)] (fun r u => r = jJ (if 0 ≤ a1 ∧ a1 < kinds2 ∧ 0 ≤ a2 ∧ a2 ≤ most2 ∧ 0 ≤ a3 ∧ a3 ≤ most2 ∧ a2 ≤ a3 then sumC (fun x => min 1000000000000 (tot (a1 * 64 + x * 8).toNat)) a2 (a3 + 1 - a2).toNat else -2) ∧ u.1 = n ∧ u.2 = E) := by
  refine gL_of (by decide) (Nat.le_of_ble_eq_true rfl) ?_
  intro p e s m args below meth c S hr hlk hin hsz ls hl hG
  have hx := S.1
  have hb := S.2.1
  have hl : lv_has ls 4 [(0, .ref (b + 0)), (1, .int (iI a1)), (2, .int (iI a2)), (3, .int (iI a3))] := hl
  refine lv_aload_n hx hb dX11_boxed_0 rfl (lv_at hl 0 rfl) ?_
  refine lv_iload_n hx hb dX11_boxed_1 rfl (lv_at hl 1 rfl) ?_
  refine lv_iload_n hx hb dX11_boxed_2 rfl (lv_at hl 2 rfl) ?_
  refine lv_iload_n hx hb dX11_boxed_3 rfl (lv_at hl 3 rfl) ?_
  refine g_vi (As := [.int (iI a1), .int (iI a2), .int (iI a3)]) (rest := []) S hG (by omega) (wX11_boxy l hn (show gEof hG 0 = O0 b tapeSize0 faultNumber0 faultPlace0 actCount0 stamp0 toldSize0 toldRank0 from h0) (show gEof hG 2 = O2 b most2 kinds2 lines2 parts2 steps2 from h2) a1 a2 a3 (by omega) (by omega) (by omega) (by omega) (by omega)) wV_11_333 (show gEof hG 0 = O0 b tapeSize0 faultNumber0 faultPlace0 actCount0 stamp0 toldSize0 toldRank0 from h0) cpX11 (by omega) dX11_boxed_4 rfl hl.1 (ar := 3) (by decide +kernel) rfl ⟨Nat.le_of_ble_eq_true rfl, Nat.le_of_ble_eq_true rfl, Nat.le_of_ble_eq_true rfl, Nat.le_of_ble_eq_true rfl⟩ (Nat.le_of_ble_eq_true rfl) (fun r_1 u_2 H locs hp_3 hG => ?_)
  obtain ⟨nu_2, Eu_2⟩ := u_2
  dsimp only at hp_3 hG
  obtain ⟨rfl, en_4, ee_5⟩ := hp_3
  have hG := gW_eq2 hG en_4 ee_5
  refine gi_nm (fun x_6 ex_6 => ?_)
  refine gi_if_eq (tgt := 23) hx hb dX11_boxed_7 (by decide) (by omega) (fun c_7 => ?_) (fun c_7 => ?_)
  · refine lv_ldc2 (v := -2) hx hb S.2.2.2.1 (S.2.2.2.2 _ wm_1166) dX11_boxed_23 ?_
    refine gj_as (-2) (by decide) ?_
    exact g_lret S hr hlk hG (by omega) dX11_boxed_26 ⟨Nat.le_of_ble_eq_true rfl, Nat.le_of_ble_eq_true rfl⟩ ⟨congrArg jJ (by subst_vars; first | (rw [if_pos (by omega)]) | (rw [if_neg (by omega)]) | omega), rfl, rfl⟩
  · refine lv_aload_n hx hb dX11_boxed_10 rfl (lv_at hl 0 rfl) ?_
    refine g_get S hG 0 7 (show gEof hG 0 = O0 b tapeSize0 faultNumber0 faultPlace0 actCount0 stamp0 toldSize0 toldRank0 from h0) cpX11 wm_673 dX11_boxed_11 rfl (by omega) (by decide) ?_
    refine lv_iload_n hx hb dX11_boxed_14 rfl (lv_at hl 1 rfl) ?_
    refine lv_iload_n hx hb dX11_boxed_15 rfl (lv_at hl 2 rfl) ?_
    refine lv_iload_n hx hb dX11_boxed_16 rfl (lv_at hl 3 rfl) ?_
    refine g_vl (As := [.int (iI a1), .int (iI a2), .int (iI a3)]) (rest := []) S hG (by omega) (wX0_between l hn (show gEof hG 40 = O40 b mode40 from h40) (show gEof hG 43 = cJ cy 384 tot from h43) a1 a2 a3 (by omega) (by omega) (by omega) (by omega) (by omega) (by omega) (by omega)) wV_11_337 (show gEof hG 40 = O40 b mode40 from h40) cpX0 (by omega) dX11_boxed_17 rfl hl.1 (ar := 3) (by decide +kernel) rfl ⟨Nat.le_of_ble_eq_true rfl, Nat.le_of_ble_eq_true rfl, Nat.le_of_ble_eq_true rfl, Nat.le_of_ble_eq_true rfl⟩ (Nat.le_of_ble_eq_true rfl) (fun r_8 u_9 H locs hp_10 hG => ?_)
    obtain ⟨nu_9, Eu_9⟩ := u_9
    dsimp only at hp_10 hG
    obtain ⟨rfl, rb_11, en_12, ee_13⟩ := hp_10
    have hG := gW_eq2 hG en_12 ee_13
    refine gj_nm (fun x_14 ex_14 => ?_)
    refine lv_goto (tgt := 26) hx hb dX11_boxed_20 (by decide) ?_
    exact g_lret S hr hlk hG (by omega) dX11_boxed_26 ⟨Nat.le_of_ble_eq_true rfl, Nat.le_of_ble_eq_true rfl⟩ ⟨congrArg jJ (by subst_vars; first | (rw [if_pos (by omega)]) | (rw [if_neg (by omega)]) | omega), rfl, rfl⟩
theorem wV_11_212 : gWV "GrownKinds" 212 yX11_boxed cX11_boxed 4 (some .long) := ⟨wm_1171, wm_1172, wm_1173, wm_176, wm_1174, by decide +kernel, by decide +kernel⟩
set_option maxHeartbeats 4000000 in
set_option maxRecDepth 100000 in
theorem wX11_upto (l : Launch) {D : va_G} {cy : Nat → ClassId} {b n : Nat} (hn : 105 ≤ n) {E : Nat → va_E}  {tapeSize0 faultNumber0 faultPlace0 actCount0 stamp0 toldSize0 toldRank0 most2 kinds2 lines2 parts2 steps2 mode40 : Int} {tot : Nat → Int} (h0 : E 0 = O0 b tapeSize0 faultNumber0 faultPlace0 actCount0 stamp0 toldSize0 toldRank0) (h2 : E 2 = O2 b most2 kinds2 lines2 parts2 steps2) (h40 : E 40 = O40 b mode40) (h43 : E 43 = cJ cy 384 tot) (a1 : Int) (a2 : Int) (hki : 0 ≤ kinds2 ∧ kinds2 ≤ 6) (hmo : 0 ≤ most2 ∧ most2 ≤ 7) (htot : ∀ j, 0 ≤ tot j ∧ tot j ≤ 1000000000000000000) (hb1 : (-2147483648 ≤ a1 ∧ a1 ≤ 2147483647)) (hb2 : (-2147483648 ≤ a2 ∧ a2 ≤ 2147483647)) : gL l yX11_upto cX11_upto 3 4 0 0 D cy b n E [.ref (b + 0), .int (iI a1), .int (iI a2)] (fun r u => r = jJ (if 0 ≤ a1 ∧ a1 < kinds2 ∧ 0 ≤ a2 ∧ a2 ≤ most2 then sumC (fun x => min 1000000000000 (tot (a1 * 64 + x * 8).toNat)) 0 (a2 + 1).toNat else -2) ∧ u.1 = n ∧ u.2 = E) := by
  refine gL_of (by decide) (Nat.le_of_ble_eq_true rfl) ?_
  intro p e s m args below meth c S hr hlk hin hsz ls hl hG
  have hx := S.1
  have hb := S.2.1
  have hl : lv_has ls 3 [(0, .ref (b + 0)), (1, .int (iI a1)), (2, .int (iI a2))] := hl
  refine lv_aload_n hx hb dX11_upto_0 rfl (lv_at hl 0 rfl) ?_
  refine lv_iload_n hx hb dX11_upto_1 rfl (lv_at hl 1 rfl) ?_
  refine lv_iconst (v := iI 0) hx hb dX11_upto_2 (by decide) ?_
  refine lv_iload_n hx hb dX11_upto_3 rfl (lv_at hl 2 rfl) ?_
  refine g_vl (As := [.int (iI a1), .int (iI 0), .int (iI a2)]) (rest := []) S hG (by omega) (wX11_boxed l hn (show gEof hG 0 = O0 b tapeSize0 faultNumber0 faultPlace0 actCount0 stamp0 toldSize0 toldRank0 from h0) (show gEof hG 2 = O2 b most2 kinds2 lines2 parts2 steps2 from h2) (show gEof hG 40 = O40 b mode40 from h40) (show gEof hG 43 = cJ cy 384 tot from h43) a1 0 a2 (by omega) (by omega) (by omega) (by omega) (by omega) (by omega)) wV_11_212 (show gEof hG 0 = O0 b tapeSize0 faultNumber0 faultPlace0 actCount0 stamp0 toldSize0 toldRank0 from h0) cpX11 (by omega) dX11_upto_4 rfl hl.1 (ar := 3) (by decide +kernel) rfl ⟨Nat.le_of_ble_eq_true rfl, Nat.le_of_ble_eq_true rfl, Nat.le_of_ble_eq_true rfl, Nat.le_of_ble_eq_true rfl⟩ (Nat.le_of_ble_eq_true rfl) (fun r_1 u_2 H locs hp_3 hG => ?_)
  obtain ⟨nu_2, Eu_2⟩ := u_2
  dsimp only at hp_3 hG
  obtain ⟨rfl, en_4, ee_5⟩ := hp_3
  have hG := gW_eq2 hG en_4 ee_5
  refine gj_nm (fun x_6 ex_6 => ?_)
  exact g_lret S hr hlk hG (by omega) dX11_upto_7 ⟨Nat.le_of_ble_eq_true rfl, Nat.le_of_ble_eq_true rfl⟩ ⟨congrArg jJ (by subst_vars; by_cases hq : 0 ≤ a1 ∧ a1 < kinds2 ∧ 0 ≤ a2 ∧ a2 ≤ most2 <;> first | (rw [if_pos (by omega), if_pos (by omega), show (a2 + 1 - 0).toNat = (a2 + 1).toNat by omega]) | (rw [if_neg (by omega), if_neg (by omega)])), rfl, rfl⟩
set_option maxHeartbeats 4000000 in
set_option maxRecDepth 100000 in
theorem wX11_first (l : Launch) {D : va_G} {cy : Nat → ClassId} {b n : Nat} (hn : 105 ≤ n) {E : Nat → va_E}  {tapeSize0 faultNumber0 faultPlace0 actCount0 stamp0 toldSize0 toldRank0 most2 kinds2 lines2 parts2 steps2 mode40 : Int} {tot : Nat → Int} (h0 : E 0 = O0 b tapeSize0 faultNumber0 faultPlace0 actCount0 stamp0 toldSize0 toldRank0) (h2 : E 2 = O2 b most2 kinds2 lines2 parts2 steps2) (h40 : E 40 = O40 b mode40) (h43 : E 43 = cJ cy 384 tot) (a1 : Int) (a2 : Int) (hki : 0 ≤ kinds2 ∧ kinds2 ≤ 6) (hmo : 0 ≤ most2 ∧ most2 ≤ 7) (htot : ∀ j, 0 ≤ tot j ∧ tot j ≤ 1000000000000000000) (hb1 : (-2147483648 ≤ a1 ∧ a1 ≤ 2147483647)) (hb2 : (-9223372036854775808 ≤ a2 ∧ a2 ≤ 9223372036854775807)) : gI l yX11_first cX11_first 5 (some .int) 2 0 0 D cy b n E [.ref (b + 0), .int (iI a1), .long (jJ a2)] (fun r u => r = iI (if 0 ≤ a1 ∧ a1 < kinds2 ∧ 1 ≤ a2 ∧ a2 ≤ 1000000000000 then firstG (fun x => min 1000000000000 (tot (a1 * 64 + x * 8).toNat)) a2 most2 9 0 else -2) ∧ u.1 = n ∧ u.2 = E) := by
  refine gI_of (by decide) (Nat.le_of_ble_eq_true rfl) ?_
  intro p e s m args below meth c S hr hlk hin hsz ls hl hG
  have hx := S.1
  have hb := S.2.1
  have hl : lv_has ls 5 [(0, .ref (b + 0)), (1, .int (iI a1)), (2, .long (jJ a2))] := hl
  refine lv_aload_n hx hb dX11_first_0 rfl (lv_at hl 0 rfl) ?_
  refine lv_iload_n hx hb dX11_first_1 rfl (lv_at hl 1 rfl) ?_
  refine g_vi (As := [.int (iI a1)]) (rest := []) S hG (by omega) (wX11_known l hn (show gEof hG 0 = O0 b tapeSize0 faultNumber0 faultPlace0 actCount0 stamp0 toldSize0 toldRank0 from h0) (show gEof hG 2 = O2 b most2 kinds2 lines2 parts2 steps2 from h2) a1 (by omega) (by omega)) wV_11_168 (show gEof hG 0 = O0 b tapeSize0 faultNumber0 faultPlace0 actCount0 stamp0 toldSize0 toldRank0 from h0) cpX11 (by omega) dX11_first_2 rfl hl.1 (ar := 1) (by decide +kernel) rfl ⟨Nat.le_of_ble_eq_true rfl, Nat.le_of_ble_eq_true rfl, Nat.le_of_ble_eq_true rfl, Nat.le_of_ble_eq_true rfl⟩ (Nat.le_of_ble_eq_true rfl) (fun r_1 u_2 H locs hp_3 hG => ?_)
  obtain ⟨nu_2, Eu_2⟩ := u_2
  dsimp only at hp_3 hG
  obtain ⟨rfl, en_4, ee_5⟩ := hp_3
  have hG := gW_eq2 hG en_4 ee_5
  refine gi_nm (fun x_6 ex_6 => ?_)
  refine gi_if_eq (tgt := 22) hx hb dX11_first_5 (by decide) (by omega) (fun c_7 => ?_) (fun c_7 => ?_)
  · refine lv_bipush (v := iI (-2)) hx hb dX11_first_22 (by decide) ?_
    exact g_iret S hr hlk hG (by omega) dX11_first_24 ⟨Nat.le_of_ble_eq_true rfl, Nat.le_of_ble_eq_true rfl⟩ ⟨congrArg iI (by subst_vars; rw [if_neg (by omega)]), rfl, rfl⟩
  · refine lv_lload_n hx hb dX11_first_8 rfl (lv_at hl 2 rfl) ?_
    refine lv_lconst (v := jJ 1) hx hb dX11_first_9 (by decide) ?_
    refine gj_cmp_lt (tgt := 22) hx hb dX11_first_10 dX11_first_11 (by decide) (by omega) (by omega) (fun c_8 => ?_) (fun c_8 => ?_)
    · refine lv_bipush (v := iI (-2)) hx hb dX11_first_22 (by decide) ?_
      exact g_iret S hr hlk hG (by omega) dX11_first_24 ⟨Nat.le_of_ble_eq_true rfl, Nat.le_of_ble_eq_true rfl⟩ ⟨congrArg iI (by subst_vars; rw [if_neg (by omega)]), rfl, rfl⟩
    · refine lv_lload_n hx hb dX11_first_14 rfl (lv_at hl 2 rfl) ?_
      refine lv_ldc2 (v := 1000000000000) hx hb S.2.2.2.1 (S.2.2.2.2 _ wm_1150) dX11_first_15 ?_
      refine gj_as 1000000000000 (by decide) ?_
      refine gj_cmp_le (tgt := 25) hx hb dX11_first_18 dX11_first_19 (by decide) (by omega) (by omega) (fun c_9 => ?_) (fun c_9 => ?_)
      · refine lv_iconst (v := iI 0) hx hb dX11_first_25 (by decide) ?_
        refine lv_istore (lv' := [(4, .int (iI 0)), (0, .ref (b + 0)), (1, .int (iI a1)), (2, .long (jJ a2))]) hx hb dX11_first_26 hl (by decide) rfl (fun ls hl => ?_)
        have loop28 : ∀ (t28 : Nat) (nv : Int) (H : Heap) (locs : List Loc) (ls : Array Slot), Int.toNat (9 - nv) < t28 → (0 ≤ nv ∧ nv ≤ 8) → (firstG (fun x => min 1000000000000 (tot (a1 * 64 + x * 8).toNat)) a2 most2 (9 - nv).toNat nv = firstG (fun x => min 1000000000000 (tot (a1 * 64 + x * 8).toNat)) a2 most2 9 0) → gW D cy b n s H locs E → lv_has ls 5 [(4, .int (iI nv)), (0, .ref (b + 0)), (1, .int (iI a1)), (2, .long (jJ a2))] → W p l e (gRm 2 0 0) s m args below meth c H locs 0 0 (gQI D cy b s args below 0 0 (fun r u => r = iI (if 0 ≤ a1 ∧ a1 < kinds2 ∧ 1 ≤ a2 ∧ a2 ≤ 1000000000000 then firstG (fun x => min 1000000000000 (tot (a1 * 64 + x * 8).toNat)) a2 most2 9 0 else -2) ∧ u.1 = n ∧ u.2 = E)) (F0 m 28 ls []) := by
          intro t28
          induction t28 with
          | zero => intro nv H locs ls hm28; exact absurd hm28 (Nat.not_lt_zero _)
          | succ t28 ih28 =>
            intro nv H locs ls hm28 hnv hfv  hG hl
            refine lv_iload hx hb dX11_first_28 (lv_at hl 0 rfl) ?_
            refine lv_aload_n hx hb dX11_first_30 rfl (lv_at hl 1 rfl) ?_
            refine g_get S hG 0 2 (show gEof hG 0 = O0 b tapeSize0 faultNumber0 faultPlace0 actCount0 stamp0 toldSize0 toldRank0 from h0) cpX11 wm_668 dX11_first_31 rfl (by omega) (by decide) ?_
            refine g_get S hG 2 0 (show gEof hG 2 = O2 b most2 kinds2 lines2 parts2 steps2 from h2) cpX2 wm_214 dX11_first_34 rfl (by omega) (by decide) ?_
            refine gi_icmp_gt (tgt := 64) hx hb dX11_first_37 (by decide) (by omega) (by omega) (fun c_10 => ?_) (fun c_10 => ?_)
            · refine lv_iconst (v := iI (-1)) hx hb dX11_first_64 (by decide) ?_
              exact g_iret S hr hlk hG (by omega) dX11_first_65 ⟨Nat.le_of_ble_eq_true rfl, Nat.le_of_ble_eq_true rfl⟩ ⟨congrArg iI (by rw [if_pos (by omega), ← hfv, show (9 - nv).toNat = (8 - nv).toNat + 1 by omega]; simp only [firstG]; first | (rw [if_pos (by omega)]) | (rw [if_neg (by omega), if_pos (by subst_vars; omega)])), rfl, rfl⟩
            · refine lv_aload_n hx hb dX11_first_40 rfl (lv_at hl 1 rfl) ?_
              refine g_get S hG 0 7 (show gEof hG 0 = O0 b tapeSize0 faultNumber0 faultPlace0 actCount0 stamp0 toldSize0 toldRank0 from h0) cpX11 wm_673 dX11_first_41 rfl (by omega) (by decide) ?_
              refine lv_iload_n hx hb dX11_first_44 rfl (lv_at hl 2 rfl) ?_
              refine lv_iload hx hb dX11_first_45 (lv_at hl 0 rfl) ?_
              refine g_vl (As := [.int (iI a1), .int (iI nv)]) (rest := []) S hG (by omega) (wX0_thingsAt l hn (show gEof hG 40 = O40 b mode40 from h40) (show gEof hG 43 = cJ cy 384 tot from h43) a1 nv (by omega) (by omega) (by omega) (by omega) (by omega)) wV_11_206 (show gEof hG 40 = O40 b mode40 from h40) cpX0 (by omega) dX11_first_47 rfl hl.1 (ar := 2) (by decide +kernel) rfl ⟨Nat.le_of_ble_eq_true rfl, Nat.le_of_ble_eq_true rfl, Nat.le_of_ble_eq_true rfl, Nat.le_of_ble_eq_true rfl⟩ (Nat.le_of_ble_eq_true rfl) (fun r_11 u_12 H locs hp_13 hG => ?_)
              obtain ⟨nu_12, Eu_12⟩ := u_12
              dsimp only at hp_13 hG
              obtain ⟨rfl, rb_14, en_15, ee_16⟩ := hp_13
              have hG := gW_eq2 hG en_15 ee_16
              refine gj_nm (fun x_17 ex_17 => ?_)
              refine lv_lload_n hx hb dX11_first_50 rfl (lv_at hl 3 rfl) ?_
              refine gj_cmp_lt (tgt := 58) hx hb dX11_first_51 dX11_first_52 (by decide) (by omega) (by omega) (fun c_18 => ?_) (fun c_18 => ?_)
              · refine lv_iinc (v := iI (nv + 1)) (lv' := [(4, .int (iI (nv + 1))), (0, .ref (b + 0)), (1, .int (iI a1)), (2, .long (jJ a2))]) hx hb dX11_first_58 hl (k := 0) rfl ((iI_add nv (1)).trans (congrArg iI (by omega))) (by decide) rfl (fun ls hl => ?_)
                refine lv_goto (tgt := 28) hx hb dX11_first_61 (by decide) ?_
                exact ih28 (nv + 1) _ _ ls (by omega) (by omega) (by rw [← hfv, show (9 - nv).toNat = (9 - (nv + 1)).toNat + 1 by omega]; simp only [firstG]; rw [if_neg (by omega), if_neg (by subst_vars; omega)]) hG (lv_sub hl [0, 1, 2, 3] rfl)
              · refine lv_iload hx hb dX11_first_55 (lv_at hl 0 rfl) ?_
                exact g_iret S hr hlk hG (by omega) dX11_first_57 ⟨Nat.le_of_ble_eq_true rfl, Nat.le_of_ble_eq_true rfl⟩ ⟨congrArg iI (by rw [if_pos (by omega), ← hfv, show (9 - nv).toNat = (8 - nv).toNat + 1 by omega]; simp only [firstG]; first | (rw [if_pos (by omega)]) | (rw [if_neg (by omega), if_pos (by subst_vars; omega)])), rfl, rfl⟩
        exact loop28 (Int.toNat (9 - 0) + 1) 0 _ _ ls (by omega) (by omega) rfl hG (lv_sub hl [0, 1, 2, 3] rfl)
      · refine lv_bipush (v := iI (-2)) hx hb dX11_first_22 (by decide) ?_
        exact g_iret S hr hlk hG (by omega) dX11_first_24 ⟨Nat.le_of_ble_eq_true rfl, Nat.le_of_ble_eq_true rfl⟩ ⟨congrArg iI (by subst_vars; rw [if_neg (by omega)]), rfl, rfl⟩
theorem wV_11_202 : gWV "GrownKinds" 202 yX11_first cX11_first 5 (some .int) := ⟨wm_1146, wm_1147, wm_1148, wm_176, wm_1149, by decide +kernel, by decide +kernel⟩
set_option maxHeartbeats 4000000 in
set_option maxRecDepth 100000 in
theorem wX11_least (l : Launch) {D : va_G} {cy : Nat → ClassId} {b n : Nat} (hn : 105 ≤ n) {E : Nat → va_E}  {tapeSize0 faultNumber0 faultPlace0 actCount0 stamp0 toldSize0 toldRank0 most2 kinds2 lines2 parts2 steps2 mode40 : Int} {tot : Nat → Int} (h0 : E 0 = O0 b tapeSize0 faultNumber0 faultPlace0 actCount0 stamp0 toldSize0 toldRank0) (h2 : E 2 = O2 b most2 kinds2 lines2 parts2 steps2) (h40 : E 40 = O40 b mode40) (h43 : E 43 = cJ cy 384 tot) (a1 : Int) (hki : 0 ≤ kinds2 ∧ kinds2 ≤ 6) (hmo : 0 ≤ most2 ∧ most2 ≤ 7) (htot : ∀ j, 0 ≤ tot j ∧ tot j ≤ 1000000000000000000) (hb1 : (-2147483648 ≤ a1 ∧ a1 ≤ 2147483647)) : gI l yX11_least cX11_least 2 (some .int) 3 0 0 D cy b n E [.ref (b + 0), .int (iI a1)] (fun r u => r = iI (if 0 ≤ a1 ∧ a1 < kinds2 then firstG (fun x => min 1000000000000 (tot (a1 * 64 + x * 8).toNat)) 1 most2 9 0 else -2) ∧ u.1 = n ∧ u.2 = E) := by
  refine gI_of (by decide) (Nat.le_of_ble_eq_true rfl) ?_
  intro p e s m args below meth c S hr hlk hin hsz ls hl hG
  have hx := S.1
  have hb := S.2.1
  have hl : lv_has ls 2 [(0, .ref (b + 0)), (1, .int (iI a1))] := hl
  refine lv_aload_n hx hb dX11_least_0 rfl (lv_at hl 0 rfl) ?_
  refine lv_iload_n hx hb dX11_least_1 rfl (lv_at hl 1 rfl) ?_
  refine lv_lconst (v := jJ 1) hx hb dX11_least_2 (by decide) ?_
  refine g_vi (As := [.int (iI a1), .long (jJ 1)]) (rest := []) S hG (by omega) (wX11_first l hn (show gEof hG 0 = O0 b tapeSize0 faultNumber0 faultPlace0 actCount0 stamp0 toldSize0 toldRank0 from h0) (show gEof hG 2 = O2 b most2 kinds2 lines2 parts2 steps2 from h2) (show gEof hG 40 = O40 b mode40 from h40) (show gEof hG 43 = cJ cy 384 tot from h43) a1 1 (by omega) (by omega) (by omega) (by omega) (by omega)) wV_11_202 (show gEof hG 0 = O0 b tapeSize0 faultNumber0 faultPlace0 actCount0 stamp0 toldSize0 toldRank0 from h0) cpX11 (by omega) dX11_least_3 rfl hl.1 (ar := 2) (by decide +kernel) rfl ⟨Nat.le_of_ble_eq_true rfl, Nat.le_of_ble_eq_true rfl, Nat.le_of_ble_eq_true rfl, Nat.le_of_ble_eq_true rfl⟩ (Nat.le_of_ble_eq_true rfl) (fun r_1 u_2 H locs hp_3 hG => ?_)
  obtain ⟨nu_2, Eu_2⟩ := u_2
  dsimp only at hp_3 hG
  obtain ⟨rfl, en_4, ee_5⟩ := hp_3
  have hG := gW_eq2 hG en_4 ee_5
  refine gi_nm (fun x_6 ex_6 => ?_)
  exact g_iret S hr hlk hG (by omega) dX11_least_6 ⟨Nat.le_of_ble_eq_true rfl, Nat.le_of_ble_eq_true rfl⟩ ⟨congrArg iI (by subst_vars; by_cases hq : 0 ≤ a1 ∧ a1 < kinds2 <;> first | (rw [if_pos (by omega), if_pos (by omega)]) | (rw [if_neg (by omega), if_neg (by omega)])), rfl, rfl⟩
theorem bfG_b {n : Int} : ∀ {k : Nat} {b : Int}, 0 ≤ b → b + k ≤ 30 → 0 ≤ bfG n k b ∧ bfG n k b ≤ 30
  | 0, b, h1, h2 => ⟨h1, by simp only [bfG]; omega⟩
  | k + 1, b, h1, h2 => by
    simp only [bfG]
    split
    · exact bfG_b (by omega) (by omega)
    · omega
set_option maxHeartbeats 4000000 in
set_option maxRecDepth 100000 in
theorem wX1_bitsFor (l : Launch) {D : va_G} {cy : Nat → ClassId} {b n : Nat} (hn : 105 ≤ n) {E : Nat → va_E}   (a1 : Int) (hbf : a1 ≤ 9000000000000000000) (hb1 : (-9223372036854775808 ≤ a1 ∧ a1 ≤ 9223372036854775807)) : gI l yX1_bitsFor cX1_bitsFor 3 (some .int) 0 0 0 D cy b n E [.long (jJ a1)] (fun r u => r = iI (bfG a1 30 0) ∧ (0 ≤ (bfG a1 30 0) ∧ (bfG a1 30 0) ≤ 30) ∧ u.1 = n ∧ u.2 = E) := by
  refine gI_of (by decide) (Nat.le_of_ble_eq_true rfl) ?_
  intro p e s m args below meth c S hr hlk hin hsz ls hl hG
  have hx := S.1
  have hb := S.2.1
  have hl : lv_has ls 3 [(0, .long (jJ a1))] := hl
  refine lv_iconst (v := iI 0) hx hb dX1_bitsFor_0 (by decide) ?_
  refine lv_istore_n (lv' := [(2, .int (iI 0)), (0, .long (jJ a1))]) hx hb dX1_bitsFor_1 rfl hl (by decide) rfl (fun ls hl => ?_)
  have loop2 : ∀ (t2 : Nat) (bv : Int) (H : Heap) (locs : List Loc) (ls : Array Slot), Int.toNat (31 - bv) < t2 → (0 ≤ bv ∧ bv ≤ 30) → (bfG a1 (30 - bv).toNat bv = bfG a1 30 0) → gW D cy b n s H locs E → lv_has ls 3 [(2, .int (iI bv)), (0, .long (jJ a1))] → W p l e (gRm 0 0 0) s m args below meth c H locs 0 0 (gQI D cy b s args below 0 0 (fun r u => r = iI (bfG a1 30 0) ∧ (0 ≤ (bfG a1 30 0) ∧ (bfG a1 30 0) ≤ 30) ∧ u.1 = n ∧ u.2 = E)) (F0 m 2 ls []) := by
    intro t2
    induction t2 with
    | zero => intro bv H locs ls hm2; exact absurd hm2 (Nat.not_lt_zero _)
    | succ t2 ih2 =>
      intro bv H locs ls hm2 hbv hfv  hG hl
      refine lv_iload_n hx hb dX1_bitsFor_2 rfl (lv_at hl 0 rfl) ?_
      refine lv_bipush (v := iI 30) hx hb dX1_bitsFor_3 (by decide) ?_
      refine gi_icmp_ge (tgt := 22) hx hb dX1_bitsFor_5 (by decide) (by omega) (by omega) (fun c_1 => ?_) (fun c_1 => ?_)
      · refine lv_iload_n hx hb dX1_bitsFor_22 rfl (lv_at hl 0 rfl) ?_
        exact g_iret S hr hlk hG (by omega) dX1_bitsFor_23 ⟨Nat.le_of_ble_eq_true rfl, Nat.le_of_ble_eq_true rfl⟩ ⟨congrArg iI (by rw [← hfv]; first | (rw [show (30 - bv).toNat = 0 by omega]; rfl) | (rw [show (30 - bv).toNat = (29 - bv).toNat + 1 by omega]; simp only [bfG]; rw [if_neg (by omega)])), (by first | (rw [← hfv]; exact bfG_b (by omega) (by omega)) | omega), rfl, rfl⟩
      · refine lv_lconst (v := jJ 1) hx hb dX1_bitsFor_8 (by decide) ?_
        refine lv_iload_n hx hb dX1_bitsFor_9 rfl (lv_at hl 0 rfl) ?_
        refine gj_shl hx hb dX1_bitsFor_10 ?_
        have lb_2 := lsh_b 1 bv
        refine lv_lload_n hx hb dX1_bitsFor_11 rfl (lv_at hl 1 rfl) ?_
        refine gj_cmp_ge (tgt := 22) hx hb dX1_bitsFor_12 dX1_bitsFor_13 (by decide) (by omega) (by omega) (fun c_3 => ?_) (fun c_3 => ?_)
        · refine lv_iload_n hx hb dX1_bitsFor_22 rfl (lv_at hl 0 rfl) ?_
          exact g_iret S hr hlk hG (by omega) dX1_bitsFor_23 ⟨Nat.le_of_ble_eq_true rfl, Nat.le_of_ble_eq_true rfl⟩ ⟨congrArg iI (by rw [← hfv]; first | (rw [show (30 - bv).toNat = 0 by omega]; rfl) | (rw [show (30 - bv).toNat = (29 - bv).toNat + 1 by omega]; simp only [bfG]; rw [if_neg (by omega)])), (by first | (rw [← hfv]; exact bfG_b (by omega) (by omega)) | omega), rfl, rfl⟩
        · refine lv_iinc (v := iI (bv + 1)) (lv' := [(2, .int (iI (bv + 1))), (0, .long (jJ a1))]) hx hb dX1_bitsFor_16 hl (k := 0) rfl ((iI_add bv (1)).trans (congrArg iI (by omega))) (by decide) rfl (fun ls hl => ?_)
          refine lv_goto (tgt := 2) hx hb dX1_bitsFor_19 (by decide) ?_
          exact ih2 (bv + 1) _ _ ls (by omega) (by omega) (by rw [← hfv, show (30 - bv).toNat = (30 - (bv + 1)).toNat + 1 by omega]; simp only [bfG]; rw [if_pos (by omega)]) hG (lv_sub hl [0, 1] rfl)
  exact loop2 (Int.toNat (31 - 0) + 1) 0 _ _ ls (by omega) (by omega) rfl hG (lv_sub hl [0, 1] rfl)
theorem wS_11_342 : gWS "GrownKinds" 342 yX1_bitsFor cX1_bitsFor 3 (some .int) := ⟨wm_1591, wm_1592, wm_186, wm_1593, by decide +kernel, by decide +kernel⟩
set_option maxHeartbeats 4000000 in
set_option maxRecDepth 100000 in
theorem wX11_bits (l : Launch) {D : va_G} {cy : Nat → ClassId} {b n : Nat} (hn : 105 ≤ n) {E : Nat → va_E}  {tapeSize0 faultNumber0 faultPlace0 actCount0 stamp0 toldSize0 toldRank0 most2 kinds2 lines2 parts2 steps2 mode40 : Int} {tot : Nat → Int} (h0 : E 0 = O0 b tapeSize0 faultNumber0 faultPlace0 actCount0 stamp0 toldSize0 toldRank0) (h2 : E 2 = O2 b most2 kinds2 lines2 parts2 steps2) (h40 : E 40 = O40 b mode40) (h43 : E 43 = cJ cy 384 tot) (a1 : Int) (a2 : Int) (a3 : Int) (hki : 0 ≤ kinds2 ∧ kinds2 ≤ 6) (hmo : 0 ≤ most2 ∧ most2 ≤ 7) (htot : ∀ j, 0 ≤ tot j ∧ tot j ≤ 1000000000000000000) (hb1 : (-2147483648 ≤ a1 ∧ a1 ≤ 2147483647)) (hb2 : (-2147483648 ≤ a2 ∧ a2 ≤ 2147483647)) (hb3 : (-2147483648 ≤ a3 ∧ a3 ≤ 2147483647)) : gI l yX11_bits cX11_bits 6 (some .int) 3 0 0 D cy b n E [.ref (b + 0), .int (iI a1), .int (iI a2), .int (iI a3)] (fun r u => r = iI (if 0 ≤ a1 ∧ a1 < kinds2 ∧ 0 ≤ a2 ∧ a2 ≤ most2 ∧ 0 ≤ a3 ∧ a3 ≤ most2 ∧ a2 ≤ a3 then (if 1000000 < sumC (fun x => min 1000000000000 (tot (a1 * 64 + x * 8).toNat)) a2 (a3 + 1 - a2).toNat then -3 else if sumC (fun x => min 1000000000000 (tot (a1 * 64 + x * 8).toNat)) a2 (a3 + 1 - a2).toNat = 0 then -1 else bfG (sumC (fun x => min 1000000000000 (tot (a1 * 64 + x * 8).toNat)) a2 (a3 + 1 - a2).toNat) 30 0) else -2) ∧ u.1 = n ∧ u.2 = E) := by
  refine gI_of (by decide) (Nat.le_of_ble_eq_true rfl) ?_
  intro p e s m args below meth c S hr hlk hin hsz ls hl hG
  have hx := S.1
  have hb := S.2.1
  have hl : lv_has ls 6 [(0, .ref (b + 0)), (1, .int (iI a1)), (2, .int (iI a2)), (3, .int (iI a3))] := hl
  refine lv_aload_n hx hb dX11_bits_0 rfl (lv_at hl 0 rfl) ?_
  refine lv_iload_n hx hb dX11_bits_1 rfl (lv_at hl 1 rfl) ?_
  refine lv_iload_n hx hb dX11_bits_2 rfl (lv_at hl 2 rfl) ?_
  refine lv_iload_n hx hb dX11_bits_3 rfl (lv_at hl 3 rfl) ?_
  refine g_vi (As := [.int (iI a1), .int (iI a2), .int (iI a3)]) (rest := []) S hG (by omega) (wX11_boxy l hn (show gEof hG 0 = O0 b tapeSize0 faultNumber0 faultPlace0 actCount0 stamp0 toldSize0 toldRank0 from h0) (show gEof hG 2 = O2 b most2 kinds2 lines2 parts2 steps2 from h2) a1 a2 a3 (by omega) (by omega) (by omega) (by omega) (by omega)) wV_11_333 (show gEof hG 0 = O0 b tapeSize0 faultNumber0 faultPlace0 actCount0 stamp0 toldSize0 toldRank0 from h0) cpX11 (by omega) dX11_bits_4 rfl hl.1 (ar := 3) (by decide +kernel) rfl ⟨Nat.le_of_ble_eq_true rfl, Nat.le_of_ble_eq_true rfl, Nat.le_of_ble_eq_true rfl, Nat.le_of_ble_eq_true rfl⟩ (Nat.le_of_ble_eq_true rfl) (fun r_1 u_2 H locs hp_3 hG => ?_)
  obtain ⟨nu_2, Eu_2⟩ := u_2
  dsimp only at hp_3 hG
  obtain ⟨rfl, en_4, ee_5⟩ := hp_3
  have hG := gW_eq2 hG en_4 ee_5
  refine gi_nm (fun x_6 ex_6 => ?_)
  refine gi_if_ne (tgt := 13) hx hb dX11_bits_7 (by decide) (by omega) (fun c_7 => ?_) (fun c_7 => ?_)
  · refine lv_aload_n hx hb dX11_bits_13 rfl (lv_at hl 0 rfl) ?_
    refine g_get S hG 0 7 (show gEof hG 0 = O0 b tapeSize0 faultNumber0 faultPlace0 actCount0 stamp0 toldSize0 toldRank0 from h0) cpX11 wm_673 dX11_bits_14 rfl (by omega) (by decide) ?_
    refine lv_iload_n hx hb dX11_bits_17 rfl (lv_at hl 1 rfl) ?_
    refine lv_iload_n hx hb dX11_bits_18 rfl (lv_at hl 2 rfl) ?_
    refine lv_iload_n hx hb dX11_bits_19 rfl (lv_at hl 3 rfl) ?_
    refine g_vl (As := [.int (iI a1), .int (iI a2), .int (iI a3)]) (rest := []) S hG (by omega) (wX0_between l hn (show gEof hG 40 = O40 b mode40 from h40) (show gEof hG 43 = cJ cy 384 tot from h43) a1 a2 a3 (by omega) (by omega) (by omega) (by omega) (by omega) (by omega) (by omega)) wV_11_337 (show gEof hG 40 = O40 b mode40 from h40) cpX0 (by omega) dX11_bits_20 rfl hl.1 (ar := 3) (by decide +kernel) rfl ⟨Nat.le_of_ble_eq_true rfl, Nat.le_of_ble_eq_true rfl, Nat.le_of_ble_eq_true rfl, Nat.le_of_ble_eq_true rfl⟩ (Nat.le_of_ble_eq_true rfl) (fun r_8 u_9 H locs hp_10 hG => ?_)
    obtain ⟨nu_9, Eu_9⟩ := u_9
    dsimp only at hp_10 hG
    obtain ⟨rfl, rb_11, en_12, ee_13⟩ := hp_10
    have hG := gW_eq2 hG en_12 ee_13
    refine gj_nm (fun x_14 ex_14 => ?_)
    refine lv_lstore (lv' := [(4, .long (jJ x_14)), (0, .ref (b + 0)), (1, .int (iI a1)), (2, .int (iI a2)), (3, .int (iI a3))]) hx hb dX11_bits_23 hl (by decide) rfl (fun ls hl => ?_)
    refine lv_lload hx hb dX11_bits_25 (lv_at hl 0 rfl) ?_
    refine lv_ldc2 (v := 1000000) hx hb S.2.2.2.1 (S.2.2.2.2 _ wm_1590) dX11_bits_27 ?_
    refine gj_as 1000000 (by decide) ?_
    refine gj_cmp_le (tgt := 37) hx hb dX11_bits_30 dX11_bits_31 (by decide) (by omega) (by omega) (fun c_15 => ?_) (fun c_15 => ?_)
    · refine lv_lload hx hb dX11_bits_37 (lv_at hl 0 rfl) ?_
      refine lv_lconst (v := jJ 0) hx hb dX11_bits_39 (by decide) ?_
      refine gj_cmp_ne (tgt := 48) hx hb dX11_bits_40 dX11_bits_41 (by decide) (by omega) (by omega) (fun c_16 => ?_) (fun c_16 => ?_)
      · refine lv_lload hx hb dX11_bits_48 (lv_at hl 0 rfl) ?_
        refine g_si (As := [.long (jJ x_14)]) (rest := []) S hG (by omega) (wX1_bitsFor l hn  x_14 (by omega) (by omega)) wS_11_342 dX11_bits_50 rfl hl.1 (ar := 1) (by decide +kernel) rfl ⟨Nat.le_of_ble_eq_true rfl, Nat.le_of_ble_eq_true rfl, Nat.le_of_ble_eq_true rfl, Nat.le_of_ble_eq_true rfl⟩ (Nat.le_of_ble_eq_true rfl) (fun r_17 u_18 H locs hp_19 hG => ?_)
        obtain ⟨nu_18, Eu_18⟩ := u_18
        dsimp only at hp_19 hG
        obtain ⟨rfl, rb_20, en_21, ee_22⟩ := hp_19
        have hG := gW_eq2 hG en_21 ee_22
        refine gi_nm (fun x_23 ex_23 => ?_)
        exact g_iret S hr hlk hG (by omega) dX11_bits_53 ⟨Nat.le_of_ble_eq_true rfl, Nat.le_of_ble_eq_true rfl⟩ ⟨congrArg iI (by have hq : 0 ≤ a1 ∧ a1 < kinds2 ∧ 0 ≤ a2 ∧ a2 ≤ most2 ∧ 0 ≤ a3 ∧ a3 ≤ most2 ∧ a2 ≤ a3 := (by omega); rw [if_pos hq]; subst_vars; first | (rw [if_pos (by omega)]; done) | (rw [if_neg (by omega), if_pos (by omega)]; done) | (rw [if_neg (by omega), if_neg (by omega)])), rfl, rfl⟩
      · refine lv_iconst (v := iI (-1)) hx hb dX11_bits_44 (by decide) ?_
        refine lv_goto (tgt := 53) hx hb dX11_bits_45 (by decide) ?_
        exact g_iret S hr hlk hG (by omega) dX11_bits_53 ⟨Nat.le_of_ble_eq_true rfl, Nat.le_of_ble_eq_true rfl⟩ ⟨congrArg iI (by have hq : 0 ≤ a1 ∧ a1 < kinds2 ∧ 0 ≤ a2 ∧ a2 ≤ most2 ∧ 0 ≤ a3 ∧ a3 ≤ most2 ∧ a2 ≤ a3 := (by omega); rw [if_pos hq]; subst_vars; first | (rw [if_pos (by omega)]; done) | (rw [if_neg (by omega), if_pos (by omega)]; done) | (rw [if_neg (by omega), if_neg (by omega)])), rfl, rfl⟩
    · refine lv_bipush (v := iI (-3)) hx hb dX11_bits_34 (by decide) ?_
      exact g_iret S hr hlk hG (by omega) dX11_bits_36 ⟨Nat.le_of_ble_eq_true rfl, Nat.le_of_ble_eq_true rfl⟩ ⟨congrArg iI (by have hq : 0 ≤ a1 ∧ a1 < kinds2 ∧ 0 ≤ a2 ∧ a2 ≤ most2 ∧ 0 ≤ a3 ∧ a3 ≤ most2 ∧ a2 ≤ a3 := (by omega); rw [if_pos hq]; subst_vars; first | (rw [if_pos (by omega)]; done) | (rw [if_neg (by omega), if_pos (by omega)]; done) | (rw [if_neg (by omega), if_neg (by omega)])), rfl, rfl⟩
  · refine lv_bipush (v := iI (-2)) hx hb dX11_bits_10 (by decide) ?_
    exact g_iret S hr hlk hG (by omega) dX11_bits_12 ⟨Nat.le_of_ble_eq_true rfl, Nat.le_of_ble_eq_true rfl⟩ ⟨congrArg iI (by subst_vars; first | (rw [if_neg (fun hq => by revert c_7; rw [if_pos hq]; decide)]) | omega), rfl, rfl⟩
