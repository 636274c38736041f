theorem dX12_laysRows_0 : decode cX12_laysRows 0 = .ok (.iconst 0, 1) := by decide +kernel
theorem dX12_laysRows_1 : decode cX12_laysRows 1 = .ok (.istore 4, 2) := by decide +kernel
theorem dX12_laysRows_3 : decode cX12_laysRows 3 = .ok (.iload 4, 2) := by decide +kernel
theorem dX12_laysRows_5 : decode cX12_laysRows 5 = .ok (.aload_n 0, 1) := by decide +kernel
theorem dX12_laysRows_6 : decode cX12_laysRows 6 = .ok (.getfield 46, 3) := by decide +kernel
theorem dX12_laysRows_9 : decode cX12_laysRows 9 = .ok (.arraylength, 1) := by decide +kernel
theorem dX12_laysRows_10 : decode cX12_laysRows 10 = .ok (.if_icmp .ge 17, 3) := by decide +kernel
theorem dX12_laysRows_27 : decode cX12_laysRows 27 = .ok (.aload_n 0, 1) := by decide +kernel
theorem dX12_laysRows_28 : decode cX12_laysRows 28 = .ok (.getfield 46, 3) := by decide +kernel
theorem dX12_laysRows_31 : decode cX12_laysRows 31 = .ok (.iconst 0, 1) := by decide +kernel
theorem dX12_laysRows_32 : decode cX12_laysRows 32 = .ok (.lconst 1, 1) := by decide +kernel
theorem dX12_laysRows_33 : decode cX12_laysRows 33 = .ok (.lastore, 1) := by decide +kernel
theorem dX12_laysRows_34 : decode cX12_laysRows 34 = .ok (.iconst 1, 1) := by decide +kernel
theorem dX12_laysRows_35 : decode cX12_laysRows 35 = .ok (.istore 4, 2) := by decide +kernel
theorem dX12_laysRows_37 : decode cX12_laysRows 37 = .ok (.iload 4, 2) := by decide +kernel
theorem dX12_laysRows_39 : decode cX12_laysRows 39 = .ok (.iload_n 2, 1) := by decide +kernel
theorem dX12_laysRows_40 : decode cX12_laysRows 40 = .ok (.if_icmp .gt 157, 3) := by decide +kernel
theorem dX12_laysRows_197 : decode cX12_laysRows 197 = .ok (.return_, 1) := by decide +kernel
theorem dX12_laysRows_43 : decode cX12_laysRows 43 = .ok (.iload 4, 2) := by decide +kernel
theorem dX12_laysRows_45 : decode cX12_laysRows 45 = .ok (.istore 5, 2) := by decide +kernel
theorem dX12_laysRows_47 : decode cX12_laysRows 47 = .ok (.iload 5, 2) := by decide +kernel
theorem dX12_laysRows_49 : decode cX12_laysRows 49 = .ok (.iload_n 2, 1) := by decide +kernel
theorem dX12_laysRows_50 : decode cX12_laysRows 50 = .ok (.if_icmp .gt 141, 3) := by decide +kernel
theorem dX12_laysRows_191 : decode cX12_laysRows 191 = .ok (.iinc 4 1, 3) := by decide +kernel
theorem dX12_laysRows_194 : decode cX12_laysRows 194 = .ok (.goto (-157), 3) := by decide +kernel
theorem dX12_laysRows_53 : decode cX12_laysRows 53 = .ok (.iconst 0, 1) := by decide +kernel
theorem dX12_laysRows_54 : decode cX12_laysRows 54 = .ok (.istore 6, 2) := by decide +kernel
theorem dX12_laysRows_56 : decode cX12_laysRows 56 = .ok (.iload 6, 2) := by decide +kernel
theorem dX12_laysRows_58 : decode cX12_laysRows 58 = .ok (.iload 5, 2) := by decide +kernel
theorem dX12_laysRows_60 : decode cX12_laysRows 60 = .ok (.iload_n 3, 1) := by decide +kernel
theorem dX12_laysRows_61 : decode cX12_laysRows 61 = .ok (.invokestatic 117, 3) := by decide +kernel
theorem wm_1854 : (Jvm.Cond.methodLink "GrownKindsModel" (117 : Nat) ({ cls := "java/lang/Math", name := "min", desc := "(II)I" } : Jvm.MethodName)) ∈ gT := gT_in (List.mem_of_getElem? (i := 1854) (by decide +kernel)) (by decide +kernel)
theorem wm_762 : (Jvm.Cond.static ({ cls := "java/lang/Math", name := "min", desc := "(II)I" } : Jvm.MethodName)) ∈ gT := gT_in (List.mem_of_getElem? (i := 762) (by decide +kernel)) (by decide +kernel)
theorem wm_763 : (Jvm.Cond.code ({ cls := "java/lang/Math", name := "min", desc := "(II)I" } : Jvm.MethodName) prog_17_method_69_code (2 : Nat) (Option.some Jvm.ClassFile.FieldType.int)) ∈ gT := gT_in (List.mem_of_getElem? (i := 763) (by decide +kernel)) (by decide +kernel)
theorem dX12_laysRows_64 : decode cX12_laysRows 64 = .ok (.if_icmp .gt 121, 3) := by decide +kernel
theorem dX12_laysRows_185 : decode cX12_laysRows 185 = .ok (.iinc 5 1, 3) := by decide +kernel
theorem dX12_laysRows_188 : decode cX12_laysRows 188 = .ok (.goto (-141), 3) := by decide +kernel
theorem dX12_laysRows_67 : decode cX12_laysRows 67 = .ok (.lconst 0, 1) := by decide +kernel
theorem dX12_laysRows_68 : decode cX12_laysRows 68 = .ok (.lstore 7, 2) := by decide +kernel
theorem dX12_laysRows_70 : decode cX12_laysRows 70 = .ok (.iconst 1, 1) := by decide +kernel
theorem dX12_laysRows_71 : decode cX12_laysRows 71 = .ok (.istore 9, 2) := by decide +kernel
theorem dX12_laysRows_73 : decode cX12_laysRows 73 = .ok (.iload 9, 2) := by decide +kernel
theorem dX12_laysRows_75 : decode cX12_laysRows 75 = .ok (.iload 5, 2) := by decide +kernel
theorem dX12_laysRows_77 : decode cX12_laysRows 77 = .ok (.iload 4, 2) := by decide +kernel
theorem dX12_laysRows_79 : decode cX12_laysRows 79 = .ok (.isub, 1) := by decide +kernel
theorem dX12_laysRows_80 : decode cX12_laysRows 80 = .ok (.iconst 1, 1) := by decide +kernel
theorem dX12_laysRows_81 : decode cX12_laysRows 81 = .ok (.iadd, 1) := by decide +kernel
theorem dX12_laysRows_82 : decode cX12_laysRows 82 = .ok (.if_icmp .gt 81, 3) := by decide +kernel
theorem dX12_laysRows_163 : decode cX12_laysRows 163 = .ok (.aload_n 0, 1) := by decide +kernel
theorem dX12_laysRows_164 : decode cX12_laysRows 164 = .ok (.getfield 46, 3) := by decide +kernel
theorem dX12_laysRows_167 : decode cX12_laysRows 167 = .ok (.iload 4, 2) := by decide +kernel
theorem dX12_laysRows_169 : decode cX12_laysRows 169 = .ok (.iload 5, 2) := by decide +kernel
theorem dX12_laysRows_171 : decode cX12_laysRows 171 = .ok (.iload 6, 2) := by decide +kernel
theorem dX12_laysRows_173 : decode cX12_laysRows 173 = .ok (.invokestatic 276, 3) := by decide +kernel
theorem dX12_laysRows_176 : decode cX12_laysRows 176 = .ok (.lload 7, 2) := by decide +kernel
theorem dX12_laysRows_178 : decode cX12_laysRows 178 = .ok (.lastore, 1) := by decide +kernel
theorem dX12_laysRows_179 : decode cX12_laysRows 179 = .ok (.iinc 6 1, 3) := by decide +kernel
theorem dX12_laysRows_182 : decode cX12_laysRows 182 = .ok (.goto (-126), 3) := by decide +kernel
theorem dX12_laysRows_85 : decode cX12_laysRows 85 = .ok (.iconst 0, 1) := by decide +kernel
theorem dX12_laysRows_86 : decode cX12_laysRows 86 = .ok (.istore 10, 2) := by decide +kernel
theorem dX12_laysRows_88 : decode cX12_laysRows 88 = .ok (.iload 10, 2) := by decide +kernel
theorem dX12_laysRows_90 : decode cX12_laysRows 90 = .ok (.iload 9, 2) := by decide +kernel
theorem dX12_laysRows_92 : decode cX12_laysRows 92 = .ok (.iload 6, 2) := by decide +kernel
theorem dX12_laysRows_94 : decode cX12_laysRows 94 = .ok (.invokestatic 117, 3) := by decide +kernel
theorem dX12_laysRows_97 : decode cX12_laysRows 97 = .ok (.if_icmp .gt 60, 3) := by decide +kernel
theorem dX12_laysRows_157 : decode cX12_laysRows 157 = .ok (.iinc 9 1, 3) := by decide +kernel
theorem dX12_laysRows_160 : decode cX12_laysRows 160 = .ok (.goto (-87), 3) := by decide +kernel
theorem dX12_laysRows_100 : decode cX12_laysRows 100 = .ok (.lload 7, 2) := by decide +kernel
theorem dX12_laysRows_102 : decode cX12_laysRows 102 = .ok (.aload_n 0, 1) := by decide +kernel
theorem dX12_laysRows_103 : decode cX12_laysRows 103 = .ok (.getfield 39, 3) := by decide +kernel
theorem dX12_laysRows_106 : decode cX12_laysRows 106 = .ok (.iload_n 1, 1) := by decide +kernel
theorem dX12_laysRows_107 : decode cX12_laysRows 107 = .ok (.iload 9, 2) := by decide +kernel
theorem dX12_laysRows_109 : decode cX12_laysRows 109 = .ok (.iload 10, 2) := by decide +kernel
theorem dX12_laysRows_111 : decode cX12_laysRows 111 = .ok (.invokestatic 276, 3) := by decide +kernel
theorem dX12_laysRows_114 : decode cX12_laysRows 114 = .ok (.laload, 1) := by decide +kernel
theorem dX12_laysRows_115 : decode cX12_laysRows 115 = .ok (.aload_n 0, 1) := by decide +kernel
theorem dX12_laysRows_116 : decode cX12_laysRows 116 = .ok (.getfield 46, 3) := by decide +kernel
theorem dX12_laysRows_119 : decode cX12_laysRows 119 = .ok (.iload 4, 2) := by decide +kernel
theorem dX12_laysRows_121 : decode cX12_laysRows 121 = .ok (.iconst 1, 1) := by decide +kernel
theorem dX12_laysRows_122 : decode cX12_laysRows 122 = .ok (.isub, 1) := by decide +kernel
theorem dX12_laysRows_123 : decode cX12_laysRows 123 = .ok (.iload 5, 2) := by decide +kernel
theorem dX12_laysRows_125 : decode cX12_laysRows 125 = .ok (.iload 9, 2) := by decide +kernel
theorem dX12_laysRows_127 : decode cX12_laysRows 127 = .ok (.isub, 1) := by decide +kernel
theorem dX12_laysRows_128 : decode cX12_laysRows 128 = .ok (.iload 6, 2) := by decide +kernel
theorem dX12_laysRows_130 : decode cX12_laysRows 130 = .ok (.iload 10, 2) := by decide +kernel
theorem dX12_laysRows_132 : decode cX12_laysRows 132 = .ok (.isub, 1) := by decide +kernel
theorem dX12_laysRows_133 : decode cX12_laysRows 133 = .ok (.invokestatic 276, 3) := by decide +kernel
theorem dX12_laysRows_136 : decode cX12_laysRows 136 = .ok (.laload, 1) := by decide +kernel
theorem dX12_laysRows_137 : decode cX12_laysRows 137 = .ok (.ldc2_w 306, 3) := by decide +kernel
theorem wm_2057 : (Jvm.Cond.constantLong "GrownKindsModel" (306 : Nat) (100000000000000000 : Int64)) ∈ gT := gT_in (List.mem_of_getElem? (i := 2057) (by decide +kernel)) (by decide +kernel)
theorem dX12_laysRows_140 : decode cX12_laysRows 140 = .ok (.invokestatic 286, 3) := by decide +kernel
theorem wm_2047 : (Jvm.Cond.methodLink "GrownKindsModel" (286 : Nat) ({ cls := "GrownKindsModel", name := "mul", desc := "(JJJ)J" } : Jvm.MethodName)) ∈ gT := gT_in (List.mem_of_getElem? (i := 2047) (by decide +kernel)) (by decide +kernel)
theorem wm_2048 : (Jvm.Cond.static ({ cls := "GrownKindsModel", name := "mul", desc := "(JJJ)J" } : Jvm.MethodName)) ∈ gT := gT_in (List.mem_of_getElem? (i := 2048) (by decide +kernel)) (by decide +kernel)
theorem wm_2049 : (Jvm.Cond.code ({ cls := "GrownKindsModel", name := "mul", desc := "(JJJ)J" } : Jvm.MethodName) prog_14_method_4_code (6 : Nat) (Option.some Jvm.ClassFile.FieldType.long)) ∈ gT := gT_in (List.mem_of_getElem? (i := 2049) (by decide +kernel)) (by decide +kernel)
theorem dX12_laysRows_143 : decode cX12_laysRows 143 = .ok (.ldc2_w 306, 3) := by decide +kernel
theorem dX12_laysRows_146 : decode cX12_laysRows 146 = .ok (.invokestatic 282, 3) := by decide +kernel
theorem dX12_laysRows_149 : decode cX12_laysRows 149 = .ok (.lstore 7, 2) := by decide +kernel
theorem dX12_laysRows_151 : decode cX12_laysRows 151 = .ok (.iinc 10 1, 3) := by decide +kernel
theorem dX12_laysRows_154 : decode cX12_laysRows 154 = .ok (.goto (-66), 3) := by decide +kernel
theorem dX12_laysRows_13 : decode cX12_laysRows 13 = .ok (.aload_n 0, 1) := by decide +kernel
theorem dX12_laysRows_14 : decode cX12_laysRows 14 = .ok (.getfield 46, 3) := by decide +kernel
theorem dX12_laysRows_17 : decode cX12_laysRows 17 = .ok (.iload 4, 2) := by decide +kernel
theorem dX12_laysRows_19 : decode cX12_laysRows 19 = .ok (.lconst 0, 1) := by decide +kernel
theorem dX12_laysRows_20 : decode cX12_laysRows 20 = .ok (.lastore, 1) := by decide +kernel
theorem dX12_laysRows_21 : decode cX12_laysRows 21 = .ok (.iinc 4 1, 3) := by decide +kernel
theorem dX12_laysRows_24 : decode cX12_laysRows 24 = .ok (.goto (-21), 3) := by decide +kernel
set_option maxHeartbeats 4000000 in
set_option maxRecDepth 100000 in
theorem wX12_mul2 (l : Launch) {D : va_G} {cy : Nat → ClassId} {b n : Nat} (hn : 105 ≤ n) {E : Nat → va_E}   (a1 : Int) (a2 : Int) (a3 : Int) (hmu : 0 ≤ a1 ∧ a1 ≤ a3 ∧ 0 ≤ a2 ∧ a2 ≤ a3 ∧ 0 < a3 ∧ a3 ≤ 100000000000000000) (hb1 : (-9223372036854775808 ≤ a1 ∧ a1 ≤ 9223372036854775807)) (hb2 : (-9223372036854775808 ≤ a2 ∧ a2 ≤ 9223372036854775807)) (hb3 : (-9223372036854775808 ≤ a3 ∧ a3 ≤ 9223372036854775807)) : gL l yX12_mul cX12_mul 6 0 0 0 D cy b n E [.long (jJ a1), .long (jJ a2), .long (jJ a3)] (fun r u => r = jJ (mulC a3 a1 a2) ∧ (0 ≤ (mulC a3 a1 a2) ∧ (mulC a3 a1 a2) ≤ a3) ∧ u.1 = n ∧ u.2 = E) := by
  refine gL_of (by decide) (Nat.le_of_ble_eq_true rfl) ?_
  intro p e s m args below meth c S hr hlk hin hsz ls hl hG
  have hx := S.1
  have hb := S.2.1
  have hl : lv_has ls 6 [(0, .long (jJ a1)), (2, .long (jJ a2)), (4, .long (jJ a3))] := hl
  refine lv_lload_n hx hb dX12_mul_0 rfl (lv_at hl 0 rfl) ?_
  refine lv_lconst (v := jJ 0) hx hb dX12_mul_1 (by decide) ?_
  refine gj_cmp_eq (tgt := 12) hx hb dX12_mul_2 dX12_mul_3 (by decide) (by omega) (by omega) (fun c_1 => ?_) (fun c_1 => ?_)
  · refine lv_lconst (v := jJ 0) hx hb dX12_mul_12 (by decide) ?_
    exact g_lret S hr hlk hG (by omega) dX12_mul_13 ⟨Nat.le_of_ble_eq_true rfl, Nat.le_of_ble_eq_true rfl⟩ ⟨congrArg jJ (by unfold mulC; subst_vars; first | (rw [if_pos (by omega)]; done) | (rw [if_neg (by omega), if_pos (by omega)]; done) | (rw [if_neg (by omega), if_neg (by omega)])), (mulC_b (by omega)), rfl, rfl⟩
  · refine lv_lload_n hx hb dX12_mul_6 rfl (lv_at hl 1 rfl) ?_
    refine lv_lconst (v := jJ 0) hx hb dX12_mul_7 (by decide) ?_
    refine gj_cmp_ne (tgt := 14) hx hb dX12_mul_8 dX12_mul_9 (by decide) (by omega) (by omega) (fun c_2 => ?_) (fun c_2 => ?_)
    · refine lv_lload_n hx hb dX12_mul_14 rfl (lv_at hl 0 rfl) ?_
      refine lv_lload hx hb dX12_mul_15 (lv_at hl 2 rfl) ?_
      refine lv_lload_n hx hb dX12_mul_17 rfl (lv_at hl 1 rfl) ?_
      refine gj_div hx hb dX12_mul_18 (by omega) (by omega) ?_
      have dv_3 : 0 ≤ a3 / a2 := Int.ediv_nonneg (by omega) (by omega)
      have dv_32 : a3 / a2 ≤ a3 := Int.ediv_le_self _ (by omega)
      refine gj_nm (fun x_4 ex_4 => ?_)
      refine gj_cmp_le (tgt := 28) hx hb dX12_mul_19 dX12_mul_20 (by decide) (by omega) (by omega) (fun c_5 => ?_) (fun c_5 => ?_)
      · refine lv_lload_n hx hb dX12_mul_28 rfl (lv_at hl 0 rfl) ?_
        refine lv_lload_n hx hb dX12_mul_29 rfl (lv_at hl 1 rfl) ?_
        refine gj_mul hx hb dX12_mul_30 ?_
        exact g_lret S hr hlk hG (by omega) dX12_mul_31 ⟨Nat.le_of_ble_eq_true rfl, Nat.le_of_ble_eq_true rfl⟩ ⟨congrArg jJ (by unfold mulC; subst_vars; first | (rw [if_pos (by omega)]; done) | (rw [if_neg (by omega), if_pos (by omega)]; done) | (rw [if_neg (by omega), if_neg (by omega)])), (mulC_b (by omega)), rfl, rfl⟩
      · refine lv_lload hx hb dX12_mul_23 (lv_at hl 2 rfl) ?_
        refine lv_goto (tgt := 31) hx hb dX12_mul_25 (by decide) ?_
        exact g_lret S hr hlk hG (by omega) dX12_mul_31 ⟨Nat.le_of_ble_eq_true rfl, Nat.le_of_ble_eq_true rfl⟩ ⟨congrArg jJ (by unfold mulC; subst_vars; first | (rw [if_pos (by omega)]; done) | (rw [if_neg (by omega), if_pos (by omega)]; done) | (rw [if_neg (by omega), if_neg (by omega)])), (mulC_b (by omega)), rfl, rfl⟩
    · refine lv_lconst (v := jJ 0) hx hb dX12_mul_12 (by decide) ?_
      exact g_lret S hr hlk hG (by omega) dX12_mul_13 ⟨Nat.le_of_ble_eq_true rfl, Nat.le_of_ble_eq_true rfl⟩ ⟨congrArg jJ (by unfold mulC; subst_vars; first | (rw [if_pos (by omega)]; done) | (rw [if_neg (by omega), if_pos (by omega)]; done) | (rw [if_neg (by omega), if_neg (by omega)])), (mulC_b (by omega)), rfl, rfl⟩
set_option maxHeartbeats 4000000 in
set_option maxRecDepth 100000 in
theorem wX12_add2 (l : Launch) {D : va_G} {cy : Nat → ClassId} {b n : Nat} (hn : 105 ≤ n) {E : Nat → va_E}   (a1 : Int) (a2 : Int) (a3 : Int) (had : 0 ≤ a1 ∧ a1 ≤ 1000000000000000000 ∧ 0 ≤ a2 ∧ a2 ≤ 1000000000000000000 ∧ 0 ≤ a3) (hb1 : (-9223372036854775808 ≤ a1 ∧ a1 ≤ 9223372036854775807)) (hb2 : (-9223372036854775808 ≤ a2 ∧ a2 ≤ 9223372036854775807)) (hb3 : (-9223372036854775808 ≤ a3 ∧ a3 ≤ 9223372036854775807)) : gL l yX12_add cX12_add 6 1 0 0 D cy b n E [.long (jJ a1), .long (jJ a2), .long (jJ a3)] (fun r u => r = jJ (min a3 (a1 + a2)) ∧ (0 ≤ (min a3 (a1 + a2)) ∧ (min a3 (a1 + a2)) ≤ a3) ∧ u.1 = n ∧ u.2 = E) := by
  refine gL_of (by decide) (Nat.le_of_ble_eq_true rfl) ?_
  intro p e s m args below meth c S hr hlk hin hsz ls hl hG
  have hx := S.1
  have hb := S.2.1
  have hl : lv_has ls 6 [(0, .long (jJ a1)), (2, .long (jJ a2)), (4, .long (jJ a3))] := hl
  refine lv_lload hx hb dX12_add_0 (lv_at hl 2 rfl) ?_
  refine lv_lload_n hx hb dX12_add_2 rfl (lv_at hl 0 rfl) ?_
  refine lv_lload_n hx hb dX12_add_3 rfl (lv_at hl 1 rfl) ?_
  refine gj_add hx hb dX12_add_4 ?_
  refine gj_nm (fun x_1 ex_1 => ?_)
  refine gj_min S wm_2046 wm_1002 wm_189 wm_1003 hl.1 dX12_add_5 ⟨Nat.le_of_ble_eq_true rfl, Nat.le_of_ble_eq_true rfl, Nat.le_of_ble_eq_true rfl, Nat.le_of_ble_eq_true rfl⟩ (by omega) (by omega) ?_
  exact g_lret S hr hlk hG (by omega) dX12_add_8 ⟨Nat.le_of_ble_eq_true rfl, Nat.le_of_ble_eq_true rfl⟩ ⟨congrArg jJ (by subst_vars; first | rfl | omega | ((repeat' split) <;> omega)), (by subst_vars; omega), rfl, rfl⟩
theorem wS_12_286 : gWS "GrownKindsModel" 286 yX12_mul cX12_mul 6 (some .long) := ⟨wm_2047, wm_2048, wm_187, wm_2049, by decide +kernel, by decide +kernel⟩
set_option maxHeartbeats 4000000 in
set_option maxRecDepth 100000 in
theorem wX12_laysRows (l : Launch) {D : va_G} {cy : Nat → ClassId} {b n : Nat} (hn : 105 ≤ n) {E : Nat → va_E}  {taped83 faultKind83 faultPlace83 at83 begin83 token83 value83 bad83 long083 wanted83 found83 deepMost83 letterAsked83 letterMany83 turns83 topTerm83 top83 left83 nodes83 sourceLong83 read83 toldSize83 toldRank83 boxSize83 isDealing83 dealKind83 dealLow83 dealMany83 dealLeft83 dealRound83 dealX83 : Int} {mn rw0 : Nat → Int} (h83 : E 83 = O83 b taped83 faultKind83 faultPlace83 at83 begin83 token83 value83 bad83 long083 wanted83 found83 deepMost83 letterAsked83 letterMany83 turns83 topTerm83 top83 left83 nodes83 sourceLong83 read83 toldSize83 toldRank83 boxSize83 isDealing83 dealKind83 dealLow83 dealMany83 dealLeft83 dealRound83 dealX83) (h90 : E 90 = cJ cy 1920 mn) (h92 : E 92 = cJ cy 512 rw0) (a1 : Int) (a2 : Int) (a3 : Int) (hmn : ∀ j, 0 ≤ mn j ∧ mn j ≤ 1000000000000) (hpt : 0 ≤ a1 ∧ a1 < 24 ∧ 0 ≤ a2 ∧ a2 ≤ 7 ∧ 0 ≤ a3 ∧ a3 ≤ 7) (hb1 : (-2147483648 ≤ a1 ∧ a1 ≤ 2147483647)) (hb2 : (-2147483648 ≤ a2 ∧ a2 ≤ 2147483647)) (hb3 : (-2147483648 ≤ a3 ∧ a3 ≤ 2147483647)) : gV l yX12_laysRows cX12_laysRows 11 2 0 0 D cy b n E [.ref (b + 83), .int (iI a1), .int (iI a2), .int (iI a3)] (fun u => u.1 = n ∧ (∀ j, j ≠ 92 → u.2 j = E j) ∧ (∃ g : Nat → Int, u.2 92 = cJ cy 512 g ∧ g = lrJ mn a1 a2 a3 9 1 (upZ (fun _ => 0) (Int.toNat 0) 1))) := by
  refine gV_of (by decide) (Nat.le_of_ble_eq_true rfl) ?_
  intro p e s m args below meth c S hr hlk hin hsz ls hl hG
  have hx := S.1
  have hb := S.2.1
  have hl : lv_has ls 11 [(0, .ref (b + 83)), (1, .int (iI a1)), (2, .int (iI a2)), (3, .int (iI a3))] := hl
  refine lv_iconst (v := iI 0) hx hb dX12_laysRows_0 (by decide) ?_
  refine lv_istore (lv' := [(4, .int (iI 0)), (0, .ref (b + 83)), (1, .int (iI a1)), (2, .int (iI a2)), (3, .int (iI a3))]) hx hb dX12_laysRows_1 hl (by decide) rfl (fun ls hl => ?_)
  have loop3 : ∀ (t3 : Nat) (zv : Int) (rz : Nat → Int) (E'3 : Nat → va_E) (H : Heap) (locs : List Loc) (ls : Array Slot), Int.toNat (513 - zv) < t3 → (0 ≤ zv ∧ zv ≤ 512) → (∀ j : Nat, (j : Int) < zv → rz j = 0) → (∀ j, j ≠ 92 → E'3 j = E j) → E'3 92 = cJ cy 512 rz → gW D cy b n s H locs E'3 → lv_has ls 11 [(4, .int (iI zv)), (0, .ref (b + 83)), (1, .int (iI a1)), (2, .int (iI a2)), (3, .int (iI a3))] → W p l e (gRm 2 0 0) s m args below meth c H locs 0 0 (gQV D cy b s args below 0 0 (fun u => u.1 = n ∧ (∀ j, j ≠ 92 → u.2 j = E j) ∧ (∃ g : Nat → Int, u.2 92 = cJ cy 512 g ∧ g = lrJ mn a1 a2 a3 9 1 (upZ (fun _ => 0) (Int.toNat 0) 1)))) (F0 m 3 ls []) := by
    intro t3
    induction t3 with
    | zero => intro zv rz E'3 H locs ls hm3; exact absurd hm3 (Nat.not_lt_zero _)
    | succ t3 ih3 =>
      intro zv rz E'3 H locs ls hm3 hzv hrz hfr3 hL3_92 hG hl
      refine lv_iload hx hb dX12_laysRows_3 (lv_at hl 0 rfl) ?_
      refine lv_aload_n hx hb dX12_laysRows_5 rfl (lv_at hl 1 rfl) ?_
      refine g_get S hG 83 16 (show gEof hG 83 = O83 b taped83 faultKind83 faultPlace83 at83 begin83 token83 value83 bad83 long083 wanted83 found83 deepMost83 letterAsked83 letterMany83 turns83 topTerm83 top83 left83 nodes83 sourceLong83 read83 toldSize83 toldRank83 boxSize83 isDealing83 dealKind83 dealLow83 dealMany83 dealLeft83 dealRound83 dealX83 from ((hfr3 83 (by omega) ).trans h83)) cpX12 wm_1690 dX12_laysRows_6 rfl (by omega) (by decide) ?_
      refine g_alen S hG 92 2 (show gEof hG 92 = cJ cy 512 rz from hL3_92) rfl (by omega) dX12_laysRows_9 (v := iI 512) (show Int32.ofNat 512 = iI 512 by decide) ?_
      refine gi_icmp_ge (tgt := 27) hx hb dX12_laysRows_10 (by decide) (by omega) (by omega) (fun c_1 => ?_) (fun c_1 => ?_)
      · have hG := gW_cj (g := fun _ => jJ 0) hG (show gEof hG 92 = cJ cy 512 rz from hL3_92) (by omega) (fun j hj => by rw [hrz j (by omega)])
        refine lv_aload_n hx hb dX12_laysRows_27 rfl (lv_at hl 1 rfl) ?_
        refine g_get S hG 83 16 (show gEof hG 83 = O83 b taped83 faultKind83 faultPlace83 at83 begin83 token83 value83 bad83 long083 wanted83 found83 deepMost83 letterAsked83 letterMany83 turns83 topTerm83 top83 left83 nodes83 sourceLong83 read83 toldSize83 toldRank83 boxSize83 isDealing83 dealKind83 dealLow83 dealMany83 dealLeft83 dealRound83 dealX83 from ((upE_n (by omega)).trans ((hfr3 83 (by omega) ).trans h83))) cpX12 wm_1690 dX12_laysRows_28 rfl (by omega) (by decide) ?_
        refine lv_iconst (v := iI 0) hx hb dX12_laysRows_31 (by decide) ?_
        refine lv_lconst (v := jJ 1) hx hb dX12_laysRows_32 (by decide) ?_
        refine gj_ast S hG 92 (show gEof hG 92 = cJ cy 512 (fun _ => 0) from upE_s) (by omega) dX12_laysRows_33 (by omega) (by decide) (fun H locs hG => ?_)
        refine lv_iconst (v := iI 1) hx hb dX12_laysRows_34 (by decide) ?_
        refine lv_istore (lv' := [(4, .int (iI 1)), (0, .ref (b + 83)), (1, .int (iI a1)), (2, .int (iI a2)), (3, .int (iI a3))]) hx hb dX12_laysRows_35 hl (by decide) rfl (fun ls hl => ?_)
        obtain ⟨EL37, hEL37, hG⟩ : ∃ EL37, EL37 = gEof hG ∧ gW D cy b n s _ _ EL37 := ⟨_, rfl, hG⟩
        have loop37 : ∀ (t37 : Nat) (jv : Int) (rj : Nat → Int) (E'37 : Nat → va_E) (H : Heap) (locs : List Loc) (ls : Array Slot), Int.toNat (10 - jv) < t37 → (1 ≤ jv ∧ jv ≤ 8) → (∀ j, 0 ≤ rj j ∧ rj j ≤ 100000000000000000) → (lrJ mn a1 a2 a3 (10 - jv).toNat jv rj = lrJ mn a1 a2 a3 9 1 (upZ (fun _ => 0) (Int.toNat 0) 1)) → (∀ j, j ≠ 92 → E'37 j = EL37 j) → E'37 92 = cJ cy 512 rj → gW D cy b n s H locs E'37 → lv_has ls 11 [(4, .int (iI jv)), (0, .ref (b + 83)), (1, .int (iI a1)), (2, .int (iI a2)), (3, .int (iI a3))] → W p l e (gRm 2 0 0) s m args below meth c H locs 0 0 (gQV D cy b s args below 0 0 (fun u => u.1 = n ∧ (∀ j, j ≠ 92 → u.2 j = E j) ∧ (∃ g : Nat → Int, u.2 92 = cJ cy 512 g ∧ g = lrJ mn a1 a2 a3 9 1 (upZ (fun _ => 0) (Int.toNat 0) 1)))) (F0 m 37 ls []) := by
          intro t37
          induction t37 with
          | zero => intro jv rj E'37 H locs ls hm37; exact absurd hm37 (Nat.not_lt_zero _)
          | succ t37 ih37 =>
            intro jv rj E'37 H locs ls hm37 hjv hb37 hf37 hfr37 hL37_92 hG hl
            refine lv_iload hx hb dX12_laysRows_37 (lv_at hl 0 rfl) ?_
            refine lv_iload_n hx hb dX12_laysRows_39 rfl (lv_at hl 3 rfl) ?_
            refine gi_icmp_gt (tgt := 197) hx hb dX12_laysRows_40 (by decide) (by omega) (by omega) (fun c_2 => ?_) (fun c_2 => ?_)
            · exact g_vret S hr hlk hG (by omega) dX12_laysRows_197 ⟨Nat.le_of_ble_eq_true rfl, Nat.le_of_ble_eq_true rfl⟩ ⟨rfl, fun j hj92 => (hfr37 j (by omega) ).trans ((congrFun hEL37 j).trans ((upE_n (by omega)).trans ((upE_n (by omega)).trans ((hfr3 j (by omega) ).trans (rfl))))), ⟨_, (show gEof hG 92 = cJ cy 512 rj from hL37_92), (by rw [← hf37, show (10 - jv).toNat = (10 - (jv + 1)).toNat + 1 by omega]; simp only [lrJ]; rw [if_pos (by omega)])⟩⟩
            · refine lv_iload hx hb dX12_laysRows_43 (lv_at hl 0 rfl) ?_
              refine lv_istore (lv' := [(5, .int (iI jv)), (4, .int (iI jv)), (0, .ref (b + 83)), (1, .int (iI a1)), (2, .int (iI a2)), (3, .int (iI a3))]) hx hb dX12_laysRows_45 hl (by decide) rfl (fun ls hl => ?_)
              have loop47 : ∀ (t47 : Nat) (av : Int) (ra : Nat → Int) (E'47 : Nat → va_E) (H : Heap) (locs : List Loc) (ls : Array Slot), Int.toNat (10 - av) < t47 → (jv ≤ av ∧ av ≤ 8) → (∀ j, 0 ≤ ra j ∧ ra j ≤ 100000000000000000) → (lrA mn a1 a2 a3 jv (9 + jv - av).toNat av ra = lrA mn a1 a2 a3 jv 9 jv rj) → (∀ j, j ≠ 92 → E'47 j = E'37 j) → E'47 92 = cJ cy 512 ra → gW D cy b n s H locs E'47 → lv_has ls 11 [(5, .int (iI av)), (4, .int (iI jv)), (0, .ref (b + 83)), (1, .int (iI a1)), (2, .int (iI a2)), (3, .int (iI a3))] → W p l e (gRm 2 0 0) s m args below meth c H locs 0 0 (gQV D cy b s args below 0 0 (fun u => u.1 = n ∧ (∀ j, j ≠ 92 → u.2 j = E j) ∧ (∃ g : Nat → Int, u.2 92 = cJ cy 512 g ∧ g = lrJ mn a1 a2 a3 9 1 (upZ (fun _ => 0) (Int.toNat 0) 1)))) (F0 m 47 ls []) := by
                intro t47
                induction t47 with
                | zero => intro av ra E'47 H locs ls hm47; exact absurd hm47 (Nat.not_lt_zero _)
                | succ t47 ih47 =>
                  intro av ra E'47 H locs ls hm47 hav hb47 hf47 hfr47 hL47_92 hG hl
                  refine lv_iload hx hb dX12_laysRows_47 (lv_at hl 0 rfl) ?_
                  refine lv_iload_n hx hb dX12_laysRows_49 rfl (lv_at hl 4 rfl) ?_
                  refine gi_icmp_gt (tgt := 191) hx hb dX12_laysRows_50 (by decide) (by omega) (by omega) (fun c_3 => ?_) (fun c_3 => ?_)
                  · have hv47 : ra = lrA mn a1 a2 a3 jv 9 jv rj := (by rw [← hf47, show ((9 + jv) - av).toNat = ((9 + jv) - (av + 1)).toNat + 1 by omega]; simp only [lrA]; rw [if_pos (by omega)])
                    refine lv_iinc (v := iI (jv + 1)) (lv' := [(4, .int (iI (jv + 1))), (5, .int (iI av)), (0, .ref (b + 83)), (1, .int (iI a1)), (2, .int (iI a2)), (3, .int (iI a3))]) hx hb dX12_laysRows_191 hl (k := 1) rfl ((iI_add jv (1)).trans (congrArg iI (by omega))) (by decide) rfl (fun ls hl => ?_)
                    refine lv_goto (tgt := 37) hx hb dX12_laysRows_194 (by decide) ?_
                    exact ih37 (jv + 1) ra _ _ _ ls (by omega) (by omega) hb47 (by rw [← hf37, show (10 - jv).toNat = (10 - (jv + 1)).toNat + 1 by omega]; simp only [lrJ]; rw [if_neg (by omega)]; rw [← hv47]) (fun j hj92 => (hfr47 j (by omega) ).trans (hfr37 j hj92)) (show gEof hG 92 = cJ cy 512 ra from hL47_92) hG (lv_sub hl [0, 2, 3, 4, 5] rfl)
                  · refine lv_iconst (v := iI 0) hx hb dX12_laysRows_53 (by decide) ?_
                    refine lv_istore (lv' := [(6, .int (iI 0)), (5, .int (iI av)), (4, .int (iI jv)), (0, .ref (b + 83)), (1, .int (iI a1)), (2, .int (iI a2)), (3, .int (iI a3))]) hx hb dX12_laysRows_54 hl (by decide) rfl (fun ls hl => ?_)
                    have loop56 : ∀ (t56 : Nat) (kv : Int) (rk : Nat → Int) (E'56 : Nat → va_E) (H : Heap) (locs : List Loc) (ls : Array Slot), Int.toNat (10 - kv) < t56 → (0 ≤ kv ∧ kv ≤ 8) → (∀ j, 0 ≤ rk j ∧ rk j ≤ 100000000000000000) → (lrK mn a1 a3 jv av (9 - kv).toNat kv rk = lrK mn a1 a3 jv av 9 0 ra) → (∀ j, j ≠ 92 → E'56 j = E'47 j) → E'56 92 = cJ cy 512 rk → gW D cy b n s H locs E'56 → lv_has ls 11 [(6, .int (iI kv)), (5, .int (iI av)), (4, .int (iI jv)), (0, .ref (b + 83)), (1, .int (iI a1)), (2, .int (iI a2)), (3, .int (iI a3))] → W p l e (gRm 2 0 0) s m args below meth c H locs 0 0 (gQV D cy b s args below 0 0 (fun u => u.1 = n ∧ (∀ j, j ≠ 92 → u.2 j = E j) ∧ (∃ g : Nat → Int, u.2 92 = cJ cy 512 g ∧ g = lrJ mn a1 a2 a3 9 1 (upZ (fun _ => 0) (Int.toNat 0) 1)))) (F0 m 56 ls []) := by
                      intro t56
                      induction t56 with
                      | zero => intro kv rk E'56 H locs ls hm56; exact absurd hm56 (Nat.not_lt_zero _)
                      | succ t56 ih56 =>
                        intro kv rk E'56 H locs ls hm56 hkv hb56 hf56 hfr56 hL56_92 hG hl
                        refine lv_iload hx hb dX12_laysRows_56 (lv_at hl 0 rfl) ?_
                        refine lv_iload hx hb dX12_laysRows_58 (lv_at hl 1 rfl) ?_
                        refine lv_iload_n hx hb dX12_laysRows_60 rfl (lv_at hl 6 rfl) ?_
                        refine gi_min S wm_1854 wm_762 wm_189 wm_763 hl.1 dX12_laysRows_61 ⟨Nat.le_of_ble_eq_true rfl, Nat.le_of_ble_eq_true rfl, Nat.le_of_ble_eq_true rfl, Nat.le_of_ble_eq_true rfl⟩ (by omega) (by omega) ?_
                        refine gi_nm (fun x_4 ex_4 => ?_)
                        refine gi_icmp_gt (tgt := 185) hx hb dX12_laysRows_64 (by decide) (by omega) (by omega) (fun c_5 => ?_) (fun c_5 => ?_)
                        · have hv56 : rk = lrK mn a1 a3 jv av 9 0 ra := (by rw [← hf56, show (9 - kv).toNat = (9 - (kv + 1)).toNat + 1 by omega]; simp only [lrK]; rw [if_pos (by omega)])
                          refine lv_iinc (v := iI (av + 1)) (lv' := [(5, .int (iI (av + 1))), (6, .int (iI kv)), (4, .int (iI jv)), (0, .ref (b + 83)), (1, .int (iI a1)), (2, .int (iI a2)), (3, .int (iI a3))]) hx hb dX12_laysRows_185 hl (k := 1) rfl ((iI_add av (1)).trans (congrArg iI (by omega))) (by decide) rfl (fun ls hl => ?_)
                          refine lv_goto (tgt := 47) hx hb dX12_laysRows_188 (by decide) ?_
                          exact ih47 (av + 1) rk _ _ _ ls (by omega) (by omega) hb56 (by rw [← hf47, show ((9 + jv) - av).toNat = ((9 + jv) - (av + 1)).toNat + 1 by omega]; simp only [lrA]; rw [if_neg (by omega)]; rw [← hv56]) (fun j hj92 => (hfr56 j (by omega) ).trans (hfr47 j hj92)) (show gEof hG 92 = cJ cy 512 rk from hL56_92) hG (lv_sub hl [0, 2, 3, 4, 5, 6] rfl)
                        · refine lv_lconst (v := jJ 0) hx hb dX12_laysRows_67 (by decide) ?_
                          refine lv_lstore (lv' := [(7, .long (jJ 0)), (6, .int (iI kv)), (5, .int (iI av)), (4, .int (iI jv)), (0, .ref (b + 83)), (1, .int (iI a1)), (2, .int (iI a2)), (3, .int (iI a3))]) hx hb dX12_laysRows_68 hl (by decide) rfl (fun ls hl => ?_)
                          refine lv_iconst (v := iI 1) hx hb dX12_laysRows_70 (by decide) ?_
                          refine lv_istore (lv' := [(9, .int (iI 1)), (7, .long (jJ 0)), (6, .int (iI kv)), (5, .int (iI av)), (4, .int (iI jv)), (0, .ref (b + 83)), (1, .int (iI a1)), (2, .int (iI a2)), (3, .int (iI a3))]) hx hb dX12_laysRows_71 hl (by decide) rfl (fun ls hl => ?_)
                          have loop73 : ∀ (t73 : Nat) (sv : Int) (us : Int) (H : Heap) (locs : List Loc) (ls : Array Slot), Int.toNat (11 - sv) < t73 → (1 ≤ sv ∧ sv ≤ 9 ∧ sv ≤ av - jv + 2 ∧ 0 ≤ us ∧ us ≤ 100000000000000000) → (lrS mn rk a1 jv av kv (10 - sv).toNat sv us = lrS mn rk a1 jv av kv 9 1 0) → gW D cy b n s H locs E'56 → lv_has ls 11 [(9, .int (iI sv)), (7, .long (jJ us)), (6, .int (iI kv)), (5, .int (iI av)), (4, .int (iI jv)), (0, .ref (b + 83)), (1, .int (iI a1)), (2, .int (iI a2)), (3, .int (iI a3))] → W p l e (gRm 2 0 0) s m args below meth c H locs 0 0 (gQV D cy b s args below 0 0 (fun u => u.1 = n ∧ (∀ j, j ≠ 92 → u.2 j = E j) ∧ (∃ g : Nat → Int, u.2 92 = cJ cy 512 g ∧ g = lrJ mn a1 a2 a3 9 1 (upZ (fun _ => 0) (Int.toNat 0) 1)))) (F0 m 73 ls []) := by
                            intro t73
                            induction t73 with
                            | zero => intro sv us H locs ls hm73; exact absurd hm73 (Nat.not_lt_zero _)
                            | succ t73 ih73 =>
                              intro sv us H locs ls hm73 hsv hf73  hG hl
                              refine lv_iload hx hb dX12_laysRows_73 (lv_at hl 0 rfl) ?_
                              refine lv_iload hx hb dX12_laysRows_75 (lv_at hl 3 rfl) ?_
                              refine lv_iload hx hb dX12_laysRows_77 (lv_at hl 4 rfl) ?_
                              refine gi_sub hx hb dX12_laysRows_79 ?_
                              refine lv_iconst (v := iI 1) hx hb dX12_laysRows_80 (by decide) ?_
                              refine gi_add hx hb dX12_laysRows_81 ?_
                              refine gi_nm (fun x_6 ex_6 => ?_)
                              refine gi_icmp_gt (tgt := 163) hx hb dX12_laysRows_82 (by decide) (by omega) (by omega) (fun c_7 => ?_) (fun c_7 => ?_)
                              · have hv73 : us = lrS mn rk a1 jv av kv 9 1 0 := (by rw [← hf73, show (10 - sv).toNat = (10 - (sv + 1)).toNat + 1 by omega]; simp only [lrS]; rw [if_pos (by omega)])
                                refine lv_aload_n hx hb dX12_laysRows_163 rfl (lv_at hl 5 rfl) ?_
                                refine g_get S hG 83 16 (show gEof hG 83 = O83 b taped83 faultKind83 faultPlace83 at83 begin83 token83 value83 bad83 long083 wanted83 found83 deepMost83 letterAsked83 letterMany83 turns83 topTerm83 top83 left83 nodes83 sourceLong83 read83 toldSize83 toldRank83 boxSize83 isDealing83 dealKind83 dealLow83 dealMany83 dealLeft83 dealRound83 dealX83 from ((hfr56 83 (by omega) ).trans ((hfr47 83 (by omega) ).trans ((hfr37 83 (by omega) ).trans ((congrFun hEL37 83).trans ((upE_n (by omega)).trans ((upE_n (by omega)).trans ((hfr3 83 (by omega) ).trans h83)))))))) cpX12 wm_1690 dX12_laysRows_164 rfl (by omega) (by decide) ?_
                                refine lv_iload hx hb dX12_laysRows_167 (lv_at hl 4 rfl) ?_
                                refine lv_iload hx hb dX12_laysRows_169 (lv_at hl 3 rfl) ?_
                                refine lv_iload hx hb dX12_laysRows_171 (lv_at hl 2 rfl) ?_
                                refine g_si (As := [.int (iI jv), .int (iI av), .int (iI kv)]) (rest := [.ref (b + 92)]) S hG (by omega) (wX12_place l hn  jv av kv (by omega) (by omega) (by omega) (by omega)) wS_12_276 dX12_laysRows_173 rfl hl.1 (ar := 3) (by decide +kernel) rfl ⟨Nat.le_of_ble_eq_true rfl, Nat.le_of_ble_eq_true rfl, Nat.le_of_ble_eq_true rfl, Nat.le_of_ble_eq_true rfl⟩ (Nat.le_of_ble_eq_true rfl) (fun r_8 u_9 H locs hp_10 hG => ?_)
                                obtain ⟨nu_9, Eu_9⟩ := u_9
                                dsimp only at hp_10 hG
                                obtain ⟨rfl, en_11, ee_12⟩ := hp_10
                                have hG := gW_eq2 hG en_11 ee_12
                                refine gi_nm (fun x_13 ex_13 => ?_)
                                refine lv_lload hx hb dX12_laysRows_176 (lv_at hl 1 rfl) ?_
                                refine gj_ast S hG 92 (show gEof hG 92 = cJ cy 512 rk from hL56_92) (by omega) dX12_laysRows_178 (by omega) (by decide) (fun H locs hG => ?_)
                                refine lv_iinc (v := iI (kv + 1)) (lv' := [(6, .int (iI (kv + 1))), (9, .int (iI sv)), (7, .long (jJ us)), (5, .int (iI av)), (4, .int (iI jv)), (0, .ref (b + 83)), (1, .int (iI a1)), (2, .int (iI a2)), (3, .int (iI a3))]) hx hb dX12_laysRows_179 hl (k := 2) rfl ((iI_add kv (1)).trans (congrArg iI (by omega))) (by decide) rfl (fun ls hl => ?_)
                                refine lv_goto (tgt := 56) hx hb dX12_laysRows_182 (by decide) ?_
                                exact ih56 (kv + 1) (upZ rk (Int.toNat x_13) us) _ _ _ ls (by omega) (by omega) (upZ_bd hb56 (by omega)) (by rw [← hf56, show (9 - kv).toNat = (9 - (kv + 1)).toNat + 1 by omega]; simp only [lrK]; rw [if_neg (by omega)]; rw [← hv73]; try (subst_vars; rfl)) (fun j hj92 => (upE_n (by omega)).trans (hfr56 j hj92)) (show gEof hG 92 = cJ cy 512 (upZ rk (Int.toNat x_13) us) from upE_s) hG (lv_sub hl [0, 3, 4, 5, 6, 7, 8] rfl)
                              · refine lv_iconst (v := iI 0) hx hb dX12_laysRows_85 (by decide) ?_
                                refine lv_istore (lv' := [(10, .int (iI 0)), (9, .int (iI sv)), (7, .long (jJ us)), (6, .int (iI kv)), (5, .int (iI av)), (4, .int (iI jv)), (0, .ref (b + 83)), (1, .int (iI a1)), (2, .int (iI a2)), (3, .int (iI a3))]) hx hb dX12_laysRows_86 hl (by decide) rfl (fun ls hl => ?_)
                                have loop88 : ∀ (t88 : Nat) (iv : Int) (vv : Int) (H : Heap) (locs : List Loc) (ls : Array Slot), Int.toNat (10 - iv) < t88 → (0 ≤ iv ∧ iv ≤ 8 ∧ 0 ≤ vv ∧ vv ≤ 100000000000000000) → (lrI mn rk a1 jv av kv sv (9 - iv).toNat iv vv = lrI mn rk a1 jv av kv sv 9 0 us) → gW D cy b n s H locs E'56 → lv_has ls 11 [(10, .int (iI iv)), (9, .int (iI sv)), (7, .long (jJ vv)), (6, .int (iI kv)), (5, .int (iI av)), (4, .int (iI jv)), (0, .ref (b + 83)), (1, .int (iI a1)), (2, .int (iI a2)), (3, .int (iI a3))] → W p l e (gRm 2 0 0) s m args below meth c H locs 0 0 (gQV D cy b s args below 0 0 (fun u => u.1 = n ∧ (∀ j, j ≠ 92 → u.2 j = E j) ∧ (∃ g : Nat → Int, u.2 92 = cJ cy 512 g ∧ g = lrJ mn a1 a2 a3 9 1 (upZ (fun _ => 0) (Int.toNat 0) 1)))) (F0 m 88 ls []) := by
                                  intro t88
                                  induction t88 with
                                  | zero => intro iv vv H locs ls hm88; exact absurd hm88 (Nat.not_lt_zero _)
                                  | succ t88 ih88 =>
                                    intro iv vv H locs ls hm88 hiv hf88  hG hl
                                    refine lv_iload hx hb dX12_laysRows_88 (lv_at hl 0 rfl) ?_
                                    refine lv_iload hx hb dX12_laysRows_90 (lv_at hl 1 rfl) ?_
                                    refine lv_iload hx hb dX12_laysRows_92 (lv_at hl 3 rfl) ?_
                                    refine gi_min S wm_1854 wm_762 wm_189 wm_763 hl.1 dX12_laysRows_94 ⟨Nat.le_of_ble_eq_true rfl, Nat.le_of_ble_eq_true rfl, Nat.le_of_ble_eq_true rfl, Nat.le_of_ble_eq_true rfl⟩ (by omega) (by omega) ?_
                                    refine gi_nm (fun x_14 ex_14 => ?_)
                                    refine gi_icmp_gt (tgt := 157) hx hb dX12_laysRows_97 (by decide) (by omega) (by omega) (fun c_15 => ?_) (fun c_15 => ?_)
                                    · have hv88 : vv = lrI mn rk a1 jv av kv sv 9 0 us := (by rw [← hf88, show (9 - iv).toNat = (9 - (iv + 1)).toNat + 1 by omega]; simp only [lrI]; rw [if_pos (by omega)])
                                      refine lv_iinc (v := iI (sv + 1)) (lv' := [(9, .int (iI (sv + 1))), (10, .int (iI iv)), (7, .long (jJ vv)), (6, .int (iI kv)), (5, .int (iI av)), (4, .int (iI jv)), (0, .ref (b + 83)), (1, .int (iI a1)), (2, .int (iI a2)), (3, .int (iI a3))]) hx hb dX12_laysRows_157 hl (k := 1) rfl ((iI_add sv (1)).trans (congrArg iI (by omega))) (by decide) rfl (fun ls hl => ?_)
                                      refine lv_goto (tgt := 73) hx hb dX12_laysRows_160 (by decide) ?_
                                      exact ih73 (sv + 1) vv _ _ ls (by omega) (by omega) (by rw [← hf73, show (10 - sv).toNat = (10 - (sv + 1)).toNat + 1 by omega]; simp only [lrS]; rw [if_neg (by omega)]; rw [← hv88]) hG (lv_sub hl [0, 2, 3, 4, 5, 6, 7, 8, 9] rfl)
                                    · refine lv_lload hx hb dX12_laysRows_100 (lv_at hl 2 rfl) ?_
                                      refine lv_aload_n hx hb dX12_laysRows_102 rfl (lv_at hl 6 rfl) ?_
                                      refine g_get S hG 83 14 (show gEof hG 83 = O83 b taped83 faultKind83 faultPlace83 at83 begin83 token83 value83 bad83 long083 wanted83 found83 deepMost83 letterAsked83 letterMany83 turns83 topTerm83 top83 left83 nodes83 sourceLong83 read83 toldSize83 toldRank83 boxSize83 isDealing83 dealKind83 dealLow83 dealMany83 dealLeft83 dealRound83 dealX83 from ((hfr56 83 (by omega) ).trans ((hfr47 83 (by omega) ).trans ((hfr37 83 (by omega) ).trans ((congrFun hEL37 83).trans ((upE_n (by omega)).trans ((upE_n (by omega)).trans ((hfr3 83 (by omega) ).trans h83)))))))) cpX12 wm_1688 dX12_laysRows_103 rfl (by omega) (by decide) ?_
                                      refine lv_iload_n hx hb dX12_laysRows_106 rfl (lv_at hl 7 rfl) ?_
                                      refine lv_iload hx hb dX12_laysRows_107 (lv_at hl 1 rfl) ?_
                                      refine lv_iload hx hb dX12_laysRows_109 (lv_at hl 0 rfl) ?_
                                      refine g_si (As := [.int (iI a1), .int (iI sv), .int (iI iv)]) (rest := [.ref (b + 90), .long (jJ vv)]) S hG (by omega) (wX12_place l hn  a1 sv iv (by omega) (by omega) (by omega) (by omega)) wS_12_276 dX12_laysRows_111 rfl hl.1 (ar := 3) (by decide +kernel) rfl ⟨Nat.le_of_ble_eq_true rfl, Nat.le_of_ble_eq_true rfl, Nat.le_of_ble_eq_true rfl, Nat.le_of_ble_eq_true rfl⟩ (Nat.le_of_ble_eq_true rfl) (fun r_16 u_17 H locs hp_18 hG => ?_)
                                      obtain ⟨nu_17, Eu_17⟩ := u_17
                                      dsimp only at hp_18 hG
                                      obtain ⟨rfl, en_19, ee_20⟩ := hp_18
                                      have hG := gW_eq2 hG en_19 ee_20
                                      refine gi_nm (fun x_21 ex_21 => ?_)
                                      refine gj_ald S hG 90 (show gEof hG 90 = cJ cy 1920 mn from ((hfr56 90 (by omega) ).trans ((hfr47 90 (by omega) ).trans ((hfr37 90 (by omega) ).trans ((congrFun hEL37 90).trans ((upE_n (by omega)).trans ((upE_n (by omega)).trans ((hfr3 90 (by omega) ).trans h90)))))))) (by omega) dX12_laysRows_114 (by omega) (by decide) ?_
                                      refine gj_nm (fun x_22 ex_22 => ?_)
                                      have bx_22 := hmn (x_21.toNat)
                                      refine lv_aload_n hx hb dX12_laysRows_115 rfl (lv_at hl 6 rfl) ?_
                                      refine g_get S hG 83 16 (show gEof hG 83 = O83 b taped83 faultKind83 faultPlace83 at83 begin83 token83 value83 bad83 long083 wanted83 found83 deepMost83 letterAsked83 letterMany83 turns83 topTerm83 top83 left83 nodes83 sourceLong83 read83 toldSize83 toldRank83 boxSize83 isDealing83 dealKind83 dealLow83 dealMany83 dealLeft83 dealRound83 dealX83 from ((hfr56 83 (by omega) ).trans ((hfr47 83 (by omega) ).trans ((hfr37 83 (by omega) ).trans ((congrFun hEL37 83).trans ((upE_n (by omega)).trans ((upE_n (by omega)).trans ((hfr3 83 (by omega) ).trans h83)))))))) cpX12 wm_1690 dX12_laysRows_116 rfl (by omega) (by decide) ?_
                                      refine lv_iload hx hb dX12_laysRows_119 (lv_at hl 5 rfl) ?_
                                      refine lv_iconst (v := iI 1) hx hb dX12_laysRows_121 (by decide) ?_
                                      refine gi_sub hx hb dX12_laysRows_122 ?_
                                      refine lv_iload hx hb dX12_laysRows_123 (lv_at hl 4 rfl) ?_
                                      refine lv_iload hx hb dX12_laysRows_125 (lv_at hl 1 rfl) ?_
                                      refine gi_sub hx hb dX12_laysRows_127 ?_
                                      refine lv_iload hx hb dX12_laysRows_128 (lv_at hl 3 rfl) ?_
                                      refine lv_iload hx hb dX12_laysRows_130 (lv_at hl 0 rfl) ?_
                                      refine gi_sub hx hb dX12_laysRows_132 ?_
                                      refine g_si (As := [.int (iI (jv - 1)), .int (iI (av - sv)), .int (iI (kv - iv))]) (rest := [.ref (b + 92), .long (jJ x_22), .long (jJ vv)]) S hG (by omega) (wX12_place l hn  (jv - 1) (av - sv) (kv - iv) (by omega) (by omega) (by omega) (by omega)) wS_12_276 dX12_laysRows_133 rfl hl.1 (ar := 3) (by decide +kernel) rfl ⟨Nat.le_of_ble_eq_true rfl, Nat.le_of_ble_eq_true rfl, Nat.le_of_ble_eq_true rfl, Nat.le_of_ble_eq_true rfl⟩ (Nat.le_of_ble_eq_true rfl) (fun r_23 u_24 H locs hp_25 hG => ?_)
                                      obtain ⟨nu_24, Eu_24⟩ := u_24
                                      dsimp only at hp_25 hG
                                      obtain ⟨rfl, en_26, ee_27⟩ := hp_25
                                      have hG := gW_eq2 hG en_26 ee_27
                                      refine gi_nm (fun x_28 ex_28 => ?_)
                                      refine gj_ald S hG 92 (show gEof hG 92 = cJ cy 512 rk from hL56_92) (by omega) dX12_laysRows_136 (by omega) (by decide) ?_
                                      refine gj_nm (fun x_29 ex_29 => ?_)
                                      have bx_29 := hb56 (x_28.toNat)
                                      refine lv_ldc2 (v := 100000000000000000) hx hb S.2.2.2.1 (S.2.2.2.2 _ wm_2057) dX12_laysRows_137 ?_
                                      refine gj_as 100000000000000000 (by decide) ?_
                                      refine g_sl (As := [.long (jJ x_22), .long (jJ x_29), .long (jJ 100000000000000000)]) (rest := [.long (jJ vv)]) S hG (by omega) (wX12_mul2 l hn  x_22 x_29 100000000000000000 (by omega) (by omega) (by omega) (by omega)) wS_12_286 dX12_laysRows_140 rfl hl.1 (ar := 3) (by decide +kernel) rfl ⟨Nat.le_of_ble_eq_true rfl, Nat.le_of_ble_eq_true rfl, Nat.le_of_ble_eq_true rfl, Nat.le_of_ble_eq_true rfl⟩ (Nat.le_of_ble_eq_true rfl) (fun r_30 u_31 H locs hp_32 hG => ?_)
                                      obtain ⟨nu_31, Eu_31⟩ := u_31
                                      dsimp only at hp_32 hG
                                      obtain ⟨rfl, rb_33, en_34, ee_35⟩ := hp_32
                                      have hG := gW_eq2 hG en_34 ee_35
                                      refine gj_nm (fun x_36 ex_36 => ?_)
                                      refine lv_ldc2 (v := 100000000000000000) hx hb S.2.2.2.1 (S.2.2.2.2 _ wm_2057) dX12_laysRows_143 ?_
                                      refine gj_as 100000000000000000 (by decide) ?_
                                      refine g_sl (As := [.long (jJ vv), .long (jJ x_36), .long (jJ 100000000000000000)]) (rest := []) S hG (by omega) (wX12_add2 l hn  vv x_36 100000000000000000 (by omega) (by omega) (by omega) (by omega)) wS_12_282 dX12_laysRows_146 rfl hl.1 (ar := 3) (by decide +kernel) rfl ⟨Nat.le_of_ble_eq_true rfl, Nat.le_of_ble_eq_true rfl, Nat.le_of_ble_eq_true rfl, Nat.le_of_ble_eq_true rfl⟩ (Nat.le_of_ble_eq_true rfl) (fun r_37 u_38 H locs hp_39 hG => ?_)
                                      obtain ⟨nu_38, Eu_38⟩ := u_38
                                      dsimp only at hp_39 hG
                                      obtain ⟨rfl, rb_40, en_41, ee_42⟩ := hp_39
                                      have hG := gW_eq2 hG en_41 ee_42
                                      refine gj_nm (fun x_43 ex_43 => ?_)
                                      refine lv_lstore (lv' := [(7, .long (jJ x_43)), (10, .int (iI iv)), (9, .int (iI sv)), (6, .int (iI kv)), (5, .int (iI av)), (4, .int (iI jv)), (0, .ref (b + 83)), (1, .int (iI a1)), (2, .int (iI a2)), (3, .int (iI a3))]) hx hb dX12_laysRows_149 hl (by decide) rfl (fun ls hl => ?_)
                                      refine lv_iinc (v := iI (iv + 1)) (lv' := [(10, .int (iI (iv + 1))), (7, .long (jJ x_43)), (9, .int (iI sv)), (6, .int (iI kv)), (5, .int (iI av)), (4, .int (iI jv)), (0, .ref (b + 83)), (1, .int (iI a1)), (2, .int (iI a2)), (3, .int (iI a3))]) hx hb dX12_laysRows_151 hl (k := 1) rfl ((iI_add iv (1)).trans (congrArg iI (by omega))) (by decide) rfl (fun ls hl => ?_)
                                      refine lv_goto (tgt := 88) hx hb dX12_laysRows_154 (by decide) ?_
                                      exact ih88 (iv + 1) x_43 _ _ ls (by omega) (by omega) (by rw [← hf88, show (9 - iv).toNat = (9 - (iv + 1)).toNat + 1 by omega]; simp only [lrI]; rw [if_neg (by omega)]; try (subst_vars; rfl)) hG (lv_sub hl [0, 2, 1, 3, 4, 5, 6, 7, 8, 9] rfl)
                                exact loop88 (Int.toNat (10 - 0) + 1) 0 us _ _ ls (by omega) (by omega) rfl hG (lv_sub hl [0, 1, 2, 3, 4, 5, 6, 7, 8, 9] rfl)
                          exact loop73 (Int.toNat (11 - 1) + 1) 1 0 _ _ ls (by omega) (by omega) rfl hG (lv_sub hl [0, 1, 2, 3, 4, 5, 6, 7, 8] rfl)
                    exact loop56 (Int.toNat (10 - 0) + 1) 0 ra _ _ _ ls (by omega) (by omega) hb47 rfl (fun j _ => rfl) (show E'47 92 = cJ cy 512 ra from hL47_92) hG (lv_sub hl [0, 1, 2, 3, 4, 5, 6] rfl)
              exact loop47 (Int.toNat (10 - jv) + 1) jv rj _ _ _ ls (by omega) (by omega) hb37 (by rw [show (9 + jv - jv).toNat = 9 by omega]) (fun j _ => rfl) (show E'37 92 = cJ cy 512 rj from hL37_92) hG (lv_sub hl [0, 1, 2, 3, 4, 5] rfl)
        exact loop37 (Int.toNat (10 - 1) + 1) 1 (upZ (fun _ => 0) (Int.toNat 0) 1) _ _ _ ls (by omega) (by omega) (upZ_bd (fun _ => by omega) (by omega)) rfl (fun j _ => rfl) (show EL37 92 = cJ cy 512 (upZ (fun _ => 0) (Int.toNat 0) 1) from ((congrFun hEL37 92).trans upE_s)) hG (lv_sub hl [0, 1, 2, 3, 4] rfl)
      · refine lv_aload_n hx hb dX12_laysRows_13 rfl (lv_at hl 1 rfl) ?_
        refine g_get S hG 83 16 (show gEof hG 83 = O83 b taped83 faultKind83 faultPlace83 at83 begin83 token83 value83 bad83 long083 wanted83 found83 deepMost83 letterAsked83 letterMany83 turns83 topTerm83 top83 left83 nodes83 sourceLong83 read83 toldSize83 toldRank83 boxSize83 isDealing83 dealKind83 dealLow83 dealMany83 dealLeft83 dealRound83 dealX83 from ((hfr3 83 (by omega) ).trans h83)) cpX12 wm_1690 dX12_laysRows_14 rfl (by omega) (by decide) ?_
        refine lv_iload hx hb dX12_laysRows_17 (lv_at hl 0 rfl) ?_
        refine lv_lconst (v := jJ 0) hx hb dX12_laysRows_19 (by decide) ?_
        refine gj_ast S hG 92 (show gEof hG 92 = cJ cy 512 rz from hL3_92) (by omega) dX12_laysRows_20 (by omega) (by decide) (fun H locs hG => ?_)
        refine lv_iinc (v := iI (zv + 1)) (lv' := [(4, .int (iI (zv + 1))), (0, .ref (b + 83)), (1, .int (iI a1)), (2, .int (iI a2)), (3, .int (iI a3))]) hx hb dX12_laysRows_21 hl (k := 0) rfl ((iI_add zv (1)).trans (congrArg iI (by omega))) (by decide) rfl (fun ls hl => ?_)
        refine lv_goto (tgt := 3) hx hb dX12_laysRows_24 (by decide) ?_
        exact ih3 (zv + 1) (upZ rz (Int.toNat zv) 0) _ _ _ ls (by omega) (by omega) (fun j hj => by by_cases hq : j = Int.toNat zv <;> simp only [upZ, hq, if_true, if_false] <;> first | rfl | exact hrz j (by omega)) (fun j hj92 => (upE_n (by omega)).trans (hfr3 j hj92)) (show gEof hG 92 = cJ cy 512 (upZ rz (Int.toNat zv) 0) from upE_s) hG (lv_sub hl [0, 1, 2, 3, 4] rfl)
  exact loop3 (Int.toNat (513 - 0) + 1) 0 rw0 _ _ _ ls (by omega) (by omega) (fun j hj => absurd hj (by omega)) (fun j _ => rfl) (show E 92 = cJ cy 512 rw0 from h92) hG (lv_sub hl [0, 1, 2, 3, 4] rfl)
