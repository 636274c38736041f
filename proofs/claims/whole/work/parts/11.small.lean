theorem dX12_in_0 : decode cX12_in 0 = .ok (.lload_n 0, 1) := by decide +kernel
theorem dX12_in_1 : decode cX12_in 1 = .ok (.lload_n 2, 1) := by decide +kernel
theorem dX12_in_2 : decode cX12_in 2 = .ok (.lcmp, 1) := by decide +kernel
theorem dX12_in_3 : decode cX12_in 3 = .ok (.ifCond .lt 14, 3) := by decide +kernel
theorem dX12_in_17 : decode cX12_in 17 = .ok (.iconst 0, 1) := by decide +kernel
theorem dX12_in_18 : decode cX12_in 18 = .ok (.ireturn, 1) := by decide +kernel
theorem dX12_in_6 : decode cX12_in 6 = .ok (.lload_n 0, 1) := by decide +kernel
theorem dX12_in_7 : decode cX12_in 7 = .ok (.lload 4, 2) := by decide +kernel
theorem dX12_in_9 : decode cX12_in 9 = .ok (.lcmp, 1) := by decide +kernel
theorem dX12_in_10 : decode cX12_in 10 = .ok (.ifCond .gt 7, 3) := by decide +kernel
theorem dX12_in_13 : decode cX12_in 13 = .ok (.iconst 1, 1) := by decide +kernel
theorem dX12_in_14 : decode cX12_in 14 = .ok (.goto 4, 3) := by decide +kernel
theorem dX11_known_0 : decode cX11_known 0 = .ok (.iload_n 1, 1) := by decide +kernel
theorem dX11_known_1 : decode cX11_known 1 = .ok (.ifCond .lt 18, 3) := by decide +kernel
theorem dX11_known_19 : decode cX11_known 19 = .ok (.iconst 0, 1) := by decide +kernel
theorem dX11_known_20 : decode cX11_known 20 = .ok (.ireturn, 1) := by decide +kernel
theorem dX11_known_4 : decode cX11_known 4 = .ok (.iload_n 1, 1) := by decide +kernel
theorem dX11_known_5 : decode cX11_known 5 = .ok (.aload_n 0, 1) := by decide +kernel
theorem dX11_known_6 : decode cX11_known 6 = .ok (.getfield 20, 3) := by decide +kernel
theorem dX11_known_9 : decode cX11_known 9 = .ok (.getfield 156, 3) := by decide +kernel
theorem wm_221 : (Jvm.Cond.fieldLink "GrownKinds" (156 : Nat) "GrownKinds$Grammar" "kinds" "I") ∈ gT := gT_in (List.mem_of_getElem? (i := 221) (by decide +kernel)) (by decide +kernel)
theorem dX11_known_12 : decode cX11_known 12 = .ok (.if_icmp .ge 7, 3) := by decide +kernel
theorem dX11_known_15 : decode cX11_known 15 = .ok (.iconst 1, 1) := by decide +kernel
theorem dX11_known_16 : decode cX11_known 16 = .ok (.goto 4, 3) := by decide +kernel
theorem dX11_lettered_0 : decode cX11_lettered 0 = .ok (.iload_n 0, 1) := by decide +kernel
theorem dX11_lettered_1 : decode cX11_lettered 1 = .ok (.ifCond .lt 13, 3) := by decide +kernel
theorem dX11_lettered_14 : decode cX11_lettered 14 = .ok (.iconst 0, 1) := by decide +kernel
theorem dX11_lettered_15 : decode cX11_lettered 15 = .ok (.ireturn, 1) := by decide +kernel
theorem dX11_lettered_4 : decode cX11_lettered 4 = .ok (.iload_n 0, 1) := by decide +kernel
theorem dX11_lettered_5 : decode cX11_lettered 5 = .ok (.bipush 26, 2) := by decide +kernel
theorem dX11_lettered_7 : decode cX11_lettered 7 = .ok (.if_icmp .ge 7, 3) := by decide +kernel
theorem dX11_lettered_10 : decode cX11_lettered 10 = .ok (.iconst 1, 1) := by decide +kernel
theorem dX11_lettered_11 : decode cX11_lettered 11 = .ok (.goto 4, 3) := by decide +kernel
theorem dX11_sized_0 : decode cX11_sized 0 = .ok (.aload_n 0, 1) := by decide +kernel
theorem dX11_sized_1 : decode cX11_sized 1 = .ok (.iload_n 1, 1) := by decide +kernel
theorem dX11_sized_2 : decode cX11_sized 2 = .ok (.invokevirtual 168, 3) := by decide +kernel
theorem wm_1109 : (Jvm.Cond.methodLink "GrownKinds" (168 : Nat) ({ cls := "GrownKinds", name := "known", desc := "(I)Z" } : Jvm.MethodName)) ∈ gT := gT_in (List.mem_of_getElem? (i := 1109) (by decide +kernel)) (by decide +kernel)
theorem wm_1111 : (Jvm.Cond.instanceMethod ({ cls := "GrownKinds", name := "known", desc := "(I)Z" } : Jvm.MethodName)) ∈ gT := gT_in (List.mem_of_getElem? (i := 1111) (by decide +kernel)) (by decide +kernel)
theorem wm_48 : Cond.selects "GrownKinds" ⟨"GrownKinds", "known", "(I)Z"⟩ ⟨"GrownKinds", "known", "(I)Z"⟩ ∈ gT := gT_in (List.mem_of_getElem? (i := 48) (by decide +kernel)) (by decide +kernel)
theorem wm_176 : (Jvm.Cond.initialized "GrownKinds") ∈ gT := gT_in (List.mem_of_getElem? (i := 176) (by decide +kernel)) (by decide +kernel)
theorem wm_1112 : (Jvm.Cond.code ({ cls := "GrownKinds", name := "known", desc := "(I)Z" } : Jvm.MethodName) prog_1_method_9_code (2 : Nat) (Option.some Jvm.ClassFile.FieldType.boolean)) ∈ gT := gT_in (List.mem_of_getElem? (i := 1112) (by decide +kernel)) (by decide +kernel)
theorem dX11_sized_5 : decode cX11_sized 5 = .ok (.ifCond .eq 22, 3) := by decide +kernel
theorem dX11_sized_27 : decode cX11_sized 27 = .ok (.iconst 0, 1) := by decide +kernel
theorem dX11_sized_28 : decode cX11_sized 28 = .ok (.ireturn, 1) := by decide +kernel
theorem dX11_sized_8 : decode cX11_sized 8 = .ok (.iload_n 2, 1) := by decide +kernel
theorem dX11_sized_9 : decode cX11_sized 9 = .ok (.ifCond .lt 18, 3) := by decide +kernel
theorem dX11_sized_12 : decode cX11_sized 12 = .ok (.iload_n 2, 1) := by decide +kernel
theorem dX11_sized_13 : decode cX11_sized 13 = .ok (.aload_n 0, 1) := by decide +kernel
theorem dX11_sized_14 : decode cX11_sized 14 = .ok (.getfield 20, 3) := by decide +kernel
theorem dX11_sized_17 : decode cX11_sized 17 = .ok (.getfield 159, 3) := by decide +kernel
theorem wm_214 : (Jvm.Cond.fieldLink "GrownKinds" (159 : Nat) "GrownKinds$Grammar" "most" "I") ∈ gT := gT_in (List.mem_of_getElem? (i := 214) (by decide +kernel)) (by decide +kernel)
theorem dX11_sized_20 : decode cX11_sized 20 = .ok (.if_icmp .gt 7, 3) := by decide +kernel
theorem dX11_sized_23 : decode cX11_sized 23 = .ok (.iconst 1, 1) := by decide +kernel
theorem dX11_sized_24 : decode cX11_sized 24 = .ok (.goto 4, 3) := by decide +kernel
theorem dX11_boxy_0 : decode cX11_boxy 0 = .ok (.aload_n 0, 1) := by decide +kernel
theorem dX11_boxy_1 : decode cX11_boxy 1 = .ok (.iload_n 1, 1) := by decide +kernel
theorem dX11_boxy_2 : decode cX11_boxy 2 = .ok (.iload_n 2, 1) := by decide +kernel
theorem dX11_boxy_3 : decode cX11_boxy 3 = .ok (.invokevirtual 175, 3) := by decide +kernel
theorem wm_1162 : (Jvm.Cond.methodLink "GrownKinds" (175 : Nat) ({ cls := "GrownKinds", name := "sized", desc := "(II)Z" } : Jvm.MethodName)) ∈ gT := gT_in (List.mem_of_getElem? (i := 1162) (by decide +kernel)) (by decide +kernel)
theorem wm_1164 : (Jvm.Cond.instanceMethod ({ cls := "GrownKinds", name := "sized", desc := "(II)Z" } : Jvm.MethodName)) ∈ gT := gT_in (List.mem_of_getElem? (i := 1164) (by decide +kernel)) (by decide +kernel)
theorem wm_49 : Cond.selects "GrownKinds" ⟨"GrownKinds", "sized", "(II)Z"⟩ ⟨"GrownKinds", "sized", "(II)Z"⟩ ∈ gT := gT_in (List.mem_of_getElem? (i := 49) (by decide +kernel)) (by decide +kernel)
theorem wm_1165 : (Jvm.Cond.code ({ cls := "GrownKinds", name := "sized", desc := "(II)Z" } : Jvm.MethodName) prog_1_method_10_code (3 : Nat) (Option.some Jvm.ClassFile.FieldType.boolean)) ∈ gT := gT_in (List.mem_of_getElem? (i := 1165) (by decide +kernel)) (by decide +kernel)
theorem dX11_boxy_6 : decode cX11_boxy 6 = .ok (.ifCond .eq 21, 3) := by decide +kernel
theorem dX11_boxy_27 : decode cX11_boxy 27 = .ok (.iconst 0, 1) := by decide +kernel
theorem dX11_boxy_28 : decode cX11_boxy 28 = .ok (.ireturn, 1) := by decide +kernel
theorem dX11_boxy_9 : decode cX11_boxy 9 = .ok (.aload_n 0, 1) := by decide +kernel
theorem dX11_boxy_10 : decode cX11_boxy 10 = .ok (.iload_n 1, 1) := by decide +kernel
theorem dX11_boxy_11 : decode cX11_boxy 11 = .ok (.iload_n 3, 1) := by decide +kernel
theorem dX11_boxy_12 : decode cX11_boxy 12 = .ok (.invokevirtual 175, 3) := by decide +kernel
theorem dX11_boxy_15 : decode cX11_boxy 15 = .ok (.ifCond .eq 12, 3) := by decide +kernel
theorem dX11_boxy_18 : decode cX11_boxy 18 = .ok (.iload_n 2, 1) := by decide +kernel
theorem dX11_boxy_19 : decode cX11_boxy 19 = .ok (.iload_n 3, 1) := by decide +kernel
theorem dX11_boxy_20 : decode cX11_boxy 20 = .ok (.if_icmp .gt 7, 3) := by decide +kernel
theorem dX11_boxy_23 : decode cX11_boxy 23 = .ok (.iconst 1, 1) := by decide +kernel
theorem dX11_boxy_24 : decode cX11_boxy 24 = .ok (.goto 4, 3) := by decide +kernel
theorem dX11_termed_0 : decode cX11_termed 0 = .ok (.aload_n 0, 1) := by decide +kernel
theorem dX11_termed_1 : decode cX11_termed 1 = .ok (.iload_n 1, 1) := by decide +kernel
theorem dX11_termed_2 : decode cX11_termed 2 = .ok (.invokevirtual 168, 3) := by decide +kernel
theorem dX11_termed_5 : decode cX11_termed 5 = .ok (.ifCond .eq 24, 3) := by decide +kernel
theorem dX11_termed_29 : decode cX11_termed 29 = .ok (.iconst 0, 1) := by decide +kernel
theorem dX11_termed_30 : decode cX11_termed 30 = .ok (.ireturn, 1) := by decide +kernel
theorem dX11_termed_8 : decode cX11_termed 8 = .ok (.iload_n 2, 1) := by decide +kernel
theorem dX11_termed_9 : decode cX11_termed 9 = .ok (.ifCond .lt 20, 3) := by decide +kernel
theorem dX11_termed_12 : decode cX11_termed 12 = .ok (.iload_n 2, 1) := by decide +kernel
theorem dX11_termed_13 : decode cX11_termed 13 = .ok (.aload_n 0, 1) := by decide +kernel
theorem dX11_termed_14 : decode cX11_termed 14 = .ok (.getfield 20, 3) := by decide +kernel
theorem dX11_termed_17 : decode cX11_termed 17 = .ok (.getfield 172, 3) := by decide +kernel
theorem wm_265 : (Jvm.Cond.fieldLink "GrownKinds" (172 : Nat) "GrownKinds$Grammar" "termCount" "[I") ∈ gT := gT_in (List.mem_of_getElem? (i := 265) (by decide +kernel)) (by decide +kernel)
theorem dX11_termed_20 : decode cX11_termed 20 = .ok (.iload_n 1, 1) := by decide +kernel
theorem dX11_termed_21 : decode cX11_termed 21 = .ok (.iaload, 1) := by decide +kernel
theorem dX11_termed_22 : decode cX11_termed 22 = .ok (.if_icmp .ge 7, 3) := by decide +kernel
theorem dX11_termed_25 : decode cX11_termed 25 = .ok (.iconst 1, 1) := by decide +kernel
theorem dX11_termed_26 : decode cX11_termed 26 = .ok (.goto 4, 3) := by decide +kernel
theorem dX11_terms_0 : decode cX11_terms 0 = .ok (.aload_n 0, 1) := by decide +kernel
theorem dX11_terms_1 : decode cX11_terms 1 = .ok (.iload_n 1, 1) := by decide +kernel
theorem dX11_terms_2 : decode cX11_terms 2 = .ok (.invokevirtual 168, 3) := by decide +kernel
theorem dX11_terms_5 : decode cX11_terms 5 = .ok (.ifCond .eq 15, 3) := by decide +kernel
theorem dX11_terms_20 : decode cX11_terms 20 = .ok (.bipush (-2), 2) := by decide +kernel
theorem dX11_terms_22 : decode cX11_terms 22 = .ok (.ireturn, 1) := by decide +kernel
theorem dX11_terms_8 : decode cX11_terms 8 = .ok (.aload_n 0, 1) := by decide +kernel
theorem dX11_terms_9 : decode cX11_terms 9 = .ok (.getfield 20, 3) := by decide +kernel
theorem dX11_terms_12 : decode cX11_terms 12 = .ok (.getfield 172, 3) := by decide +kernel
theorem dX11_terms_15 : decode cX11_terms 15 = .ok (.iload_n 1, 1) := by decide +kernel
theorem dX11_terms_16 : decode cX11_terms 16 = .ok (.iaload, 1) := by decide +kernel
theorem dX11_terms_17 : decode cX11_terms 17 = .ok (.goto 5, 3) := by decide +kernel
theorem dX11_off_0 : decode cX11_off 0 = .ok (.aload_n 0, 1) := by decide +kernel
theorem dX11_off_1 : decode cX11_off 1 = .ok (.iload_n 1, 1) := by decide +kernel
theorem dX11_off_2 : decode cX11_off 2 = .ok (.invokevirtual 168, 3) := by decide +kernel
theorem dX11_off_5 : decode cX11_off 5 = .ok (.ifCond .eq 15, 3) := by decide +kernel
theorem dX11_off_20 : decode cX11_off 20 = .ok (.bipush (-2), 2) := by decide +kernel
theorem dX11_off_22 : decode cX11_off 22 = .ok (.ireturn, 1) := by decide +kernel
theorem dX11_off_8 : decode cX11_off 8 = .ok (.aload_n 0, 1) := by decide +kernel
theorem dX11_off_9 : decode cX11_off 9 = .ok (.getfield 20, 3) := by decide +kernel
theorem dX11_off_12 : decode cX11_off 12 = .ok (.getfield 179, 3) := by decide +kernel
theorem wm_271 : (Jvm.Cond.fieldLink "GrownKinds" (179 : Nat) "GrownKinds$Grammar" "off" "[I") ∈ gT := gT_in (List.mem_of_getElem? (i := 271) (by decide +kernel)) (by decide +kernel)
theorem dX11_off_15 : decode cX11_off 15 = .ok (.iload_n 1, 1) := by decide +kernel
theorem dX11_off_16 : decode cX11_off 16 = .ok (.iaload, 1) := by decide +kernel
theorem dX11_off_17 : decode cX11_off 17 = .ok (.goto 5, 3) := by decide +kernel
theorem dX11_end_0 : decode cX11_end 0 = .ok (.iload_n 1, 1) := by decide +kernel
theorem dX11_end_1 : decode cX11_end 1 = .ok (.ifCond .lt 11, 3) := by decide +kernel
theorem dX11_end_12 : decode cX11_end 12 = .ok (.iconst (-1), 1) := by decide +kernel
theorem dX11_end_13 : decode cX11_end 13 = .ok (.ireturn, 1) := by decide +kernel
theorem dX11_end_4 : decode cX11_end 4 = .ok (.iload_n 1, 1) := by decide +kernel
theorem dX11_end_5 : decode cX11_end 5 = .ok (.aload_n 0, 1) := by decide +kernel
theorem dX11_end_6 : decode cX11_end 6 = .ok (.getfield 13, 3) := by decide +kernel
theorem dX11_end_9 : decode cX11_end 9 = .ok (.if_icmp .le 5, 3) := by decide +kernel
theorem dX11_end_14 : decode cX11_end 14 = .ok (.aload_n 0, 1) := by decide +kernel
theorem dX11_end_15 : decode cX11_end 15 = .ok (.iload_n 1, 1) := by decide +kernel
theorem dX11_end_16 : decode cX11_end 16 = .ok (.putfield 13, 3) := by decide +kernel
theorem dX11_end_19 : decode cX11_end 19 = .ok (.iload_n 1, 1) := by decide +kernel
theorem dX11_end_20 : decode cX11_end 20 = .ok (.ireturn, 1) := by decide +kernel
set_option maxHeartbeats 4000000 in
set_option maxRecDepth 100000 in
theorem wX12_in (l : Launch) {D : va_G} {cy : Nat → ClassId} {b n : Nat} (hn : 105 ≤ n) {E : Nat → va_E}   (a1 : Int) (a2 : Int) (a3 : Int) (hb1 : (-9223372036854775808 ≤ a1 ∧ a1 ≤ 9223372036854775807)) (hb2 : (-9223372036854775808 ≤ a2 ∧ a2 ≤ 9223372036854775807)) (hb3 : (-9223372036854775808 ≤ a3 ∧ a3 ≤ 9223372036854775807)) : gI l yX12_in cX12_in 6 (some .boolean) 0 0 0 D cy b n E [.long (jJ a1), .long (jJ a2), .long (jJ a3)] (fun r u => r = iI (if a2 ≤ a1 ∧ a1 ≤ a3 then 1 else 0) ∧ u.1 = n ∧ u.2 = E) := by
  refine gI_of (by decide) (Nat.le_of_ble_eq_true rfl) ?_
  intro p e s m args below meth c S hr hlk hin hsz ls hl hG
  have hx := S.1
  have hb := S.2.1
  have hl : lv_has ls 6 [(0, .long (jJ a1)), (2, .long (jJ a2)), (4, .long (jJ a3))] := hl
  refine lv_lload_n hx hb dX12_in_0 rfl (lv_at hl 0 rfl) ?_
  refine lv_lload_n hx hb dX12_in_1 rfl (lv_at hl 1 rfl) ?_
  refine gj_cmp_lt (tgt := 17) hx hb dX12_in_2 dX12_in_3 (by decide) (by omega) (by omega) (fun c_1 => ?_) (fun c_1 => ?_)
  · refine lv_iconst (v := iI 0) hx hb dX12_in_17 (by decide) ?_
    exact g_zret S hr hlk hG (by omega) dX12_in_18 ⟨Nat.le_of_ble_eq_true rfl, Nat.le_of_ble_eq_true rfl⟩ (nar_z (by omega)) ⟨congrArg iI (by first | rfl | omega | ((repeat' split) <;> omega)), rfl, rfl⟩
  · refine lv_lload_n hx hb dX12_in_6 rfl (lv_at hl 0 rfl) ?_
    refine lv_lload hx hb dX12_in_7 (lv_at hl 2 rfl) ?_
    refine gj_cmp_gt (tgt := 17) hx hb dX12_in_9 dX12_in_10 (by decide) (by omega) (by omega) (fun c_2 => ?_) (fun c_2 => ?_)
    · refine lv_iconst (v := iI 0) hx hb dX12_in_17 (by decide) ?_
      exact g_zret S hr hlk hG (by omega) dX12_in_18 ⟨Nat.le_of_ble_eq_true rfl, Nat.le_of_ble_eq_true rfl⟩ (nar_z (by omega)) ⟨congrArg iI (by first | rfl | omega | ((repeat' split) <;> omega)), rfl, rfl⟩
    · refine lv_iconst (v := iI 1) hx hb dX12_in_13 (by decide) ?_
      refine lv_goto (tgt := 18) hx hb dX12_in_14 (by decide) ?_
      exact g_zret S hr hlk hG (by omega) dX12_in_18 ⟨Nat.le_of_ble_eq_true rfl, Nat.le_of_ble_eq_true rfl⟩ (nar_z (by omega)) ⟨congrArg iI (by first | rfl | omega | ((repeat' split) <;> omega)), rfl, rfl⟩
set_option maxHeartbeats 4000000 in
set_option maxRecDepth 100000 in
theorem wX11_known (l : Launch) {D : va_G} {cy : Nat → ClassId} {b n : Nat} (hn : 105 ≤ n) {E : Nat → va_E}  {tapeSize0 faultNumber0 faultPlace0 actCount0 stamp0 toldSize0 toldRank0 most2 kinds2 lines2 parts2 steps2 : Int} (h0 : E 0 = O0 b tapeSize0 faultNumber0 faultPlace0 actCount0 stamp0 toldSize0 toldRank0) (h2 : E 2 = O2 b most2 kinds2 lines2 parts2 steps2) (a1 : Int) (hki : 0 ≤ kinds2 ∧ kinds2 ≤ 6) (hb1 : (-2147483648 ≤ a1 ∧ a1 ≤ 2147483647)) : gI l yX11_known cX11_known 2 (some .boolean) 0 0 0 D cy b n E [.ref (b + 0), .int (iI a1)] (fun r u => r = iI (if 0 ≤ a1 ∧ a1 < kinds2 then 1 else 0) ∧ u.1 = n ∧ u.2 = E) := by
  refine gI_of (by decide) (Nat.le_of_ble_eq_true rfl) ?_
  intro p e s m args below meth c S hr hlk hin hsz ls hl hG
  have hx := S.1
  have hb := S.2.1
  have hl : lv_has ls 2 [(0, .ref (b + 0)), (1, .int (iI a1))] := hl
  refine lv_iload_n hx hb dX11_known_0 rfl (lv_at hl 1 rfl) ?_
  refine gi_if_lt (tgt := 19) hx hb dX11_known_1 (by decide) (by omega) (fun c_1 => ?_) (fun c_1 => ?_)
  · refine lv_iconst (v := iI 0) hx hb dX11_known_19 (by decide) ?_
    exact g_zret S hr hlk hG (by omega) dX11_known_20 ⟨Nat.le_of_ble_eq_true rfl, Nat.le_of_ble_eq_true rfl⟩ (nar_z (by omega)) ⟨congrArg iI (by first | rfl | omega | ((repeat' split) <;> omega)), rfl, rfl⟩
  · refine lv_iload_n hx hb dX11_known_4 rfl (lv_at hl 1 rfl) ?_
    refine lv_aload_n hx hb dX11_known_5 rfl (lv_at hl 0 rfl) ?_
    refine g_get S hG 0 2 (show gEof hG 0 = O0 b tapeSize0 faultNumber0 faultPlace0 actCount0 stamp0 toldSize0 toldRank0 from h0) cpX11 wm_668 dX11_known_6 rfl (by omega) (by decide) ?_
    refine g_get S hG 2 1 (show gEof hG 2 = O2 b most2 kinds2 lines2 parts2 steps2 from h2) cpX2 wm_221 dX11_known_9 rfl (by omega) (by decide) ?_
    refine gi_icmp_ge (tgt := 19) hx hb dX11_known_12 (by decide) (by omega) (by omega) (fun c_2 => ?_) (fun c_2 => ?_)
    · refine lv_iconst (v := iI 0) hx hb dX11_known_19 (by decide) ?_
      exact g_zret S hr hlk hG (by omega) dX11_known_20 ⟨Nat.le_of_ble_eq_true rfl, Nat.le_of_ble_eq_true rfl⟩ (nar_z (by omega)) ⟨congrArg iI (by first | rfl | omega | ((repeat' split) <;> omega)), rfl, rfl⟩
    · refine lv_iconst (v := iI 1) hx hb dX11_known_15 (by decide) ?_
      refine lv_goto (tgt := 20) hx hb dX11_known_16 (by decide) ?_
      exact g_zret S hr hlk hG (by omega) dX11_known_20 ⟨Nat.le_of_ble_eq_true rfl, Nat.le_of_ble_eq_true rfl⟩ (nar_z (by omega)) ⟨congrArg iI (by first | rfl | omega | ((repeat' split) <;> omega)), rfl, rfl⟩
set_option maxHeartbeats 4000000 in
set_option maxRecDepth 100000 in
theorem wX11_lettered (l : Launch) {D : va_G} {cy : Nat → ClassId} {b n : Nat} (hn : 105 ≤ n) {E : Nat → va_E}   (a1 : Int) (hb1 : (-2147483648 ≤ a1 ∧ a1 ≤ 2147483647)) : gI l yX11_lettered cX11_lettered 1 (some .boolean) 0 0 0 D cy b n E [.int (iI a1)] (fun r u => r = iI (if 0 ≤ a1 ∧ a1 < 26 then 1 else 0) ∧ u.1 = n ∧ u.2 = E) := by
  refine gI_of (by decide) (Nat.le_of_ble_eq_true rfl) ?_
  intro p e s m args below meth c S hr hlk hin hsz ls hl hG
  have hx := S.1
  have hb := S.2.1
  have hl : lv_has ls 1 [(0, .int (iI a1))] := hl
  refine lv_iload_n hx hb dX11_lettered_0 rfl (lv_at hl 0 rfl) ?_
  refine gi_if_lt (tgt := 14) hx hb dX11_lettered_1 (by decide) (by omega) (fun c_1 => ?_) (fun c_1 => ?_)
  · refine lv_iconst (v := iI 0) hx hb dX11_lettered_14 (by decide) ?_
    exact g_zret S hr hlk hG (by omega) dX11_lettered_15 ⟨Nat.le_of_ble_eq_true rfl, Nat.le_of_ble_eq_true rfl⟩ (nar_z (by omega)) ⟨congrArg iI (by first | rfl | omega | ((repeat' split) <;> omega)), rfl, rfl⟩
  · refine lv_iload_n hx hb dX11_lettered_4 rfl (lv_at hl 0 rfl) ?_
    refine lv_bipush (v := iI 26) hx hb dX11_lettered_5 (by decide) ?_
    refine gi_icmp_ge (tgt := 14) hx hb dX11_lettered_7 (by decide) (by omega) (by omega) (fun c_2 => ?_) (fun c_2 => ?_)
    · refine lv_iconst (v := iI 0) hx hb dX11_lettered_14 (by decide) ?_
      exact g_zret S hr hlk hG (by omega) dX11_lettered_15 ⟨Nat.le_of_ble_eq_true rfl, Nat.le_of_ble_eq_true rfl⟩ (nar_z (by omega)) ⟨congrArg iI (by first | rfl | omega | ((repeat' split) <;> omega)), rfl, rfl⟩
    · refine lv_iconst (v := iI 1) hx hb dX11_lettered_10 (by decide) ?_
      refine lv_goto (tgt := 15) hx hb dX11_lettered_11 (by decide) ?_
      exact g_zret S hr hlk hG (by omega) dX11_lettered_15 ⟨Nat.le_of_ble_eq_true rfl, Nat.le_of_ble_eq_true rfl⟩ (nar_z (by omega)) ⟨congrArg iI (by first | rfl | omega | ((repeat' split) <;> omega)), rfl, rfl⟩
theorem wV_11_168 : gWV "GrownKinds" 168 yX11_known cX11_known 2 (some .boolean) := ⟨wm_1109, wm_1111, wm_48, wm_176, wm_1112, by decide +kernel, by decide +kernel⟩
set_option maxHeartbeats 4000000 in
set_option maxRecDepth 100000 in
theorem wX11_sized (l : Launch) {D : va_G} {cy : Nat → ClassId} {b n : Nat} (hn : 105 ≤ n) {E : Nat → va_E}  {tapeSize0 faultNumber0 faultPlace0 actCount0 stamp0 toldSize0 toldRank0 most2 kinds2 lines2 parts2 steps2 : Int} (h0 : E 0 = O0 b tapeSize0 faultNumber0 faultPlace0 actCount0 stamp0 toldSize0 toldRank0) (h2 : E 2 = O2 b most2 kinds2 lines2 parts2 steps2) (a1 : Int) (a2 : Int) (hki : 0 ≤ kinds2 ∧ kinds2 ≤ 6) (hmo : 0 ≤ most2 ∧ most2 ≤ 7) (hb1 : (-2147483648 ≤ a1 ∧ a1 ≤ 2147483647)) (hb2 : (-2147483648 ≤ a2 ∧ a2 ≤ 2147483647)) : gI l yX11_sized cX11_sized 3 (some .boolean) 1 0 0 D cy b n E [.ref (b + 0), .int (iI a1), .int (iI a2)] (fun r u => r = iI (if 0 ≤ a1 ∧ a1 < kinds2 ∧ 0 ≤ a2 ∧ a2 ≤ most2 then 1 else 0) ∧ u.1 = n ∧ u.2 = E) := by
  refine gI_of (by decide) (Nat.le_of_ble_eq_true rfl) ?_
  intro p e s m args below meth c S hr hlk hin hsz ls hl hG
  have hx := S.1
  have hb := S.2.1
  have hl : lv_has ls 3 [(0, .ref (b + 0)), (1, .int (iI a1)), (2, .int (iI a2))] := hl
  refine lv_aload_n hx hb dX11_sized_0 rfl (lv_at hl 0 rfl) ?_
  refine lv_iload_n hx hb dX11_sized_1 rfl (lv_at hl 1 rfl) ?_
  refine g_vi (As := [.int (iI a1)]) (rest := []) S hG (by omega) (wX11_known l hn (show gEof hG 0 = O0 b tapeSize0 faultNumber0 faultPlace0 actCount0 stamp0 toldSize0 toldRank0 from h0) (show gEof hG 2 = O2 b most2 kinds2 lines2 parts2 steps2 from h2) a1 (by omega) (by omega)) wV_11_168 (show gEof hG 0 = O0 b tapeSize0 faultNumber0 faultPlace0 actCount0 stamp0 toldSize0 toldRank0 from h0) cpX11 (by omega) dX11_sized_2 rfl hl.1 (ar := 1) (by decide +kernel) rfl ⟨Nat.le_of_ble_eq_true rfl, Nat.le_of_ble_eq_true rfl, Nat.le_of_ble_eq_true rfl, Nat.le_of_ble_eq_true rfl⟩ (Nat.le_of_ble_eq_true rfl) (fun r_1 u_2 H locs hp_3 hG => ?_)
  obtain ⟨nu_2, Eu_2⟩ := u_2
  dsimp only at hp_3 hG
  obtain ⟨rfl, en_4, ee_5⟩ := hp_3
  have hG := gW_eq2 hG en_4 ee_5
  refine gi_nm (fun x_6 ex_6 => ?_)
  refine gi_if_eq (tgt := 27) hx hb dX11_sized_5 (by decide) (by omega) (fun c_7 => ?_) (fun c_7 => ?_)
  · refine lv_iconst (v := iI 0) hx hb dX11_sized_27 (by decide) ?_
    exact g_zret S hr hlk hG (by omega) dX11_sized_28 ⟨Nat.le_of_ble_eq_true rfl, Nat.le_of_ble_eq_true rfl⟩ (nar_z (by omega)) ⟨congrArg iI (by first | rfl | omega | ((repeat' split) <;> omega)), rfl, rfl⟩
  · refine lv_iload_n hx hb dX11_sized_8 rfl (lv_at hl 2 rfl) ?_
    refine gi_if_lt (tgt := 27) hx hb dX11_sized_9 (by decide) (by omega) (fun c_8 => ?_) (fun c_8 => ?_)
    · refine lv_iconst (v := iI 0) hx hb dX11_sized_27 (by decide) ?_
      exact g_zret S hr hlk hG (by omega) dX11_sized_28 ⟨Nat.le_of_ble_eq_true rfl, Nat.le_of_ble_eq_true rfl⟩ (nar_z (by omega)) ⟨congrArg iI (by first | rfl | omega | ((repeat' split) <;> omega)), rfl, rfl⟩
    · refine lv_iload_n hx hb dX11_sized_12 rfl (lv_at hl 2 rfl) ?_
      refine lv_aload_n hx hb dX11_sized_13 rfl (lv_at hl 0 rfl) ?_
      refine g_get S hG 0 2 (show gEof hG 0 = O0 b tapeSize0 faultNumber0 faultPlace0 actCount0 stamp0 toldSize0 toldRank0 from h0) cpX11 wm_668 dX11_sized_14 rfl (by omega) (by decide) ?_
      refine g_get S hG 2 0 (show gEof hG 2 = O2 b most2 kinds2 lines2 parts2 steps2 from h2) cpX2 wm_214 dX11_sized_17 rfl (by omega) (by decide) ?_
      refine gi_icmp_gt (tgt := 27) hx hb dX11_sized_20 (by decide) (by omega) (by omega) (fun c_9 => ?_) (fun c_9 => ?_)
      · refine lv_iconst (v := iI 0) hx hb dX11_sized_27 (by decide) ?_
        exact g_zret S hr hlk hG (by omega) dX11_sized_28 ⟨Nat.le_of_ble_eq_true rfl, Nat.le_of_ble_eq_true rfl⟩ (nar_z (by omega)) ⟨congrArg iI (by first | rfl | omega | ((repeat' split) <;> omega)), rfl, rfl⟩
      · refine lv_iconst (v := iI 1) hx hb dX11_sized_23 (by decide) ?_
        refine lv_goto (tgt := 28) hx hb dX11_sized_24 (by decide) ?_
        exact g_zret S hr hlk hG (by omega) dX11_sized_28 ⟨Nat.le_of_ble_eq_true rfl, Nat.le_of_ble_eq_true rfl⟩ (nar_z (by omega)) ⟨congrArg iI (by first | rfl | omega | ((repeat' split) <;> omega)), rfl, rfl⟩
theorem wV_11_175 : gWV "GrownKinds" 175 yX11_sized cX11_sized 3 (some .boolean) := ⟨wm_1162, wm_1164, wm_49, wm_176, wm_1165, by decide +kernel, by decide +kernel⟩
set_option maxHeartbeats 4000000 in
set_option maxRecDepth 100000 in
theorem wX11_boxy (l : Launch) {D : va_G} {cy : Nat → ClassId} {b n : Nat} (hn : 105 ≤ n) {E : Nat → va_E}  {tapeSize0 faultNumber0 faultPlace0 actCount0 stamp0 toldSize0 toldRank0 most2 kinds2 lines2 parts2 steps2 : Int} (h0 : E 0 = O0 b tapeSize0 faultNumber0 faultPlace0 actCount0 stamp0 toldSize0 toldRank0) (h2 : E 2 = O2 b most2 kinds2 lines2 parts2 steps2) (a1 : Int) (a2 : Int) (a3 : Int) (hki : 0 ≤ kinds2 ∧ kinds2 ≤ 6) (hmo : 0 ≤ most2 ∧ most2 ≤ 7) (hb1 : (-2147483648 ≤ a1 ∧ a1 ≤ 2147483647)) (hb2 : (-2147483648 ≤ a2 ∧ a2 ≤ 2147483647)) (hb3 : (-2147483648 ≤ a3 ∧ a3 ≤ 2147483647)) : gI l yX11_boxy cX11_boxy 4 (some .boolean) 2 0 0 D cy b n E [.ref (b + 0), .int (iI a1), .int (iI a2), .int (iI a3)] (fun r u => r = iI (if 0 ≤ a1 ∧ a1 < kinds2 ∧ 0 ≤ a2 ∧ a2 ≤ most2 ∧ 0 ≤ a3 ∧ a3 ≤ most2 ∧ a2 ≤ a3 then 1 else 0) ∧ u.1 = n ∧ u.2 = E) := by
  refine gI_of (by decide) (Nat.le_of_ble_eq_true rfl) ?_
  intro p e s m args below meth c S hr hlk hin hsz ls hl hG
  have hx := S.1
  have hb := S.2.1
  have hl : lv_has ls 4 [(0, .ref (b + 0)), (1, .int (iI a1)), (2, .int (iI a2)), (3, .int (iI a3))] := hl
  refine lv_aload_n hx hb dX11_boxy_0 rfl (lv_at hl 0 rfl) ?_
  refine lv_iload_n hx hb dX11_boxy_1 rfl (lv_at hl 1 rfl) ?_
  refine lv_iload_n hx hb dX11_boxy_2 rfl (lv_at hl 2 rfl) ?_
  refine g_vi (As := [.int (iI a1), .int (iI a2)]) (rest := []) S hG (by omega) (wX11_sized l hn (show gEof hG 0 = O0 b tapeSize0 faultNumber0 faultPlace0 actCount0 stamp0 toldSize0 toldRank0 from h0) (show gEof hG 2 = O2 b most2 kinds2 lines2 parts2 steps2 from h2) a1 a2 (by omega) (by omega) (by omega) (by omega)) wV_11_175 (show gEof hG 0 = O0 b tapeSize0 faultNumber0 faultPlace0 actCount0 stamp0 toldSize0 toldRank0 from h0) cpX11 (by omega) dX11_boxy_3 rfl hl.1 (ar := 2) (by decide +kernel) rfl ⟨Nat.le_of_ble_eq_true rfl, Nat.le_of_ble_eq_true rfl, Nat.le_of_ble_eq_true rfl, Nat.le_of_ble_eq_true rfl⟩ (Nat.le_of_ble_eq_true rfl) (fun r_1 u_2 H locs hp_3 hG => ?_)
  obtain ⟨nu_2, Eu_2⟩ := u_2
  dsimp only at hp_3 hG
  obtain ⟨rfl, en_4, ee_5⟩ := hp_3
  have hG := gW_eq2 hG en_4 ee_5
  refine gi_nm (fun x_6 ex_6 => ?_)
  refine gi_if_eq (tgt := 27) hx hb dX11_boxy_6 (by decide) (by omega) (fun c_7 => ?_) (fun c_7 => ?_)
  · refine lv_iconst (v := iI 0) hx hb dX11_boxy_27 (by decide) ?_
    exact g_zret S hr hlk hG (by omega) dX11_boxy_28 ⟨Nat.le_of_ble_eq_true rfl, Nat.le_of_ble_eq_true rfl⟩ (nar_z (by omega)) ⟨congrArg iI (by first | rfl | omega | ((repeat' split) <;> omega)), rfl, rfl⟩
  · refine lv_aload_n hx hb dX11_boxy_9 rfl (lv_at hl 0 rfl) ?_
    refine lv_iload_n hx hb dX11_boxy_10 rfl (lv_at hl 1 rfl) ?_
    refine lv_iload_n hx hb dX11_boxy_11 rfl (lv_at hl 3 rfl) ?_
    refine g_vi (As := [.int (iI a1), .int (iI a3)]) (rest := []) S hG (by omega) (wX11_sized l hn (show gEof hG 0 = O0 b tapeSize0 faultNumber0 faultPlace0 actCount0 stamp0 toldSize0 toldRank0 from h0) (show gEof hG 2 = O2 b most2 kinds2 lines2 parts2 steps2 from h2) a1 a3 (by omega) (by omega) (by omega) (by omega)) wV_11_175 (show gEof hG 0 = O0 b tapeSize0 faultNumber0 faultPlace0 actCount0 stamp0 toldSize0 toldRank0 from h0) cpX11 (by omega) dX11_boxy_12 rfl hl.1 (ar := 2) (by decide +kernel) rfl ⟨Nat.le_of_ble_eq_true rfl, Nat.le_of_ble_eq_true rfl, Nat.le_of_ble_eq_true rfl, Nat.le_of_ble_eq_true rfl⟩ (Nat.le_of_ble_eq_true rfl) (fun r_8 u_9 H locs hp_10 hG => ?_)
    obtain ⟨nu_9, Eu_9⟩ := u_9
    dsimp only at hp_10 hG
    obtain ⟨rfl, en_11, ee_12⟩ := hp_10
    have hG := gW_eq2 hG en_11 ee_12
    refine gi_nm (fun x_13 ex_13 => ?_)
    refine gi_if_eq (tgt := 27) hx hb dX11_boxy_15 (by decide) (by omega) (fun c_14 => ?_) (fun c_14 => ?_)
    · refine lv_iconst (v := iI 0) hx hb dX11_boxy_27 (by decide) ?_
      exact g_zret S hr hlk hG (by omega) dX11_boxy_28 ⟨Nat.le_of_ble_eq_true rfl, Nat.le_of_ble_eq_true rfl⟩ (nar_z (by omega)) ⟨congrArg iI (by first | rfl | omega | ((repeat' split) <;> omega)), rfl, rfl⟩
    · refine lv_iload_n hx hb dX11_boxy_18 rfl (lv_at hl 2 rfl) ?_
      refine lv_iload_n hx hb dX11_boxy_19 rfl (lv_at hl 3 rfl) ?_
      refine gi_icmp_gt (tgt := 27) hx hb dX11_boxy_20 (by decide) (by omega) (by omega) (fun c_15 => ?_) (fun c_15 => ?_)
      · refine lv_iconst (v := iI 0) hx hb dX11_boxy_27 (by decide) ?_
        exact g_zret S hr hlk hG (by omega) dX11_boxy_28 ⟨Nat.le_of_ble_eq_true rfl, Nat.le_of_ble_eq_true rfl⟩ (nar_z (by omega)) ⟨congrArg iI (by first | rfl | omega | ((repeat' split) <;> omega)), rfl, rfl⟩
      · refine lv_iconst (v := iI 1) hx hb dX11_boxy_23 (by decide) ?_
        refine lv_goto (tgt := 28) hx hb dX11_boxy_24 (by decide) ?_
        exact g_zret S hr hlk hG (by omega) dX11_boxy_28 ⟨Nat.le_of_ble_eq_true rfl, Nat.le_of_ble_eq_true rfl⟩ (nar_z (by omega)) ⟨congrArg iI (by first | rfl | omega | ((repeat' split) <;> omega)), rfl, rfl⟩
set_option maxHeartbeats 4000000 in
set_option maxRecDepth 100000 in
theorem wX11_termed (l : Launch) {D : va_G} {cy : Nat → ClassId} {b n : Nat} (hn : 105 ≤ n) {E : Nat → va_E}  {tapeSize0 faultNumber0 faultPlace0 actCount0 stamp0 toldSize0 toldRank0 most2 kinds2 lines2 parts2 steps2 : Int} {tc : Nat → Int} (h0 : E 0 = O0 b tapeSize0 faultNumber0 faultPlace0 actCount0 stamp0 toldSize0 toldRank0) (h2 : E 2 = O2 b most2 kinds2 lines2 parts2 steps2) (h8 : E 8 = cI cy 30 tc) (a1 : Int) (a2 : Int) (hki : 0 ≤ kinds2 ∧ kinds2 ≤ 6) (hmo : 0 ≤ most2 ∧ most2 ≤ 7) (htc : ∀ j, 0 ≤ tc j ∧ tc j ≤ 10) (hb1 : (-2147483648 ≤ a1 ∧ a1 ≤ 2147483647)) (hb2 : (-2147483648 ≤ a2 ∧ a2 ≤ 2147483647)) : gI l yX11_termed cX11_termed 3 (some .boolean) 1 0 0 D cy b n E [.ref (b + 0), .int (iI a1), .int (iI a2)] (fun r u => r = iI (if 0 ≤ a1 ∧ a1 < kinds2 ∧ 0 ≤ a2 ∧ a2 < tc a1.toNat then 1 else 0) ∧ u.1 = n ∧ u.2 = E) := by
  refine gI_of (by decide) (Nat.le_of_ble_eq_true rfl) ?_
  intro p e s m args below meth c S hr hlk hin hsz ls hl hG
  have hx := S.1
  have hb := S.2.1
  have hl : lv_has ls 3 [(0, .ref (b + 0)), (1, .int (iI a1)), (2, .int (iI a2))] := hl
  refine lv_aload_n hx hb dX11_termed_0 rfl (lv_at hl 0 rfl) ?_
  refine lv_iload_n hx hb dX11_termed_1 rfl (lv_at hl 1 rfl) ?_
  refine g_vi (As := [.int (iI a1)]) (rest := []) S hG (by omega) (wX11_known l hn (show gEof hG 0 = O0 b tapeSize0 faultNumber0 faultPlace0 actCount0 stamp0 toldSize0 toldRank0 from h0) (show gEof hG 2 = O2 b most2 kinds2 lines2 parts2 steps2 from h2) a1 (by omega) (by omega)) wV_11_168 (show gEof hG 0 = O0 b tapeSize0 faultNumber0 faultPlace0 actCount0 stamp0 toldSize0 toldRank0 from h0) cpX11 (by omega) dX11_termed_2 rfl hl.1 (ar := 1) (by decide +kernel) rfl ⟨Nat.le_of_ble_eq_true rfl, Nat.le_of_ble_eq_true rfl, Nat.le_of_ble_eq_true rfl, Nat.le_of_ble_eq_true rfl⟩ (Nat.le_of_ble_eq_true rfl) (fun r_1 u_2 H locs hp_3 hG => ?_)
  obtain ⟨nu_2, Eu_2⟩ := u_2
  dsimp only at hp_3 hG
  obtain ⟨rfl, en_4, ee_5⟩ := hp_3
  have hG := gW_eq2 hG en_4 ee_5
  refine gi_nm (fun x_6 ex_6 => ?_)
  refine gi_if_eq (tgt := 29) hx hb dX11_termed_5 (by decide) (by omega) (fun c_7 => ?_) (fun c_7 => ?_)
  · refine lv_iconst (v := iI 0) hx hb dX11_termed_29 (by decide) ?_
    exact g_zret S hr hlk hG (by omega) dX11_termed_30 ⟨Nat.le_of_ble_eq_true rfl, Nat.le_of_ble_eq_true rfl⟩ (nar_z (by omega)) ⟨congrArg iI (by first | rfl | omega | ((repeat' split) <;> omega)), rfl, rfl⟩
  · refine lv_iload_n hx hb dX11_termed_8 rfl (lv_at hl 2 rfl) ?_
    refine gi_if_lt (tgt := 29) hx hb dX11_termed_9 (by decide) (by omega) (fun c_8 => ?_) (fun c_8 => ?_)
    · refine lv_iconst (v := iI 0) hx hb dX11_termed_29 (by decide) ?_
      exact g_zret S hr hlk hG (by omega) dX11_termed_30 ⟨Nat.le_of_ble_eq_true rfl, Nat.le_of_ble_eq_true rfl⟩ (nar_z (by omega)) ⟨congrArg iI (by first | rfl | omega | ((repeat' split) <;> omega)), rfl, rfl⟩
    · refine lv_iload_n hx hb dX11_termed_12 rfl (lv_at hl 2 rfl) ?_
      refine lv_aload_n hx hb dX11_termed_13 rfl (lv_at hl 0 rfl) ?_
      refine g_get S hG 0 2 (show gEof hG 0 = O0 b tapeSize0 faultNumber0 faultPlace0 actCount0 stamp0 toldSize0 toldRank0 from h0) cpX11 wm_668 dX11_termed_14 rfl (by omega) (by decide) ?_
      refine g_get S hG 2 10 (show gEof hG 2 = O2 b most2 kinds2 lines2 parts2 steps2 from h2) cpX2 wm_265 dX11_termed_17 rfl (by omega) (by decide) ?_
      refine lv_iload_n hx hb dX11_termed_20 rfl (lv_at hl 1 rfl) ?_
      refine gi_ald S hG 8 (show gEof hG 8 = cI cy 30 tc from h8) (by omega) dX11_termed_21 (by omega) (by decide) ?_
      refine gi_nm (fun x_9 ex_9 => ?_)
      have bx_9 := htc (a1.toNat)
      refine gi_icmp_ge (tgt := 29) hx hb dX11_termed_22 (by decide) (by omega) (by omega) (fun c_10 => ?_) (fun c_10 => ?_)
      · refine lv_iconst (v := iI 0) hx hb dX11_termed_29 (by decide) ?_
        exact g_zret S hr hlk hG (by omega) dX11_termed_30 ⟨Nat.le_of_ble_eq_true rfl, Nat.le_of_ble_eq_true rfl⟩ (nar_z (by omega)) ⟨congrArg iI (by first | rfl | omega | ((repeat' split) <;> omega)), rfl, rfl⟩
      · refine lv_iconst (v := iI 1) hx hb dX11_termed_25 (by decide) ?_
        refine lv_goto (tgt := 30) hx hb dX11_termed_26 (by decide) ?_
        exact g_zret S hr hlk hG (by omega) dX11_termed_30 ⟨Nat.le_of_ble_eq_true rfl, Nat.le_of_ble_eq_true rfl⟩ (nar_z (by omega)) ⟨congrArg iI (by first | rfl | omega | ((repeat' split) <;> omega)), rfl, rfl⟩
set_option maxHeartbeats 4000000 in
set_option maxRecDepth 100000 in
theorem wX11_terms (l : Launch) {D : va_G} {cy : Nat → ClassId} {b n : Nat} (hn : 105 ≤ n) {E : Nat → va_E}  {tapeSize0 faultNumber0 faultPlace0 actCount0 stamp0 toldSize0 toldRank0 most2 kinds2 lines2 parts2 steps2 : Int} {tc : Nat → Int} (h0 : E 0 = O0 b tapeSize0 faultNumber0 faultPlace0 actCount0 stamp0 toldSize0 toldRank0) (h2 : E 2 = O2 b most2 kinds2 lines2 parts2 steps2) (h8 : E 8 = cI cy 30 tc) (a1 : Int) (hki : 0 ≤ kinds2 ∧ kinds2 ≤ 6) (hmo : 0 ≤ most2 ∧ most2 ≤ 7) (htc : ∀ j, 0 ≤ tc j ∧ tc j ≤ 10) (hb1 : (-2147483648 ≤ a1 ∧ a1 ≤ 2147483647)) : gI l yX11_terms cX11_terms 2 (some .int) 1 0 0 D cy b n E [.ref (b + 0), .int (iI a1)] (fun r u => r = iI (if 0 ≤ a1 ∧ a1 < kinds2 then tc a1.toNat else -2) ∧ u.1 = n ∧ u.2 = E) := by
  refine gI_of (by decide) (Nat.le_of_ble_eq_true rfl) ?_
  intro p e s m args below meth c S hr hlk hin hsz ls hl hG
  have hx := S.1
  have hb := S.2.1
  have hl : lv_has ls 2 [(0, .ref (b + 0)), (1, .int (iI a1))] := hl
  refine lv_aload_n hx hb dX11_terms_0 rfl (lv_at hl 0 rfl) ?_
  refine lv_iload_n hx hb dX11_terms_1 rfl (lv_at hl 1 rfl) ?_
  refine g_vi (As := [.int (iI a1)]) (rest := []) S hG (by omega) (wX11_known l hn (show gEof hG 0 = O0 b tapeSize0 faultNumber0 faultPlace0 actCount0 stamp0 toldSize0 toldRank0 from h0) (show gEof hG 2 = O2 b most2 kinds2 lines2 parts2 steps2 from h2) a1 (by omega) (by omega)) wV_11_168 (show gEof hG 0 = O0 b tapeSize0 faultNumber0 faultPlace0 actCount0 stamp0 toldSize0 toldRank0 from h0) cpX11 (by omega) dX11_terms_2 rfl hl.1 (ar := 1) (by decide +kernel) rfl ⟨Nat.le_of_ble_eq_true rfl, Nat.le_of_ble_eq_true rfl, Nat.le_of_ble_eq_true rfl, Nat.le_of_ble_eq_true rfl⟩ (Nat.le_of_ble_eq_true rfl) (fun r_1 u_2 H locs hp_3 hG => ?_)
  obtain ⟨nu_2, Eu_2⟩ := u_2
  dsimp only at hp_3 hG
  obtain ⟨rfl, en_4, ee_5⟩ := hp_3
  have hG := gW_eq2 hG en_4 ee_5
  refine gi_nm (fun x_6 ex_6 => ?_)
  refine gi_if_eq (tgt := 20) hx hb dX11_terms_5 (by decide) (by omega) (fun c_7 => ?_) (fun c_7 => ?_)
  · refine lv_bipush (v := iI (-2)) hx hb dX11_terms_20 (by decide) ?_
    exact g_iret S hr hlk hG (by omega) dX11_terms_22 ⟨Nat.le_of_ble_eq_true rfl, Nat.le_of_ble_eq_true rfl⟩ ⟨congrArg iI (by first | rfl | omega | ((repeat' split) <;> omega)), rfl, rfl⟩
  · refine lv_aload_n hx hb dX11_terms_8 rfl (lv_at hl 0 rfl) ?_
    refine g_get S hG 0 2 (show gEof hG 0 = O0 b tapeSize0 faultNumber0 faultPlace0 actCount0 stamp0 toldSize0 toldRank0 from h0) cpX11 wm_668 dX11_terms_9 rfl (by omega) (by decide) ?_
    refine g_get S hG 2 10 (show gEof hG 2 = O2 b most2 kinds2 lines2 parts2 steps2 from h2) cpX2 wm_265 dX11_terms_12 rfl (by omega) (by decide) ?_
    refine lv_iload_n hx hb dX11_terms_15 rfl (lv_at hl 1 rfl) ?_
    refine gi_ald S hG 8 (show gEof hG 8 = cI cy 30 tc from h8) (by omega) dX11_terms_16 (by omega) (by decide) ?_
    refine gi_nm (fun x_8 ex_8 => ?_)
    have bx_8 := htc (a1.toNat)
    refine lv_goto (tgt := 22) hx hb dX11_terms_17 (by decide) ?_
    exact g_iret S hr hlk hG (by omega) dX11_terms_22 ⟨Nat.le_of_ble_eq_true rfl, Nat.le_of_ble_eq_true rfl⟩ ⟨congrArg iI (by first | rfl | omega | ((repeat' split) <;> omega)), rfl, rfl⟩
set_option maxHeartbeats 4000000 in
set_option maxRecDepth 100000 in
theorem wX11_off (l : Launch) {D : va_G} {cy : Nat → ClassId} {b n : Nat} (hn : 105 ≤ n) {E : Nat → va_E}  {tapeSize0 faultNumber0 faultPlace0 actCount0 stamp0 toldSize0 toldRank0 most2 kinds2 lines2 parts2 steps2 : Int} {of : Nat → Int} (h0 : E 0 = O0 b tapeSize0 faultNumber0 faultPlace0 actCount0 stamp0 toldSize0 toldRank0) (h2 : E 2 = O2 b most2 kinds2 lines2 parts2 steps2) (h10 : E 10 = cI cy 30 of) (a1 : Int) (hki : 0 ≤ kinds2 ∧ kinds2 ≤ 6) (hmo : 0 ≤ most2 ∧ most2 ≤ 7) (hof : ∀ j, 0 ≤ of j ∧ of j < 1024) (hb1 : (-2147483648 ≤ a1 ∧ a1 ≤ 2147483647)) : gI l yX11_off cX11_off 2 (some .int) 1 0 0 D cy b n E [.ref (b + 0), .int (iI a1)] (fun r u => r = iI (if 0 ≤ a1 ∧ a1 < kinds2 then of a1.toNat else -2) ∧ u.1 = n ∧ u.2 = E) := by
  refine gI_of (by decide) (Nat.le_of_ble_eq_true rfl) ?_
  intro p e s m args below meth c S hr hlk hin hsz ls hl hG
  have hx := S.1
  have hb := S.2.1
  have hl : lv_has ls 2 [(0, .ref (b + 0)), (1, .int (iI a1))] := hl
  refine lv_aload_n hx hb dX11_off_0 rfl (lv_at hl 0 rfl) ?_
  refine lv_iload_n hx hb dX11_off_1 rfl (lv_at hl 1 rfl) ?_
  refine g_vi (As := [.int (iI a1)]) (rest := []) S hG (by omega) (wX11_known l hn (show gEof hG 0 = O0 b tapeSize0 faultNumber0 faultPlace0 actCount0 stamp0 toldSize0 toldRank0 from h0) (show gEof hG 2 = O2 b most2 kinds2 lines2 parts2 steps2 from h2) a1 (by omega) (by omega)) wV_11_168 (show gEof hG 0 = O0 b tapeSize0 faultNumber0 faultPlace0 actCount0 stamp0 toldSize0 toldRank0 from h0) cpX11 (by omega) dX11_off_2 rfl hl.1 (ar := 1) (by decide +kernel) rfl ⟨Nat.le_of_ble_eq_true rfl, Nat.le_of_ble_eq_true rfl, Nat.le_of_ble_eq_true rfl, Nat.le_of_ble_eq_true rfl⟩ (Nat.le_of_ble_eq_true rfl) (fun r_1 u_2 H locs hp_3 hG => ?_)
  obtain ⟨nu_2, Eu_2⟩ := u_2
  dsimp only at hp_3 hG
  obtain ⟨rfl, en_4, ee_5⟩ := hp_3
  have hG := gW_eq2 hG en_4 ee_5
  refine gi_nm (fun x_6 ex_6 => ?_)
  refine gi_if_eq (tgt := 20) hx hb dX11_off_5 (by decide) (by omega) (fun c_7 => ?_) (fun c_7 => ?_)
  · refine lv_bipush (v := iI (-2)) hx hb dX11_off_20 (by decide) ?_
    exact g_iret S hr hlk hG (by omega) dX11_off_22 ⟨Nat.le_of_ble_eq_true rfl, Nat.le_of_ble_eq_true rfl⟩ ⟨congrArg iI (by first | rfl | omega | ((repeat' split) <;> omega)), rfl, rfl⟩
  · refine lv_aload_n hx hb dX11_off_8 rfl (lv_at hl 0 rfl) ?_
    refine g_get S hG 0 2 (show gEof hG 0 = O0 b tapeSize0 faultNumber0 faultPlace0 actCount0 stamp0 toldSize0 toldRank0 from h0) cpX11 wm_668 dX11_off_9 rfl (by omega) (by decide) ?_
    refine g_get S hG 2 12 (show gEof hG 2 = O2 b most2 kinds2 lines2 parts2 steps2 from h2) cpX2 wm_271 dX11_off_12 rfl (by omega) (by decide) ?_
    refine lv_iload_n hx hb dX11_off_15 rfl (lv_at hl 1 rfl) ?_
    refine gi_ald S hG 10 (show gEof hG 10 = cI cy 30 of from h10) (by omega) dX11_off_16 (by omega) (by decide) ?_
    refine gi_nm (fun x_8 ex_8 => ?_)
    have bx_8 := hof (a1.toNat)
    refine lv_goto (tgt := 22) hx hb dX11_off_17 (by decide) ?_
    exact g_iret S hr hlk hG (by omega) dX11_off_22 ⟨Nat.le_of_ble_eq_true rfl, Nat.le_of_ble_eq_true rfl⟩ ⟨congrArg iI (by first | rfl | omega | ((repeat' split) <;> omega)), rfl, rfl⟩
set_option maxHeartbeats 4000000 in
set_option maxRecDepth 100000 in
theorem wX11_end (l : Launch) {D : va_G} {cy : Nat → ClassId} {b n : Nat} (hn : 105 ≤ n) {E : Nat → va_E}  {tapeSize0 faultNumber0 faultPlace0 actCount0 stamp0 toldSize0 toldRank0 : Int} (h0 : E 0 = O0 b tapeSize0 faultNumber0 faultPlace0 actCount0 stamp0 toldSize0 toldRank0) (a1 : Int) (hts : 0 ≤ tapeSize0 ∧ tapeSize0 ≤ 400) (hb1 : (-2147483648 ≤ a1 ∧ a1 ≤ 2147483647)) : gI l yX11_end cX11_end 2 (some .int) 0 0 0 D cy b n E [.ref (b + 0), .int (iI a1)] (fun r u => r = iI (if 0 ≤ a1 ∧ a1 ≤ tapeSize0 then a1 else -1) ∧ u.1 = n ∧ (∀ j, j ≠ 0 → u.2 j = E j) ∧ u.2 0 = O0 b (if 0 ≤ a1 ∧ a1 ≤ tapeSize0 then a1 else tapeSize0) faultNumber0 faultPlace0 actCount0 stamp0 toldSize0 toldRank0) := by
  refine gI_of (by decide) (Nat.le_of_ble_eq_true rfl) ?_
  intro p e s m args below meth c S hr hlk hin hsz ls hl hG
  have hx := S.1
  have hb := S.2.1
  have hl : lv_has ls 2 [(0, .ref (b + 0)), (1, .int (iI a1))] := hl
  refine lv_iload_n hx hb dX11_end_0 rfl (lv_at hl 1 rfl) ?_
  refine gi_if_lt (tgt := 12) hx hb dX11_end_1 (by decide) (by omega) (fun c_1 => ?_) (fun c_1 => ?_)
  · refine lv_iconst (v := iI (-1)) hx hb dX11_end_12 (by decide) ?_
    exact g_iret S hr hlk hG (by omega) dX11_end_13 ⟨Nat.le_of_ble_eq_true rfl, Nat.le_of_ble_eq_true rfl⟩ ⟨congrArg iI (by first | rfl | omega | ((repeat' split) <;> omega)), rfl, fun j hj0 => rfl, ((show gEof hG 0 = O0 b tapeSize0 faultNumber0 faultPlace0 actCount0 stamp0 toldSize0 toldRank0 from h0)).trans (congrArg (fun zz : Int => O0 b zz faultNumber0 faultPlace0 actCount0 stamp0 toldSize0 toldRank0) (show tapeSize0 = (if 0 ≤ a1 ∧ a1 ≤ tapeSize0 then a1 else tapeSize0) by first | rfl | omega | ((repeat' split) <;> omega)))⟩
  · refine lv_iload_n hx hb dX11_end_4 rfl (lv_at hl 1 rfl) ?_
    refine lv_aload_n hx hb dX11_end_5 rfl (lv_at hl 0 rfl) ?_
    refine g_get S hG 0 1 (show gEof hG 0 = O0 b tapeSize0 faultNumber0 faultPlace0 actCount0 stamp0 toldSize0 toldRank0 from h0) cpX11 wm_667 dX11_end_6 rfl (by omega) (by decide) ?_
    refine gi_icmp_le (tgt := 14) hx hb dX11_end_9 (by decide) (by omega) (by omega) (fun c_2 => ?_) (fun c_2 => ?_)
    · refine lv_aload_n hx hb dX11_end_14 rfl (lv_at hl 0 rfl) ?_
      refine lv_iload_n hx hb dX11_end_15 rfl (lv_at hl 1 rfl) ?_
      refine g_put (fs' := [.ref (b + 1), .int (iI a1), .ref (b + 2), .ref (b + 12), .int (iI faultNumber0), .int (iI faultPlace0), .ref (b + 33), .ref (b + 40), .ref (b + 47), .ref (b + 60), .ref (b + 67), .ref (b + 73), .ref (b + 80), .ref (b + 81), .ref (b + 82), .int (iI actCount0), .int (iI stamp0), .int (iI toldSize0), .int (iI toldRank0)]) S hG 0 1 (show gEof hG 0 = O0 b tapeSize0 faultNumber0 faultPlace0 actCount0 stamp0 toldSize0 toldRank0 from h0) cpX11 wm_667 dX11_end_16 rfl (by omega) (by decide) (Nat.le_of_ble_eq_true rfl) rfl rfl rfl (fun H locs hG => ?_)
      refine lv_iload_n hx hb dX11_end_19 rfl (lv_at hl 1 rfl) ?_
      exact g_iret S hr hlk hG (by omega) dX11_end_20 ⟨Nat.le_of_ble_eq_true rfl, Nat.le_of_ble_eq_true rfl⟩ ⟨congrArg iI (by first | rfl | omega | ((repeat' split) <;> omega)), rfl, fun j hj0 => (upE_n (by omega)).trans (rfl), ((show gEof hG 0 = O0 b a1 faultNumber0 faultPlace0 actCount0 stamp0 toldSize0 toldRank0 from upE_s)).trans (congrArg (fun zz : Int => O0 b zz faultNumber0 faultPlace0 actCount0 stamp0 toldSize0 toldRank0) (show a1 = (if 0 ≤ a1 ∧ a1 ≤ tapeSize0 then a1 else tapeSize0) by first | rfl | omega | ((repeat' split) <;> omega)))⟩
    · refine lv_iconst (v := iI (-1)) hx hb dX11_end_12 (by decide) ?_
      exact g_iret S hr hlk hG (by omega) dX11_end_13 ⟨Nat.le_of_ble_eq_true rfl, Nat.le_of_ble_eq_true rfl⟩ ⟨congrArg iI (by first | rfl | omega | ((repeat' split) <;> omega)), rfl, fun j hj0 => rfl, ((show gEof hG 0 = O0 b tapeSize0 faultNumber0 faultPlace0 actCount0 stamp0 toldSize0 toldRank0 from h0)).trans (congrArg (fun zz : Int => O0 b zz faultNumber0 faultPlace0 actCount0 stamp0 toldSize0 toldRank0) (show tapeSize0 = (if 0 ≤ a1 ∧ a1 ≤ tapeSize0 then a1 else tapeSize0) by first | rfl | omega | ((repeat' split) <;> omega)))⟩
