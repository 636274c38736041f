theorem dX11_times_0 : decode cX11_times 0 = .ok (.lload_n 0, 1) := by decide +kernel
theorem dX11_times_1 : decode cX11_times 1 = .ok (.lconst 0, 1) := by decide +kernel
theorem dX11_times_2 : decode cX11_times 2 = .ok (.lcmp, 1) := by decide +kernel
theorem dX11_times_3 : decode cX11_times 3 = .ok (.ifCond .le 9, 3) := by decide +kernel
theorem dX11_times_12 : decode cX11_times 12 = .ok (.lconst 0, 1) := by decide +kernel
theorem dX11_times_13 : decode cX11_times 13 = .ok (.lreturn, 1) := by decide +kernel
theorem dX11_times_6 : decode cX11_times 6 = .ok (.lload_n 2, 1) := by decide +kernel
theorem dX11_times_7 : decode cX11_times 7 = .ok (.lconst 0, 1) := by decide +kernel
theorem dX11_times_8 : decode cX11_times 8 = .ok (.lcmp, 1) := by decide +kernel
theorem dX11_times_9 : decode cX11_times 9 = .ok (.ifCond .gt 5, 3) := by decide +kernel
theorem dX11_times_14 : decode cX11_times 14 = .ok (.lload_n 0, 1) := by decide +kernel
theorem dX11_times_15 : decode cX11_times 15 = .ok (.ldc2_w 379, 3) := by decide +kernel
theorem dX11_times_18 : decode cX11_times 18 = .ok (.lload_n 2, 1) := by decide +kernel
theorem dX11_times_19 : decode cX11_times 19 = .ok (.ldiv, 1) := by decide +kernel
theorem dX11_times_20 : decode cX11_times 20 = .ok (.lcmp, 1) := by decide +kernel
theorem dX11_times_21 : decode cX11_times 21 = .ok (.ifCond .le 9, 3) := by decide +kernel
theorem dX11_times_30 : decode cX11_times 30 = .ok (.lload_n 0, 1) := by decide +kernel
theorem dX11_times_31 : decode cX11_times 31 = .ok (.lload_n 2, 1) := by decide +kernel
theorem dX11_times_32 : decode cX11_times 32 = .ok (.lmul, 1) := by decide +kernel
theorem dX11_times_33 : decode cX11_times 33 = .ok (.lreturn, 1) := by decide +kernel
theorem dX11_times_24 : decode cX11_times 24 = .ok (.ldc2_w 379, 3) := by decide +kernel
theorem dX11_times_27 : decode cX11_times 27 = .ok (.goto 6, 3) := by decide +kernel
theorem dX12_kindMany_0 : decode cX12_kindMany 0 = .ok (.aload_n 0, 1) := by decide +kernel
theorem dX12_kindMany_1 : decode cX12_kindMany 1 = .ok (.getfield 39, 3) := by decide +kernel
theorem dX12_kindMany_4 : decode cX12_kindMany 4 = .ok (.bipush 24, 2) := by decide +kernel
theorem dX12_kindMany_6 : decode cX12_kindMany 6 = .ok (.iload_n 1, 1) := by decide +kernel
theorem dX12_kindMany_7 : decode cX12_kindMany 7 = .ok (.iadd, 1) := by decide +kernel
theorem dX12_kindMany_8 : decode cX12_kindMany 8 = .ok (.iload_n 2, 1) := by decide +kernel
theorem dX12_kindMany_9 : decode cX12_kindMany 9 = .ok (.iconst 0, 1) := by decide +kernel
theorem dX12_kindMany_10 : decode cX12_kindMany 10 = .ok (.invokestatic 276, 3) := by decide +kernel
theorem wm_2034 : (Jvm.Cond.methodLink "GrownKindsModel" (276 : Nat) ({ cls := "GrownKindsModel", name := "place", desc := "(III)I" } : Jvm.MethodName)) ∈ gT := gT_in (List.mem_of_getElem? (i := 2034) (by decide +kernel)) (by decide +kernel)
theorem wm_2035 : (Jvm.Cond.static ({ cls := "GrownKindsModel", name := "place", desc := "(III)I" } : Jvm.MethodName)) ∈ gT := gT_in (List.mem_of_getElem? (i := 2035) (by decide +kernel)) (by decide +kernel)
theorem wm_2036 : (Jvm.Cond.code ({ cls := "GrownKindsModel", name := "place", desc := "(III)I" } : Jvm.MethodName) prog_14_method_51_code (3 : Nat) (Option.some Jvm.ClassFile.FieldType.int)) ∈ gT := gT_in (List.mem_of_getElem? (i := 2036) (by decide +kernel)) (by decide +kernel)
theorem dX12_kindMany_13 : decode cX12_kindMany 13 = .ok (.laload, 1) := by decide +kernel
theorem dX12_kindMany_14 : decode cX12_kindMany 14 = .ok (.lreturn, 1) := by decide +kernel
theorem dX12_upTo_0 : decode cX12_upTo 0 = .ok (.lconst 0, 1) := by decide +kernel
theorem dX12_upTo_1 : decode cX12_upTo 1 = .ok (.lstore 4, 2) := by decide +kernel
theorem dX12_upTo_3 : decode cX12_upTo 3 = .ok (.iload_n 2, 1) := by decide +kernel
theorem dX12_upTo_4 : decode cX12_upTo 4 = .ok (.istore 6, 2) := by decide +kernel
theorem dX12_upTo_6 : decode cX12_upTo 6 = .ok (.iload 6, 2) := by decide +kernel
theorem dX12_upTo_8 : decode cX12_upTo 8 = .ok (.iload_n 3, 1) := by decide +kernel
theorem dX12_upTo_9 : decode cX12_upTo 9 = .ok (.if_icmp .gt 26, 3) := by decide +kernel
theorem dX12_upTo_35 : decode cX12_upTo 35 = .ok (.lload 4, 2) := by decide +kernel
theorem dX12_upTo_37 : decode cX12_upTo 37 = .ok (.lreturn, 1) := by decide +kernel
theorem dX12_upTo_12 : decode cX12_upTo 12 = .ok (.lload 4, 2) := by decide +kernel
theorem dX12_upTo_14 : decode cX12_upTo 14 = .ok (.aload_n 0, 1) := by decide +kernel
theorem dX12_upTo_15 : decode cX12_upTo 15 = .ok (.iload_n 1, 1) := by decide +kernel
theorem dX12_upTo_16 : decode cX12_upTo 16 = .ok (.iload 6, 2) := by decide +kernel
theorem dX12_upTo_18 : decode cX12_upTo 18 = .ok (.invokevirtual 320, 3) := by decide +kernel
theorem wm_2081 : (Jvm.Cond.methodLink "GrownKindsModel" (320 : Nat) ({ cls := "GrownKindsModel", name := "kindMany", desc := "(II)J" } : Jvm.MethodName)) ∈ gT := gT_in (List.mem_of_getElem? (i := 2081) (by decide +kernel)) (by decide +kernel)
theorem wm_2083 : (Jvm.Cond.instanceMethod ({ cls := "GrownKindsModel", name := "kindMany", desc := "(II)J" } : Jvm.MethodName)) ∈ gT := gT_in (List.mem_of_getElem? (i := 2083) (by decide +kernel)) (by decide +kernel)
theorem wm_125 : Cond.selects "GrownKindsModel" ⟨"GrownKindsModel", "kindMany", "(II)J"⟩ ⟨"GrownKindsModel", "kindMany", "(II)J"⟩ ∈ gT := gT_in (List.mem_of_getElem? (i := 125) (by decide +kernel)) (by decide +kernel)
theorem wm_2084 : (Jvm.Cond.code ({ cls := "GrownKindsModel", name := "kindMany", desc := "(II)J" } : Jvm.MethodName) prog_14_method_63_code (3 : Nat) (Option.some Jvm.ClassFile.FieldType.long)) ∈ gT := gT_in (List.mem_of_getElem? (i := 2084) (by decide +kernel)) (by decide +kernel)
theorem dX12_upTo_21 : decode cX12_upTo 21 = .ok (.ldc2_w 280, 3) := by decide +kernel
theorem wm_2044 : (Jvm.Cond.constantLong "GrownKindsModel" (280 : Nat) (1000000000000 : Int64)) ∈ gT := gT_in (List.mem_of_getElem? (i := 2044) (by decide +kernel)) (by decide +kernel)
theorem dX12_upTo_24 : decode cX12_upTo 24 = .ok (.invokestatic 282, 3) := by decide +kernel
theorem wm_2050 : (Jvm.Cond.methodLink "GrownKindsModel" (282 : Nat) ({ cls := "GrownKindsModel", name := "add", desc := "(JJJ)J" } : Jvm.MethodName)) ∈ gT := gT_in (List.mem_of_getElem? (i := 2050) (by decide +kernel)) (by decide +kernel)
theorem wm_2051 : (Jvm.Cond.static ({ cls := "GrownKindsModel", name := "add", desc := "(JJJ)J" } : Jvm.MethodName)) ∈ gT := gT_in (List.mem_of_getElem? (i := 2051) (by decide +kernel)) (by decide +kernel)
theorem wm_2052 : (Jvm.Cond.code ({ cls := "GrownKindsModel", name := "add", desc := "(JJJ)J" } : Jvm.MethodName) prog_14_method_5_code (6 : Nat) (Option.some Jvm.ClassFile.FieldType.long)) ∈ gT := gT_in (List.mem_of_getElem? (i := 2052) (by decide +kernel)) (by decide +kernel)
theorem dX12_upTo_27 : decode cX12_upTo 27 = .ok (.lstore 4, 2) := by decide +kernel
theorem dX12_upTo_29 : decode cX12_upTo 29 = .ok (.iinc 6 1, 3) := by decide +kernel
theorem dX12_upTo_32 : decode cX12_upTo 32 = .ok (.goto (-26), 3) := by decide +kernel
theorem dX0_letterTop_0 : decode cX0_letterTop 0 = .ok (.aload_n 0, 1) := by decide +kernel
theorem dX0_letterTop_1 : decode cX0_letterTop 1 = .ok (.getfield 9, 3) := by decide +kernel
theorem dX0_letterTop_4 : decode cX0_letterTop 4 = .ok (.ifCond .lt 7, 3) := by decide +kernel
theorem dX0_letterTop_11 : decode cX0_letterTop 11 = .ok (.iconst 0, 1) := by decide +kernel
theorem dX0_letterTop_12 : decode cX0_letterTop 12 = .ok (.ireturn, 1) := by decide +kernel
theorem dX0_letterTop_7 : decode cX0_letterTop 7 = .ok (.iload_n 1, 1) := by decide +kernel
theorem dX0_letterTop_8 : decode cX0_letterTop 8 = .ok (.goto 4, 3) := by decide +kernel
theorem dX0_clearCells_0 : decode cX0_clearCells 0 = .ok (.iconst 0, 1) := by decide +kernel
theorem dX0_clearCells_1 : decode cX0_clearCells 1 = .ok (.istore 4, 2) := by decide +kernel
theorem dX0_clearCells_3 : decode cX0_clearCells 3 = .ok (.iload 4, 2) := by decide +kernel
theorem dX0_clearCells_5 : decode cX0_clearCells 5 = .ok (.aload_n 0, 1) := by decide +kernel
theorem dX0_clearCells_6 : decode cX0_clearCells 6 = .ok (.iload_n 3, 1) := by decide +kernel
theorem dX0_clearCells_7 : decode cX0_clearCells 7 = .ok (.invokevirtual 108, 3) := by decide +kernel
theorem wm_991 : (Jvm.Cond.methodLink "GrownKinds$Census" (108 : Nat) ({ cls := "GrownKinds$Census", name := "letterTop", desc := "(I)I" } : Jvm.MethodName)) ∈ gT := gT_in (List.mem_of_getElem? (i := 991) (by decide +kernel)) (by decide +kernel)
theorem wm_993 : (Jvm.Cond.instanceMethod ({ cls := "GrownKinds$Census", name := "letterTop", desc := "(I)I" } : Jvm.MethodName)) ∈ gT := gT_in (List.mem_of_getElem? (i := 993) (by decide +kernel)) (by decide +kernel)
theorem wm_31 : Cond.selects "GrownKinds$Census" ⟨"GrownKinds$Census", "letterTop", "(I)I"⟩ ⟨"GrownKinds$Census", "letterTop", "(I)I"⟩ ∈ gT := gT_in (List.mem_of_getElem? (i := 31) (by decide +kernel)) (by decide +kernel)
theorem wm_994 : (Jvm.Cond.code ({ cls := "GrownKinds$Census", name := "letterTop", desc := "(I)I" } : Jvm.MethodName) prog_2_method_13_code (2 : Nat) (Option.some Jvm.ClassFile.FieldType.int)) ∈ gT := gT_in (List.mem_of_getElem? (i := 994) (by decide +kernel)) (by decide +kernel)
theorem dX0_clearCells_10 : decode cX0_clearCells 10 = .ok (.if_icmp .gt 16, 3) := by decide +kernel
theorem dX0_clearCells_26 : decode cX0_clearCells 26 = .ok (.return_, 1) := by decide +kernel
theorem dX0_clearCells_13 : decode cX0_clearCells 13 = .ok (.aload_n 1, 1) := by decide +kernel
theorem dX0_clearCells_14 : decode cX0_clearCells 14 = .ok (.iload_n 2, 1) := by decide +kernel
theorem dX0_clearCells_15 : decode cX0_clearCells 15 = .ok (.iload 4, 2) := by decide +kernel
theorem dX0_clearCells_17 : decode cX0_clearCells 17 = .ok (.iadd, 1) := by decide +kernel
theorem dX0_clearCells_18 : decode cX0_clearCells 18 = .ok (.lconst 0, 1) := by decide +kernel
theorem dX0_clearCells_19 : decode cX0_clearCells 19 = .ok (.lastore, 1) := by decide +kernel
theorem dX0_clearCells_20 : decode cX0_clearCells 20 = .ok (.iinc 4 1, 3) := by decide +kernel
theorem dX0_clearCells_23 : decode cX0_clearCells 23 = .ok (.goto (-20), 3) := by decide +kernel
set_option maxHeartbeats 4000000 in
set_option maxRecDepth 100000 in
theorem wX11_times (l : Launch) {D : va_G} {cy : Nat → ClassId} {b n : Nat} (hn : 105 ≤ n) {E : Nat → va_E}   (a1 : Int) (a2 : Int) (hti : a1 ≤ 1000000000000000000 ∧ a2 ≤ 1000000000000000000) (hb1 : (-9223372036854775808 ≤ a1 ∧ a1 ≤ 9223372036854775807)) (hb2 : (-9223372036854775808 ≤ a2 ∧ a2 ≤ 9223372036854775807)) : gL l yX11_times cX11_times 4 0 0 0 D cy b n E [.long (jJ a1), .long (jJ a2)] (fun r u => r = jJ (if a1 ≤ 0 ∨ a2 ≤ 0 then 0 else if 1000000000000000000 / a2 < a1 then 1000000000000000000 else a1 * a2) ∧ u.1 = n ∧ u.2 = E) := by
  refine gL_of (by decide) (Nat.le_of_ble_eq_true rfl) ?_
  intro p e s m args below meth c S hr hlk hin hsz ls hl hG
  have hx := S.1
  have hb := S.2.1
  have hl : lv_has ls 4 [(0, .long (jJ a1)), (2, .long (jJ a2))] := hl
  refine lv_lload_n hx hb dX11_times_0 rfl (lv_at hl 0 rfl) ?_
  refine lv_lconst (v := jJ 0) hx hb dX11_times_1 (by decide) ?_
  refine gj_cmp_le (tgt := 12) hx hb dX11_times_2 dX11_times_3 (by decide) (by omega) (by omega) (fun c_1 => ?_) (fun c_1 => ?_)
  · refine lv_lconst (v := jJ 0) hx hb dX11_times_12 (by decide) ?_
    exact g_lret S hr hlk hG (by omega) dX11_times_13 ⟨Nat.le_of_ble_eq_true rfl, Nat.le_of_ble_eq_true rfl⟩ ⟨congrArg jJ (by subst_vars; first | rfl | omega | ((repeat' split) <;> omega)), rfl, rfl⟩
  · refine lv_lload_n hx hb dX11_times_6 rfl (lv_at hl 1 rfl) ?_
    refine lv_lconst (v := jJ 0) hx hb dX11_times_7 (by decide) ?_
    refine gj_cmp_gt (tgt := 14) hx hb dX11_times_8 dX11_times_9 (by decide) (by omega) (by omega) (fun c_2 => ?_) (fun c_2 => ?_)
    · refine lv_lload_n hx hb dX11_times_14 rfl (lv_at hl 0 rfl) ?_
      refine lv_ldc2 (v := 1000000000000000000) hx hb S.2.2.2.1 (S.2.2.2.2 _ wm_1000) dX11_times_15 ?_
      refine gj_as 1000000000000000000 (by decide) ?_
      refine lv_lload_n hx hb dX11_times_18 rfl (lv_at hl 1 rfl) ?_
      refine gj_div hx hb dX11_times_19 (by omega) (by omega) ?_
      have dv_3 : 0 ≤ 1000000000000000000 / a2 := Int.ediv_nonneg (by omega) (by omega)
      have dv_32 : 1000000000000000000 / a2 ≤ 1000000000000000000 := Int.ediv_le_self _ (by omega)
      refine gj_nm (fun x_4 ex_4 => ?_)
      refine gj_cmp_le (tgt := 30) hx hb dX11_times_20 dX11_times_21 (by decide) (by omega) (by omega) (fun c_5 => ?_) (fun c_5 => ?_)
      · refine lv_lload_n hx hb dX11_times_30 rfl (lv_at hl 0 rfl) ?_
        refine lv_lload_n hx hb dX11_times_31 rfl (lv_at hl 1 rfl) ?_
        refine gj_mul hx hb dX11_times_32 ?_
        exact g_lret S hr hlk hG (by omega) dX11_times_33 ⟨Nat.le_of_ble_eq_true rfl, Nat.le_of_ble_eq_true rfl⟩ ⟨congrArg jJ (by subst_vars; first | rfl | omega | ((repeat' split) <;> omega)), rfl, rfl⟩
      · refine lv_ldc2 (v := 1000000000000000000) hx hb S.2.2.2.1 (S.2.2.2.2 _ wm_1000) dX11_times_24 ?_
        refine gj_as 1000000000000000000 (by decide) ?_
        refine lv_goto (tgt := 33) hx hb dX11_times_27 (by decide) ?_
        exact g_lret S hr hlk hG (by omega) dX11_times_33 ⟨Nat.le_of_ble_eq_true rfl, Nat.le_of_ble_eq_true rfl⟩ ⟨congrArg jJ (by subst_vars; first | rfl | omega | ((repeat' split) <;> omega)), rfl, rfl⟩
    · refine lv_lconst (v := jJ 0) hx hb dX11_times_12 (by decide) ?_
      exact g_lret S hr hlk hG (by omega) dX11_times_13 ⟨Nat.le_of_ble_eq_true rfl, Nat.le_of_ble_eq_true rfl⟩ ⟨congrArg jJ (by subst_vars; first | rfl | omega | ((repeat' split) <;> omega)), rfl, rfl⟩
theorem wS_12_276 : gWS "GrownKindsModel" 276 yX12_place cX12_place 3 (some .int) := ⟨wm_2034, wm_2035, wm_187, wm_2036, by decide +kernel, by decide +kernel⟩
set_option maxHeartbeats 4000000 in
set_option maxRecDepth 100000 in
theorem wX12_kindMany (l : Launch) {D : va_G} {cy : Nat → ClassId} {b n : Nat} (hn : 105 ≤ n) {E : Nat → va_E}  {taped83 faultKind83 faultPlace83 at83 begin83 token83 value83 bad83 long083 wanted83 found83 deepMost83 letterAsked83 letterMany83 turns83 topTerm83 top83 left83 nodes83 sourceLong83 read83 toldSize83 toldRank83 boxSize83 isDealing83 dealKind83 dealLow83 dealMany83 dealLeft83 dealRound83 dealX83 : Int} {mn : Nat → Int} (h83 : E 83 = O83 b taped83 faultKind83 faultPlace83 at83 begin83 token83 value83 bad83 long083 wanted83 found83 deepMost83 letterAsked83 letterMany83 turns83 topTerm83 top83 left83 nodes83 sourceLong83 read83 toldSize83 toldRank83 boxSize83 isDealing83 dealKind83 dealLow83 dealMany83 dealLeft83 dealRound83 dealX83) (h90 : E 90 = cJ cy 1920 mn) (a1 : Int) (a2 : Int) (hmn : ∀ j, 0 ≤ mn j ∧ mn j ≤ 1000000000000) (hk1 : 0 ≤ a1 ∧ a1 < 6) (hk2 : 0 ≤ a2 ∧ a2 < 8) (hb1 : (-2147483648 ≤ a1 ∧ a1 ≤ 2147483647)) (hb2 : (-2147483648 ≤ a2 ∧ a2 ≤ 2147483647)) : gL l yX12_kindMany cX12_kindMany 3 1 0 0 D cy b n E [.ref (b + 83), .int (iI a1), .int (iI a2)] (fun r u => r = jJ (mn ((((24 + a1) * 8 + a2) * 8) + 0).toNat) ∧ (0 ≤ (mn ((((24 + a1) * 8 + a2) * 8) + 0).toNat) ∧ (mn ((((24 + a1) * 8 + a2) * 8) + 0).toNat) ≤ 1000000000000) ∧ u.1 = n ∧ u.2 = E) := by
  refine gL_of (by decide) (Nat.le_of_ble_eq_true rfl) ?_
  intro p e s m args below meth c S hr hlk hin hsz ls hl hG
  have hx := S.1
  have hb := S.2.1
  have hl : lv_has ls 3 [(0, .ref (b + 83)), (1, .int (iI a1)), (2, .int (iI a2))] := hl
  refine lv_aload_n hx hb dX12_kindMany_0 rfl (lv_at hl 0 rfl) ?_
  refine g_get S hG 83 14 (show gEof hG 83 = O83 b taped83 faultKind83 faultPlace83 at83 begin83 token83 value83 bad83 long083 wanted83 found83 deepMost83 letterAsked83 letterMany83 turns83 topTerm83 top83 left83 nodes83 sourceLong83 read83 toldSize83 toldRank83 boxSize83 isDealing83 dealKind83 dealLow83 dealMany83 dealLeft83 dealRound83 dealX83 from h83) cpX12 wm_1688 dX12_kindMany_1 rfl (by omega) (by decide) ?_
  refine lv_bipush (v := iI 24) hx hb dX12_kindMany_4 (by decide) ?_
  refine lv_iload_n hx hb dX12_kindMany_6 rfl (lv_at hl 1 rfl) ?_
  refine gi_add hx hb dX12_kindMany_7 ?_
  refine lv_iload_n hx hb dX12_kindMany_8 rfl (lv_at hl 2 rfl) ?_
  refine lv_iconst (v := iI 0) hx hb dX12_kindMany_9 (by decide) ?_
  refine g_si (As := [.int (iI (24 + a1)), .int (iI a2), .int (iI 0)]) (rest := [.ref (b + 90)]) S hG (by omega) (wX12_place l hn  (24 + a1) a2 0 (by omega) (by omega) (by omega) (by omega)) wS_12_276 dX12_kindMany_10 rfl hl.1 (ar := 3) (by decide +kernel) rfl ⟨Nat.le_of_ble_eq_true rfl, Nat.le_of_ble_eq_true rfl, Nat.le_of_ble_eq_true rfl, Nat.le_of_ble_eq_true rfl⟩ (Nat.le_of_ble_eq_true rfl) (fun r_1 u_2 H locs hp_3 hG => ?_)
  obtain ⟨nu_2, Eu_2⟩ := u_2
  dsimp only at hp_3 hG
  obtain ⟨rfl, en_4, ee_5⟩ := hp_3
  have hG := gW_eq2 hG en_4 ee_5
  refine gi_nm (fun x_6 ex_6 => ?_)
  refine gj_ald S hG 90 (show gEof hG 90 = cJ cy 1920 mn from h90) (by omega) dX12_kindMany_13 (by omega) (by decide) ?_
  refine gj_nm (fun x_7 ex_7 => ?_)
  have bx_7 := hmn (x_6.toNat)
  exact g_lret S hr hlk hG (by omega) dX12_kindMany_14 ⟨Nat.le_of_ble_eq_true rfl, Nat.le_of_ble_eq_true rfl⟩ ⟨congrArg jJ (by subst_vars; first | rfl | omega | ((repeat' split) <;> omega)), (by subst_vars; omega), rfl, rfl⟩
theorem wV_12_320 : gWV "GrownKindsModel" 320 yX12_kindMany cX12_kindMany 3 (some .long) := ⟨wm_2081, wm_2083, wm_125, wm_187, wm_2084, by decide +kernel, by decide +kernel⟩
theorem wS_12_282 : gWS "GrownKindsModel" 282 yX12_add cX12_add 6 (some .long) := ⟨wm_2050, wm_2051, wm_187, wm_2052, by decide +kernel, by decide +kernel⟩
set_option maxHeartbeats 4000000 in
set_option maxRecDepth 100000 in
theorem wX12_upTo (l : Launch) {D : va_G} {cy : Nat → ClassId} {b n : Nat} (hn : 105 ≤ n) {E : Nat → va_E}  {taped83 faultKind83 faultPlace83 at83 begin83 token83 value83 bad83 long083 wanted83 found83 deepMost83 letterAsked83 letterMany83 turns83 topTerm83 top83 left83 nodes83 sourceLong83 read83 toldSize83 toldRank83 boxSize83 isDealing83 dealKind83 dealLow83 dealMany83 dealLeft83 dealRound83 dealX83 : Int} {mn : Nat → Int} (h83 : E 83 = O83 b taped83 faultKind83 faultPlace83 at83 begin83 token83 value83 bad83 long083 wanted83 found83 deepMost83 letterAsked83 letterMany83 turns83 topTerm83 top83 left83 nodes83 sourceLong83 read83 toldSize83 toldRank83 boxSize83 isDealing83 dealKind83 dealLow83 dealMany83 dealLeft83 dealRound83 dealX83) (h90 : E 90 = cJ cy 1920 mn) (a1 : Int) (a2 : Int) (a3 : Int) (hmn : ∀ j, 0 ≤ mn j ∧ mn j ≤ 1000000000000) (hk1 : 0 ≤ a1 ∧ a1 < 6) (hk2 : 0 ≤ a2 ∧ a2 ≤ 8) (hk3 : 0 ≤ a3 ∧ a3 < 8) (hb1 : (-2147483648 ≤ a1 ∧ a1 ≤ 2147483647)) (hb2 : (-2147483648 ≤ a2 ∧ a2 ≤ 2147483647)) (hb3 : (-2147483648 ≤ a3 ∧ a3 ≤ 2147483647)) : gL l yX12_upTo cX12_upTo 7 2 0 0 D cy b n E [.ref (b + 83), .int (iI a1), .int (iI a2), .int (iI a3)] (fun r u => r = jJ (sumC (fun x => mn ((((24 + a1) * 8 + x) * 8) + 0).toNat) a2 (a3 + 1 - a2).toNat) ∧ (0 ≤ (sumC (fun x => mn ((((24 + a1) * 8 + x) * 8) + 0).toNat) a2 (a3 + 1 - a2).toNat) ∧ (sumC (fun x => mn ((((24 + a1) * 8 + x) * 8) + 0).toNat) a2 (a3 + 1 - a2).toNat) ≤ 1000000000000) ∧ u.1 = n ∧ u.2 = E) := by
  refine gL_of (by decide) (Nat.le_of_ble_eq_true rfl) ?_
  intro p e s m args below meth c S hr hlk hin hsz ls hl hG
  have hx := S.1
  have hb := S.2.1
  have hl : lv_has ls 7 [(0, .ref (b + 83)), (1, .int (iI a1)), (2, .int (iI a2)), (3, .int (iI a3))] := hl
  refine lv_lconst (v := jJ 0) hx hb dX12_upTo_0 (by decide) ?_
  refine lv_lstore (lv' := [(4, .long (jJ 0)), (0, .ref (b + 83)), (1, .int (iI a1)), (2, .int (iI a2)), (3, .int (iI a3))]) hx hb dX12_upTo_1 hl (by decide) rfl (fun ls hl => ?_)
  refine lv_iload_n hx hb dX12_upTo_3 rfl (lv_at hl 3 rfl) ?_
  refine lv_istore (lv' := [(6, .int (iI a2)), (4, .long (jJ 0)), (0, .ref (b + 83)), (1, .int (iI a1)), (2, .int (iI a2)), (3, .int (iI a3))]) hx hb dX12_upTo_4 hl (by decide) rfl (fun ls hl => ?_)
  have loop6 : ∀ (t6 : Nat) (nv : Int) (sv : Int) (H : Heap) (locs : List Loc) (ls : Array Slot), Int.toNat (8 - nv) < t6 → (a2 ≤ nv ∧ (nv ≤ a3 + 1 ∨ nv = a2)) → (sv = sumC (fun x => mn ((((24 + a1) * 8 + x) * 8) + 0).toNat) a2 (nv - a2).toNat) → gW D cy b n s H locs E → lv_has ls 7 [(6, .int (iI nv)), (4, .long (jJ sv)), (0, .ref (b + 83)), (1, .int (iI a1)), (2, .int (iI a2)), (3, .int (iI a3))] → W p l e (gRm 2 0 0) s m args below meth c H locs 0 0 (gQL D cy b s args below 0 0 (fun r u => r = jJ (sumC (fun x => mn ((((24 + a1) * 8 + x) * 8) + 0).toNat) a2 (a3 + 1 - a2).toNat) ∧ (0 ≤ (sumC (fun x => mn ((((24 + a1) * 8 + x) * 8) + 0).toNat) a2 (a3 + 1 - a2).toNat) ∧ (sumC (fun x => mn ((((24 + a1) * 8 + x) * 8) + 0).toNat) a2 (a3 + 1 - a2).toNat) ≤ 1000000000000) ∧ u.1 = n ∧ u.2 = E)) (F0 m 6 ls []) := by
    intro t6
    induction t6 with
    | zero => intro nv sv H locs ls hm6; exact absurd hm6 (Nat.not_lt_zero _)
    | succ t6 ih6 =>
      intro nv sv H locs ls hm6 hnv hsv  hG hl
      have hsb := sumC_b (f := (fun x => mn ((((24 + a1) * 8 + x) * 8) + 0).toNat)) (lo := a2) (fun x => (hmn _).1) (nv - a2).toNat; rw [← hsv] at hsb
      refine lv_iload hx hb dX12_upTo_6 (lv_at hl 0 rfl) ?_
      refine lv_iload_n hx hb dX12_upTo_8 rfl (lv_at hl 5 rfl) ?_
      refine gi_icmp_gt (tgt := 35) hx hb dX12_upTo_9 (by decide) (by omega) (by omega) (fun c_1 => ?_) (fun c_1 => ?_)
      · refine lv_lload hx hb dX12_upTo_35 (lv_at hl 1 rfl) ?_
        exact g_lret S hr hlk hG (by omega) dX12_upTo_37 ⟨Nat.le_of_ble_eq_true rfl, Nat.le_of_ble_eq_true rfl⟩ ⟨congrArg jJ (by rw [hsv, show (nv - a2).toNat = (a3 + 1 - a2).toNat by omega]), (sumC_b (fun x => (hmn _).1) _), rfl, rfl⟩
      · refine lv_lload hx hb dX12_upTo_12 (lv_at hl 1 rfl) ?_
        refine lv_aload_n hx hb dX12_upTo_14 rfl (lv_at hl 2 rfl) ?_
        refine lv_iload_n hx hb dX12_upTo_15 rfl (lv_at hl 3 rfl) ?_
        refine lv_iload hx hb dX12_upTo_16 (lv_at hl 0 rfl) ?_
        refine g_vl (As := [.int (iI a1), .int (iI nv)]) (rest := [.long (jJ sv)]) S hG (by omega) (wX12_kindMany l hn (show gEof hG 83 = O83 b taped83 faultKind83 faultPlace83 at83 begin83 token83 value83 bad83 long083 wanted83 found83 deepMost83 letterAsked83 letterMany83 turns83 topTerm83 top83 left83 nodes83 sourceLong83 read83 toldSize83 toldRank83 boxSize83 isDealing83 dealKind83 dealLow83 dealMany83 dealLeft83 dealRound83 dealX83 from h83) (show gEof hG 90 = cJ cy 1920 mn from h90) a1 nv (by omega) (by omega) (by omega) (by omega) (by omega)) wV_12_320 (show gEof hG 83 = O83 b taped83 faultKind83 faultPlace83 at83 begin83 token83 value83 bad83 long083 wanted83 found83 deepMost83 letterAsked83 letterMany83 turns83 topTerm83 top83 left83 nodes83 sourceLong83 read83 toldSize83 toldRank83 boxSize83 isDealing83 dealKind83 dealLow83 dealMany83 dealLeft83 dealRound83 dealX83 from h83) cpX12 (by omega) dX12_upTo_18 rfl hl.1 (ar := 2) (by decide +kernel) rfl ⟨Nat.le_of_ble_eq_true rfl, Nat.le_of_ble_eq_true rfl, Nat.le_of_ble_eq_true rfl, Nat.le_of_ble_eq_true rfl⟩ (Nat.le_of_ble_eq_true rfl) (fun r_2 u_3 H locs hp_4 hG => ?_)
        obtain ⟨nu_3, Eu_3⟩ := u_3
        dsimp only at hp_4 hG
        obtain ⟨rfl, rb_5, en_6, ee_7⟩ := hp_4
        have hG := gW_eq2 hG en_6 ee_7
        refine gj_nm (fun x_8 ex_8 => ?_)
        refine lv_ldc2 (v := 1000000000000) hx hb S.2.2.2.1 (S.2.2.2.2 _ wm_2044) dX12_upTo_21 ?_
        refine gj_as 1000000000000 (by decide) ?_
        refine g_sl (As := [.long (jJ sv), .long (jJ x_8), .long (jJ 1000000000000)]) (rest := []) S hG (by omega) (wX12_add l hn  sv x_8 1000000000000 (by omega) (by omega) (by omega) (by omega)) wS_12_282 dX12_upTo_24 rfl hl.1 (ar := 3) (by decide +kernel) rfl ⟨Nat.le_of_ble_eq_true rfl, Nat.le_of_ble_eq_true rfl, Nat.le_of_ble_eq_true rfl, Nat.le_of_ble_eq_true rfl⟩ (Nat.le_of_ble_eq_true rfl) (fun r_9 u_10 H locs hp_11 hG => ?_)
        obtain ⟨nu_10, Eu_10⟩ := u_10
        dsimp only at hp_11 hG
        obtain ⟨rfl, en_12, ee_13⟩ := hp_11
        have hG := gW_eq2 hG en_12 ee_13
        refine gj_nm (fun x_14 ex_14 => ?_)
        refine lv_lstore (lv' := [(4, .long (jJ x_14)), (6, .int (iI nv)), (0, .ref (b + 83)), (1, .int (iI a1)), (2, .int (iI a2)), (3, .int (iI a3))]) hx hb dX12_upTo_27 hl (by decide) rfl (fun ls hl => ?_)
        refine lv_iinc (v := iI (nv + 1)) (lv' := [(6, .int (iI (nv + 1))), (4, .long (jJ x_14)), (0, .ref (b + 83)), (1, .int (iI a1)), (2, .int (iI a2)), (3, .int (iI a3))]) hx hb dX12_upTo_29 hl (k := 1) rfl ((iI_add nv (1)).trans (congrArg iI (by omega))) (by decide) rfl (fun ls hl => ?_)
        refine lv_goto (tgt := 6) hx hb dX12_upTo_32 (by decide) ?_
        exact ih6 (nv + 1) x_14 _ _ ls (by omega) (by omega) (by rw [show (nv + 1 - a2).toNat = (nv - a2).toNat + 1 by omega]; simp only [sumC]; rw [← hsv, show a2 + ((nv - a2).toNat : Int) = nv by omega]; subst_vars; rfl) hG (lv_sub hl [0, 1, 2, 3, 4, 5] rfl)
  exact loop6 (Int.toNat (8 - a2) + 1) a2 0 _ _ ls (by omega) (by omega) (by rw [show (a2 - a2).toNat = 0 by omega]; rfl) hG (lv_sub hl [0, 1, 2, 3, 4, 5] rfl)
set_option maxHeartbeats 4000000 in
set_option maxRecDepth 100000 in
theorem wX0_letterTop_40 (l : Launch) {D : va_G} {cy : Nat → ClassId} {b n : Nat} (hn : 105 ≤ n) {E : Nat → va_E}  {mode40 : Int} (h40 : E 40 = O40 b mode40) (a1 : Int) (hmd : -2 ≤ mode40 ∧ mode40 ≤ 25) (hb1 : (-2147483648 ≤ a1 ∧ a1 ≤ 2147483647)) : gI l yX0_letterTop cX0_letterTop 2 (some .int) 0 0 0 D cy b n E [.ref (b + 40), .int (iI a1)] (fun r u => r = iI (if 0 ≤ mode40 then a1 else 0) ∧ u.1 = n ∧ u.2 = E) := by
  refine gI_of (by decide) (Nat.le_of_ble_eq_true rfl) ?_
  intro p e s m args below meth c S hr hlk hin hsz ls hl hG
  have hx := S.1
  have hb := S.2.1
  have hl : lv_has ls 2 [(0, .ref (b + 40)), (1, .int (iI a1))] := hl
  refine lv_aload_n hx hb dX0_letterTop_0 rfl (lv_at hl 0 rfl) ?_
  refine g_get S hG 40 1 (show gEof hG 40 = O40 b mode40 from h40) cpX0 wm_403 dX0_letterTop_1 rfl (by omega) (by decide) ?_
  refine gi_if_lt (tgt := 11) hx hb dX0_letterTop_4 (by decide) (by omega) (fun c_1 => ?_) (fun c_1 => ?_)
  · refine lv_iconst (v := iI 0) hx hb dX0_letterTop_11 (by decide) ?_
    exact g_iret S hr hlk hG (by omega) dX0_letterTop_12 ⟨Nat.le_of_ble_eq_true rfl, Nat.le_of_ble_eq_true rfl⟩ ⟨congrArg iI (by subst_vars; first | rfl | omega | ((repeat' split) <;> omega)), rfl, rfl⟩
  · refine lv_iload_n hx hb dX0_letterTop_7 rfl (lv_at hl 1 rfl) ?_
    refine lv_goto (tgt := 12) hx hb dX0_letterTop_8 (by decide) ?_
    exact g_iret S hr hlk hG (by omega) dX0_letterTop_12 ⟨Nat.le_of_ble_eq_true rfl, Nat.le_of_ble_eq_true rfl⟩ ⟨congrArg iI (by subst_vars; first | rfl | omega | ((repeat' split) <;> omega)), rfl, rfl⟩
theorem wV_0_108 : gWV "GrownKinds$Census" 108 yX0_letterTop cX0_letterTop 2 (some .int) := ⟨wm_991, wm_993, wm_31, wm_180, wm_994, by decide +kernel, by decide +kernel⟩
set_option maxHeartbeats 4000000 in
set_option maxRecDepth 100000 in
theorem wX0_clearCells_41 (l : Launch) {D : va_G} {cy : Nat → ClassId} {b n : Nat} (hn : 105 ≤ n) {E : Nat → va_E}  {mode40 : Int} {ow : Nat → Int} (h40 : E 40 = O40 b mode40) (h41 : E 41 = cJ cy 1536 ow) (a2 : Int) (a3 : Int) (hmd : -2 ≤ mode40 ∧ mode40 ≤ 25) (hcb : 0 ≤ a2 ∧ 0 ≤ a3 ∧ a3 ≤ 7 ∧ a2 + a3 < 1536) (hb2 : (-2147483648 ≤ a2 ∧ a2 ≤ 2147483647)) (hb3 : (-2147483648 ≤ a3 ∧ a3 ≤ 2147483647)) : gV l yX0_clearCells cX0_clearCells 5 1 0 0 D cy b n E [.ref (b + 40), .ref (b + 41), .int (iI a2), .int (iI a3)] (fun u => u.1 = n ∧ (∀ j, j ≠ 41 → u.2 j = E j) ∧ (∃ g : Nat → Int, u.2 41 = cJ cy 1536 g ∧ (∀ j : Nat, g j = if a2.toNat ≤ j ∧ (j : Int) ≤ a2 + (if 0 ≤ mode40 then a3 else 0) then 0 else ow j))) := by
  refine gV_of (by decide) (Nat.le_of_ble_eq_true rfl) ?_
  intro p e s m args below meth c S hr hlk hin hsz ls hl hG
  have hx := S.1
  have hb := S.2.1
  have hl : lv_has ls 5 [(0, .ref (b + 40)), (1, .ref (b + 41)), (2, .int (iI a2)), (3, .int (iI a3))] := hl
  refine lv_iconst (v := iI 0) hx hb dX0_clearCells_0 (by decide) ?_
  refine lv_istore (lv' := [(4, .int (iI 0)), (0, .ref (b + 40)), (1, .ref (b + 41)), (2, .int (iI a2)), (3, .int (iI a3))]) hx hb dX0_clearCells_1 hl (by decide) rfl (fun ls hl => ?_)
  have loop3 : ∀ (t3 : Nat) (kv : Int) (gv : Nat → Int) (E'3 : Nat → va_E) (H : Heap) (locs : List Loc) (ls : Array Slot), Int.toNat (9 - kv) < t3 → (0 ≤ kv ∧ kv ≤ (if 0 ≤ mode40 then a3 else 0) + 1) → (∀ j : Nat, gv j = if a2.toNat ≤ j ∧ (j : Int) < a2 + kv then 0 else ow j) → (∀ j, j ≠ 41 → E'3 j = E j) → E'3 41 = cJ cy 1536 gv → gW D cy b n s H locs E'3 → lv_has ls 5 [(4, .int (iI kv)), (0, .ref (b + 40)), (1, .ref (b + 41)), (2, .int (iI a2)), (3, .int (iI a3))] → W p l e (gRm 1 0 0) s m args below meth c H locs 0 0 (gQV D cy b s args below 0 0 (fun u => u.1 = n ∧ (∀ j, j ≠ 41 → u.2 j = E j) ∧ (∃ g : Nat → Int, u.2 41 = cJ cy 1536 g ∧ (∀ j : Nat, g j = if a2.toNat ≤ j ∧ (j : Int) ≤ a2 + (if 0 ≤ mode40 then a3 else 0) then 0 else ow j)))) (F0 m 3 ls []) := by
    intro t3
    induction t3 with
    | zero => intro kv gv E'3 H locs ls hm3; exact absurd hm3 (Nat.not_lt_zero _)
    | succ t3 ih3 =>
      intro kv gv E'3 H locs ls hm3 hkv hgv hfr3 hL3_41 hG hl
      refine lv_iload hx hb dX0_clearCells_3 (lv_at hl 0 rfl) ?_
      refine lv_aload_n hx hb dX0_clearCells_5 rfl (lv_at hl 1 rfl) ?_
      refine lv_iload_n hx hb dX0_clearCells_6 rfl (lv_at hl 4 rfl) ?_
      refine g_vi (As := [.int (iI a3)]) (rest := [.int (iI kv)]) S hG (by omega) (wX0_letterTop_40 l hn (show gEof hG 40 = O40 b mode40 from ((hfr3 40 (by omega) ).trans h40)) a3 (by omega) (by omega)) wV_0_108 (show gEof hG 40 = O40 b mode40 from ((hfr3 40 (by omega) ).trans h40)) cpX0 (by omega) dX0_clearCells_7 rfl hl.1 (ar := 1) (by decide +kernel) rfl ⟨Nat.le_of_ble_eq_true rfl, Nat.le_of_ble_eq_true rfl, Nat.le_of_ble_eq_true rfl, Nat.le_of_ble_eq_true rfl⟩ (Nat.le_of_ble_eq_true rfl) (fun r_1 u_2 H locs hp_3 hG => ?_)
      obtain ⟨nu_2, Eu_2⟩ := u_2
      dsimp only at hp_3 hG
      obtain ⟨rfl, en_4, ee_5⟩ := hp_3
      have hG := gW_eq2 hG en_4 ee_5
      refine gi_nm (fun x_6 ex_6 => ?_)
      refine gi_icmp_gt (tgt := 26) hx hb dX0_clearCells_10 (by decide) (by omega) (by omega) (fun c_7 => ?_) (fun c_7 => ?_)
      · exact g_vret S hr hlk hG (by omega) dX0_clearCells_26 ⟨Nat.le_of_ble_eq_true rfl, Nat.le_of_ble_eq_true rfl⟩ ⟨rfl, fun j hj41 => (hfr3 j (by omega) ).trans (rfl), ⟨_, (show gEof hG 41 = cJ cy 1536 gv from hL3_41), (fun j => by rw [hgv j]; (repeat' split) <;> first | rfl | omega)⟩⟩
      · refine lv_aload_n hx hb dX0_clearCells_13 rfl (lv_at hl 2 rfl) ?_
        refine lv_iload_n hx hb dX0_clearCells_14 rfl (lv_at hl 3 rfl) ?_
        refine lv_iload hx hb dX0_clearCells_15 (lv_at hl 0 rfl) ?_
        refine gi_add hx hb dX0_clearCells_17 ?_
        refine lv_lconst (v := jJ 0) hx hb dX0_clearCells_18 (by decide) ?_
        refine gj_ast S hG 41 (show gEof hG 41 = cJ cy 1536 gv from hL3_41) (by omega) dX0_clearCells_19 (by omega) (by decide) (fun H locs hG => ?_)
        refine lv_iinc (v := iI (kv + 1)) (lv' := [(4, .int (iI (kv + 1))), (0, .ref (b + 40)), (1, .ref (b + 41)), (2, .int (iI a2)), (3, .int (iI a3))]) hx hb dX0_clearCells_20 hl (k := 0) rfl ((iI_add kv (1)).trans (congrArg iI (by omega))) (by decide) rfl (fun ls hl => ?_)
        refine lv_goto (tgt := 3) hx hb dX0_clearCells_23 (by decide) ?_
        exact ih3 (kv + 1) (upZ gv (Int.toNat (a2 + kv)) 0) _ _ _ ls (by omega) (by split <;> omega) (fun j => by subst_vars; by_cases hj : j = (a2 + kv).toNat <;> simp only [upZ, hj, if_true, if_false, hgv] <;> (repeat' split) <;> first | rfl | omega) (fun j hj41 => (upE_n (by omega)).trans (hfr3 j hj41)) (show gEof hG 41 = cJ cy 1536 (upZ gv (Int.toNat (a2 + kv)) 0) from upE_s) hG (lv_sub hl [0, 1, 2, 3, 4] rfl)
  exact loop3 (Int.toNat (9 - 0) + 1) 0 ow _ _ _ ls (by omega) (by split <;> omega) (fun j => by rw [if_neg (by omega)]) (fun j _ => rfl) (show E 41 = cJ cy 1536 ow from h41) hG (lv_sub hl [0, 1, 2, 3, 4] rfl)
