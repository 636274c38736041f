theorem dX12_has_0 : decode cX12_has 0 = .ok (.iload_n 0, 1) := by decide +kernel
theorem dX12_has_1 : decode cX12_has 1 = .ok (.iload_n 1, 1) := by decide +kernel
theorem dX12_has_2 : decode cX12_has 2 = .ok (.ishr, 1) := by decide +kernel
theorem dX12_has_3 : decode cX12_has 3 = .ok (.iconst 1, 1) := by decide +kernel
theorem dX12_has_4 : decode cX12_has 4 = .ok (.iand, 1) := by decide +kernel
theorem dX12_has_5 : decode cX12_has 5 = .ok (.iconst 1, 1) := by decide +kernel
theorem dX12_has_6 : decode cX12_has 6 = .ok (.if_icmp .ne 7, 3) := by decide +kernel
theorem dX12_has_13 : decode cX12_has 13 = .ok (.iconst 0, 1) := by decide +kernel
theorem dX12_has_14 : decode cX12_has 14 = .ok (.ireturn, 1) := by decide +kernel
theorem dX12_has_9 : decode cX12_has 9 = .ok (.iconst 1, 1) := by decide +kernel
theorem dX12_has_10 : decode cX12_has 10 = .ok (.goto 4, 3) := by decide +kernel
theorem dX12_common_0 : decode cX12_common 0 = .ok (.iload_n 0, 1) := by decide +kernel
theorem dX12_common_1 : decode cX12_common 1 = .ok (.istore_n 2, 1) := by decide +kernel
theorem dX12_common_2 : decode cX12_common 2 = .ok (.iload_n 1, 1) := by decide +kernel
theorem dX12_common_3 : decode cX12_common 3 = .ok (.istore_n 3, 1) := by decide +kernel
theorem dX12_common_4 : decode cX12_common 4 = .ok (.iload_n 3, 1) := by decide +kernel
theorem dX12_common_5 : decode cX12_common 5 = .ok (.ifCond .le 16, 3) := by decide +kernel
theorem dX12_common_21 : decode cX12_common 21 = .ok (.iload_n 2, 1) := by decide +kernel
theorem dX12_common_22 : decode cX12_common 22 = .ok (.ireturn, 1) := by decide +kernel
theorem dX12_common_8 : decode cX12_common 8 = .ok (.iload_n 2, 1) := by decide +kernel
theorem dX12_common_9 : decode cX12_common 9 = .ok (.iload_n 3, 1) := by decide +kernel
theorem dX12_common_10 : decode cX12_common 10 = .ok (.irem, 1) := by decide +kernel
theorem dX12_common_11 : decode cX12_common 11 = .ok (.istore 4, 2) := by decide +kernel
theorem dX12_common_13 : decode cX12_common 13 = .ok (.iload_n 3, 1) := by decide +kernel
theorem dX12_common_14 : decode cX12_common 14 = .ok (.istore_n 2, 1) := by decide +kernel
theorem dX12_common_15 : decode cX12_common 15 = .ok (.iload 4, 2) := by decide +kernel
theorem dX12_common_17 : decode cX12_common 17 = .ok (.istore_n 3, 1) := by decide +kernel
theorem dX12_common_18 : decode cX12_common 18 = .ok (.goto (-14), 3) := by decide +kernel
theorem dX12_bitsFor_0 : decode cX12_bitsFor 0 = .ok (.iconst 0, 1) := by decide +kernel
theorem dX12_bitsFor_1 : decode cX12_bitsFor 1 = .ok (.istore_n 2, 1) := by decide +kernel
theorem dX12_bitsFor_2 : decode cX12_bitsFor 2 = .ok (.lconst 1, 1) := by decide +kernel
theorem dX12_bitsFor_3 : decode cX12_bitsFor 3 = .ok (.iload_n 2, 1) := by decide +kernel
theorem dX12_bitsFor_4 : decode cX12_bitsFor 4 = .ok (.lshl, 1) := by decide +kernel
theorem dX12_bitsFor_5 : decode cX12_bitsFor 5 = .ok (.lload_n 0, 1) := by decide +kernel
theorem dX12_bitsFor_6 : decode cX12_bitsFor 6 = .ok (.lcmp, 1) := by decide +kernel
theorem dX12_bitsFor_7 : decode cX12_bitsFor 7 = .ok (.ifCond .ge 9, 3) := by decide +kernel
theorem dX12_bitsFor_16 : decode cX12_bitsFor 16 = .ok (.iload_n 2, 1) := by decide +kernel
theorem dX12_bitsFor_17 : decode cX12_bitsFor 17 = .ok (.ireturn, 1) := by decide +kernel
theorem dX12_bitsFor_10 : decode cX12_bitsFor 10 = .ok (.iinc 2 1, 3) := by decide +kernel
theorem dX12_bitsFor_13 : decode cX12_bitsFor 13 = .ok (.goto (-11), 3) := by decide +kernel
theorem dX12_chosen_0 : decode cX12_chosen 0 = .ok (.iload_n 3, 1) := by decide +kernel
theorem dX12_chosen_1 : decode cX12_chosen 1 = .ok (.ifCond .eq 7, 3) := by decide +kernel
theorem dX12_chosen_8 : decode cX12_chosen 8 = .ok (.lload_n 0, 1) := by decide +kernel
theorem dX12_chosen_9 : decode cX12_chosen 9 = .ok (.iload_n 2, 1) := by decide +kernel
theorem dX12_chosen_10 : decode cX12_chosen 10 = .ok (.i2l, 1) := by decide +kernel
theorem dX12_chosen_11 : decode cX12_chosen 11 = .ok (.ladd, 1) := by decide +kernel
theorem dX12_chosen_12 : decode cX12_chosen 12 = .ok (.lconst 1, 1) := by decide +kernel
theorem dX12_chosen_13 : decode cX12_chosen 13 = .ok (.lsub, 1) := by decide +kernel
theorem dX12_chosen_14 : decode cX12_chosen 14 = .ok (.lstore 4, 2) := by decide +kernel
theorem dX12_chosen_16 : decode cX12_chosen 16 = .ok (.iload_n 2, 1) := by decide +kernel
theorem dX12_chosen_17 : decode cX12_chosen 17 = .ok (.ifCond .ne 5, 3) := by decide +kernel
theorem dX12_chosen_22 : decode cX12_chosen 22 = .ok (.lload_n 0, 1) := by decide +kernel
theorem dX12_chosen_23 : decode cX12_chosen 23 = .ok (.lconst 0, 1) := by decide +kernel
theorem dX12_chosen_24 : decode cX12_chosen 24 = .ok (.lcmp, 1) := by decide +kernel
theorem dX12_chosen_25 : decode cX12_chosen 25 = .ok (.ifCond .eq 11, 3) := by decide +kernel
theorem dX12_chosen_36 : decode cX12_chosen 36 = .ok (.lconst 0, 1) := by decide +kernel
theorem dX12_chosen_37 : decode cX12_chosen 37 = .ok (.lreturn, 1) := by decide +kernel
theorem dX12_chosen_28 : decode cX12_chosen 28 = .ok (.lload 4, 2) := by decide +kernel
theorem dX12_chosen_30 : decode cX12_chosen 30 = .ok (.iload_n 2, 1) := by decide +kernel
theorem dX12_chosen_31 : decode cX12_chosen 31 = .ok (.i2l, 1) := by decide +kernel
theorem dX12_chosen_32 : decode cX12_chosen 32 = .ok (.lcmp, 1) := by decide +kernel
theorem dX12_chosen_33 : decode cX12_chosen 33 = .ok (.ifCond .ge 5, 3) := by decide +kernel
theorem dX12_chosen_38 : decode cX12_chosen 38 = .ok (.lconst 1, 1) := by decide +kernel
theorem dX12_chosen_39 : decode cX12_chosen 39 = .ok (.lstore 6, 2) := by decide +kernel
theorem dX12_chosen_41 : decode cX12_chosen 41 = .ok (.iconst 1, 1) := by decide +kernel
theorem dX12_chosen_42 : decode cX12_chosen 42 = .ok (.istore 8, 2) := by decide +kernel
theorem dX12_chosen_44 : decode cX12_chosen 44 = .ok (.iload 8, 2) := by decide +kernel
theorem dX12_chosen_46 : decode cX12_chosen 46 = .ok (.iload_n 2, 1) := by decide +kernel
theorem dX12_chosen_47 : decode cX12_chosen 47 = .ok (.if_icmp .gt 56, 3) := by decide +kernel
theorem dX12_chosen_103 : decode cX12_chosen 103 = .ok (.ldc2_w 280, 3) := by decide +kernel
theorem dX12_chosen_106 : decode cX12_chosen 106 = .ok (.lload 6, 2) := by decide +kernel
theorem dX12_chosen_108 : decode cX12_chosen 108 = .ok (.invokestatic 1, 3) := by decide +kernel
theorem dX12_chosen_111 : decode cX12_chosen 111 = .ok (.lreturn, 1) := by decide +kernel
theorem dX12_chosen_50 : decode cX12_chosen 50 = .ok (.lload 4, 2) := by decide +kernel
theorem dX12_chosen_52 : decode cX12_chosen 52 = .ok (.iload_n 2, 1) := by decide +kernel
theorem dX12_chosen_53 : decode cX12_chosen 53 = .ok (.i2l, 1) := by decide +kernel
theorem dX12_chosen_54 : decode cX12_chosen 54 = .ok (.lsub, 1) := by decide +kernel
theorem dX12_chosen_55 : decode cX12_chosen 55 = .ok (.iload 8, 2) := by decide +kernel
theorem dX12_chosen_57 : decode cX12_chosen 57 = .ok (.i2l, 1) := by decide +kernel
theorem dX12_chosen_58 : decode cX12_chosen 58 = .ok (.ladd, 1) := by decide +kernel
theorem dX12_chosen_59 : decode cX12_chosen 59 = .ok (.lstore 9, 2) := by decide +kernel
theorem dX12_chosen_61 : decode cX12_chosen 61 = .ok (.lload 6, 2) := by decide +kernel
theorem dX12_chosen_63 : decode cX12_chosen 63 = .ok (.ldc2_w 280, 3) := by decide +kernel
theorem dX12_chosen_66 : decode cX12_chosen 66 = .ok (.lcmp, 1) := by decide +kernel
theorem dX12_chosen_67 : decode cX12_chosen 67 = .ok (.ifCond .gt 15, 3) := by decide +kernel
theorem dX12_chosen_82 : decode cX12_chosen 82 = .ok (.ldc2_w 280, 3) := by decide +kernel
theorem dX12_chosen_85 : decode cX12_chosen 85 = .ok (.lreturn, 1) := by decide +kernel
theorem dX12_chosen_70 : decode cX12_chosen 70 = .ok (.lload 6, 2) := by decide +kernel
theorem dX12_chosen_72 : decode cX12_chosen 72 = .ok (.ldc2_w 310, 3) := by decide +kernel
theorem wm_2045 : (Jvm.Cond.constantLong "GrownKindsModel" (310 : Nat) (9223372036854775807 : Int64)) ∈ gT := gT_in (List.mem_of_getElem? (i := 2045) (by decide +kernel)) (by decide +kernel)
theorem dX12_chosen_75 : decode cX12_chosen 75 = .ok (.lload 9, 2) := by decide +kernel
theorem dX12_chosen_77 : decode cX12_chosen 77 = .ok (.ldiv, 1) := by decide +kernel
theorem dX12_chosen_78 : decode cX12_chosen 78 = .ok (.lcmp, 1) := by decide +kernel
theorem dX12_chosen_79 : decode cX12_chosen 79 = .ok (.ifCond .le 7, 3) := by decide +kernel
theorem dX12_chosen_86 : decode cX12_chosen 86 = .ok (.lload 6, 2) := by decide +kernel
theorem dX12_chosen_88 : decode cX12_chosen 88 = .ok (.lload 9, 2) := by decide +kernel
theorem dX12_chosen_90 : decode cX12_chosen 90 = .ok (.lmul, 1) := by decide +kernel
theorem dX12_chosen_91 : decode cX12_chosen 91 = .ok (.iload 8, 2) := by decide +kernel
theorem dX12_chosen_93 : decode cX12_chosen 93 = .ok (.i2l, 1) := by decide +kernel
theorem dX12_chosen_94 : decode cX12_chosen 94 = .ok (.ldiv, 1) := by decide +kernel
theorem dX12_chosen_95 : decode cX12_chosen 95 = .ok (.lstore 6, 2) := by decide +kernel
theorem dX12_chosen_97 : decode cX12_chosen 97 = .ok (.iinc 8 1, 3) := by decide +kernel
theorem dX12_chosen_100 : decode cX12_chosen 100 = .ok (.goto (-56), 3) := by decide +kernel
theorem dX12_chosen_20 : decode cX12_chosen 20 = .ok (.lconst 1, 1) := by decide +kernel
theorem dX12_chosen_21 : decode cX12_chosen 21 = .ok (.lreturn, 1) := by decide +kernel
theorem dX12_chosen_4 : decode cX12_chosen 4 = .ok (.lload_n 0, 1) := by decide +kernel
theorem dX12_chosen_5 : decode cX12_chosen 5 = .ok (.goto 9, 3) := by decide +kernel
theorem dX12_part_0 : decode cX12_part 0 = .ok (.iload_n 2, 1) := by decide +kernel
theorem dX12_part_1 : decode cX12_part 1 = .ok (.ifCond .ne 7, 3) := by decide +kernel
theorem dX12_part_8 : decode cX12_part 8 = .ok (.iload_n 1, 1) := by decide +kernel
theorem dX12_part_9 : decode cX12_part 9 = .ok (.iload_n 0, 1) := by decide +kernel
theorem dX12_part_10 : decode cX12_part 10 = .ok (.iload_n 1, 1) := by decide +kernel
theorem dX12_part_11 : decode cX12_part 11 = .ok (.invokestatic 539, 3) := by decide +kernel
theorem wm_2381 : (Jvm.Cond.methodLink "GrownKindsModel" (539 : Nat) ({ cls := "GrownKindsModel", name := "common", desc := "(II)I" } : Jvm.MethodName)) ∈ gT := gT_in (List.mem_of_getElem? (i := 2381) (by decide +kernel)) (by decide +kernel)
theorem wm_2382 : (Jvm.Cond.static ({ cls := "GrownKindsModel", name := "common", desc := "(II)I" } : Jvm.MethodName)) ∈ gT := gT_in (List.mem_of_getElem? (i := 2382) (by decide +kernel)) (by decide +kernel)
theorem wm_2383 : (Jvm.Cond.code ({ cls := "GrownKindsModel", name := "common", desc := "(II)I" } : Jvm.MethodName) prog_14_method_135_code (5 : Nat) (Option.some Jvm.ClassFile.FieldType.int)) ∈ gT := gT_in (List.mem_of_getElem? (i := 2383) (by decide +kernel)) (by decide +kernel)
theorem dX12_part_14 : decode cX12_part 14 = .ok (.idiv, 1) := by decide +kernel
theorem dX12_part_15 : decode cX12_part 15 = .ok (.ireturn, 1) := by decide +kernel
theorem dX12_part_4 : decode cX12_part 4 = .ok (.iload_n 0, 1) := by decide +kernel
theorem dX12_part_5 : decode cX12_part 5 = .ok (.goto 4, 3) := by decide +kernel
theorem dX12_isOff_0 : decode cX12_isOff 0 = .ok (.iload_n 1, 1) := by decide +kernel
theorem dX12_isOff_1 : decode cX12_isOff 1 = .ok (.bipush 6, 2) := by decide +kernel
theorem dX12_isOff_3 : decode cX12_isOff 3 = .ok (.if_icmp .ge 23, 3) := by decide +kernel
theorem dX12_isOff_26 : decode cX12_isOff 26 = .ok (.iconst 0, 1) := by decide +kernel
theorem dX12_isOff_27 : decode cX12_isOff 27 = .ok (.ireturn, 1) := by decide +kernel
theorem dX12_isOff_6 : decode cX12_isOff 6 = .ok (.aload_n 0, 1) := by decide +kernel
theorem dX12_isOff_7 : decode cX12_isOff 7 = .ok (.getfield 15, 3) := by decide +kernel
theorem dX12_isOff_10 : decode cX12_isOff 10 = .ok (.bipush 6, 2) := by decide +kernel
theorem dX12_isOff_12 : decode cX12_isOff 12 = .ok (.iload_n 1, 1) := by decide +kernel
theorem dX12_isOff_13 : decode cX12_isOff 13 = .ok (.iadd, 1) := by decide +kernel
theorem dX12_isOff_14 : decode cX12_isOff 14 = .ok (.iaload, 1) := by decide +kernel
theorem dX12_isOff_15 : decode cX12_isOff 15 = .ok (.iload_n 2, 1) := by decide +kernel
theorem dX12_isOff_16 : decode cX12_isOff 16 = .ok (.invokestatic 228, 3) := by decide +kernel
theorem wm_1949 : (Jvm.Cond.methodLink "GrownKindsModel" (228 : Nat) ({ cls := "GrownKindsModel", name := "has", desc := "(II)Z" } : Jvm.MethodName)) ∈ gT := gT_in (List.mem_of_getElem? (i := 1949) (by decide +kernel)) (by decide +kernel)
theorem wm_1950 : (Jvm.Cond.static ({ cls := "GrownKindsModel", name := "has", desc := "(II)Z" } : Jvm.MethodName)) ∈ gT := gT_in (List.mem_of_getElem? (i := 1950) (by decide +kernel)) (by decide +kernel)
theorem wm_1951 : (Jvm.Cond.code ({ cls := "GrownKindsModel", name := "has", desc := "(II)Z" } : Jvm.MethodName) prog_14_method_2_code (2 : Nat) (Option.some Jvm.ClassFile.FieldType.boolean)) ∈ gT := gT_in (List.mem_of_getElem? (i := 1951) (by decide +kernel)) (by decide +kernel)
theorem dX12_isOff_19 : decode cX12_isOff 19 = .ok (.ifCond .eq 7, 3) := by decide +kernel
theorem dX12_isOff_22 : decode cX12_isOff 22 = .ok (.iconst 1, 1) := by decide +kernel
theorem dX12_isOff_23 : decode cX12_isOff 23 = .ok (.goto 4, 3) := by decide +kernel
set_option maxHeartbeats 4000000 in
set_option maxRecDepth 100000 in
theorem wX12_has (l : Launch) {D : va_G} {cy : Nat → ClassId} {b n : Nat} (hn : 105 ≤ n) {E : Nat → va_E}   (a1 : Int) (a2 : Int) (hb1 : (-2147483648 ≤ a1 ∧ a1 ≤ 2147483647)) (hb2 : (-2147483648 ≤ a2 ∧ a2 ≤ 2147483647)) : gI l yX12_has cX12_has 2 (some .boolean) 0 0 0 D cy b n E [.int (iI a1), .int (iI a2)] (fun r u => r = iI (if an (shr a1 a2) 1 = 1 then 1 else 0) ∧ u.1 = n ∧ u.2 = E) := by
  refine gI_of (by decide) (Nat.le_of_ble_eq_true rfl) ?_
  intro p e s m args below meth c S hr hlk hin hsz ls hl hG
  have hx := S.1
  have hb := S.2.1
  have hl : lv_has ls 2 [(0, .int (iI a1)), (1, .int (iI a2))] := hl
  refine lv_iload_n hx hb dX12_has_0 rfl (lv_at hl 0 rfl) ?_
  refine lv_iload_n hx hb dX12_has_1 rfl (lv_at hl 1 rfl) ?_
  refine gi_shr hx hb dX12_has_2 ?_
  refine gi_nm (fun x_1 ex_1 => ?_)
  have bx_1 := shr_b a1 a2; rw [← ex_1] at bx_1
  refine lv_iconst (v := iI 1) hx hb dX12_has_3 (by decide) ?_
  refine gi_and hx hb dX12_has_4 ?_
  refine gi_nm (fun x_2 ex_2 => ?_)
  have bx_2 := an_b x_1 1; rw [← ex_2] at bx_2
  refine lv_iconst (v := iI 1) hx hb dX12_has_5 (by decide) ?_
  refine gi_icmp_ne (tgt := 13) hx hb dX12_has_6 (by decide) (by omega) (by omega) (fun c_3 => ?_) (fun c_3 => ?_)
  · refine lv_iconst (v := iI 0) hx hb dX12_has_13 (by decide) ?_
    exact g_zret S hr hlk hG (by omega) dX12_has_14 ⟨Nat.le_of_ble_eq_true rfl, Nat.le_of_ble_eq_true rfl⟩ (nar_z (by omega)) ⟨congrArg iI (by subst_vars; first | rfl | omega | ((repeat' split) <;> omega)), rfl, rfl⟩
  · refine lv_iconst (v := iI 1) hx hb dX12_has_9 (by decide) ?_
    refine lv_goto (tgt := 14) hx hb dX12_has_10 (by decide) ?_
    exact g_zret S hr hlk hG (by omega) dX12_has_14 ⟨Nat.le_of_ble_eq_true rfl, Nat.le_of_ble_eq_true rfl⟩ (nar_z (by omega)) ⟨congrArg iI (by subst_vars; first | rfl | omega | ((repeat' split) <;> omega)), rfl, rfl⟩
theorem gcG_f : ∀ {k j : Nat} {x y : Int}, 0 ≤ y → y.toNat < k → y.toNat < j → gcG k x y = gcG j x y
  | 0, _, _, _, _, h, _ => absurd h (Nat.not_lt_zero _)
  | _ + 1, 0, _, _, _, _, h => absurd h (Nat.not_lt_zero _)
  | k + 1, j + 1, x, y, h0, h1, h2 => by
    simp only [gcG]
    split
    · rfl
    · have m0 : 0 ≤ x % y := Int.emod_nonneg _ (by omega)
      have m1 : x % y < y := Int.emod_lt_of_pos _ (by omega)
      exact gcG_f m0 (by omega) (by omega)
set_option maxHeartbeats 4000000 in
set_option maxRecDepth 100000 in
theorem wX12_common (l : Launch) {D : va_G} {cy : Nat → ClassId} {b n : Nat} (hn : 105 ≤ n) {E : Nat → va_E}   (a1 : Int) (a2 : Int) (hco : 0 ≤ a1 ∧ a1 ≤ 100000 ∧ 0 ≤ a2 ∧ a2 ≤ 100000) (hb1 : (-2147483648 ≤ a1 ∧ a1 ≤ 2147483647)) (hb2 : (-2147483648 ≤ a2 ∧ a2 ≤ 2147483647)) : gI l yX12_common cX12_common 5 (some .int) 0 0 0 D cy b n E [.int (iI a1), .int (iI a2)] (fun r u => r = iI (gcG (a2.toNat + 1) a1 a2) ∧ u.1 = n ∧ u.2 = E) := by
  refine gI_of (by decide) (Nat.le_of_ble_eq_true rfl) ?_
  intro p e s m args below meth c S hr hlk hin hsz ls hl hG
  have hx := S.1
  have hb := S.2.1
  have hl : lv_has ls 5 [(0, .int (iI a1)), (1, .int (iI a2))] := hl
  refine lv_iload_n hx hb dX12_common_0 rfl (lv_at hl 0 rfl) ?_
  refine lv_istore_n (lv' := [(2, .int (iI a1)), (0, .int (iI a1)), (1, .int (iI a2))]) hx hb dX12_common_1 rfl hl (by decide) rfl (fun ls hl => ?_)
  refine lv_iload_n hx hb dX12_common_2 rfl (lv_at hl 2 rfl) ?_
  refine lv_istore_n (lv' := [(3, .int (iI a2)), (2, .int (iI a1)), (0, .int (iI a1)), (1, .int (iI a2))]) hx hb dX12_common_3 rfl hl (by decide) rfl (fun ls hl => ?_)
  have loop4 : ∀ (t4 : Nat) (xv : Int) (yv : Int) (H : Heap) (locs : List Loc) (ls : Array Slot), Int.toNat yv < t4 → (0 ≤ xv ∧ xv ≤ 100000 ∧ 0 ≤ yv ∧ yv ≤ 100000) → (∀ k : Nat, yv.toNat < k → gcG k xv yv = gcG (a2.toNat + 1) a1 a2) → gW D cy b n s H locs E → lv_has ls 5 [(3, .int (iI yv)), (2, .int (iI xv)), (0, .int (iI a1)), (1, .int (iI a2))] → W p l e (gRm 0 0 0) s m args below meth c H locs 0 0 (gQI D cy b s args below 0 0 (fun r u => r = iI (gcG (a2.toNat + 1) a1 a2) ∧ u.1 = n ∧ u.2 = E)) (F0 m 4 ls []) := by
    intro t4
    induction t4 with
    | zero => intro xv yv H locs ls hm4; exact absurd hm4 (Nat.not_lt_zero _)
    | succ t4 ih4 =>
      intro xv yv H locs ls hm4 hxy hfv  hG hl
      refine lv_iload_n hx hb dX12_common_4 rfl (lv_at hl 0 rfl) ?_
      refine gi_if_le (tgt := 21) hx hb dX12_common_5 (by decide) (by omega) (fun c_1 => ?_) (fun c_1 => ?_)
      · refine lv_iload_n hx hb dX12_common_21 rfl (lv_at hl 1 rfl) ?_
        exact g_iret S hr hlk hG (by omega) dX12_common_22 ⟨Nat.le_of_ble_eq_true rfl, Nat.le_of_ble_eq_true rfl⟩ ⟨congrArg iI (by rw [← hfv (yv.toNat + 1) (by omega)]; simp only [gcG]; rw [if_pos (by omega)]), rfl, rfl⟩
      · refine lv_iload_n hx hb dX12_common_8 rfl (lv_at hl 1 rfl) ?_
        refine lv_iload_n hx hb dX12_common_9 rfl (lv_at hl 0 rfl) ?_
        refine gi_rem hx hb dX12_common_10 (by omega) (by omega) ?_
        have dv_2 : 0 ≤ xv % yv := Int.emod_nonneg _ (by omega)
        have dv_22 : xv % yv < yv := Int.emod_lt_of_pos _ (by omega)
        refine gi_nm (fun x_3 ex_3 => ?_)
        refine lv_istore (lv' := [(4, .int (iI x_3)), (3, .int (iI yv)), (2, .int (iI xv)), (0, .int (iI a1)), (1, .int (iI a2))]) hx hb dX12_common_11 hl (by decide) rfl (fun ls hl => ?_)
        refine lv_iload_n hx hb dX12_common_13 rfl (lv_at hl 1 rfl) ?_
        refine lv_istore_n (lv' := [(2, .int (iI yv)), (4, .int (iI x_3)), (3, .int (iI yv)), (0, .int (iI a1)), (1, .int (iI a2))]) hx hb dX12_common_14 rfl hl (by decide) rfl (fun ls hl => ?_)
        refine lv_iload hx hb dX12_common_15 (lv_at hl 1 rfl) ?_
        refine lv_istore_n (lv' := [(3, .int (iI x_3)), (2, .int (iI yv)), (4, .int (iI x_3)), (0, .int (iI a1)), (1, .int (iI a2))]) hx hb dX12_common_17 rfl hl (by decide) rfl (fun ls hl => ?_)
        refine lv_goto (tgt := 4) hx hb dX12_common_18 (by decide) ?_
        exact ih4 yv x_3 _ _ ls (by omega) (by omega) (fun k hk => by subst_vars; rw [← hfv (k + yv.toNat + 1) (by omega)]; simp only [gcG]; rw [if_neg (by omega)]; exact gcG_f (by omega) hk (by omega)) hG (lv_sub hl [0, 1, 3, 4] rfl)
  exact loop4 (Int.toNat a2 + 1) a1 a2 _ _ ls (by omega) (by omega) (fun k hk => gcG_f (by omega) (by omega) (by omega)) hG (lv_sub hl [0, 1, 2, 3] rfl)
set_option maxHeartbeats 4000000 in
set_option maxRecDepth 100000 in
theorem wX12_bitsFor (l : Launch) {D : va_G} {cy : Nat → ClassId} {b n : Nat} (hn : 105 ≤ n) {E : Nat → va_E}   (a1 : Int) (hbf : 0 ≤ a1 ∧ a1 ≤ 1000000) (hb1 : (-9223372036854775808 ≤ a1 ∧ a1 ≤ 9223372036854775807)) : gI l yX12_bitsFor cX12_bitsFor 3 (some .int) 0 0 0 D cy b n E [.long (jJ a1)] (fun r u => r = iI (bfG a1 30 0) ∧ (0 ≤ (bfG a1 30 0) ∧ (bfG a1 30 0) ≤ 30) ∧ u.1 = n ∧ u.2 = E) := by
  refine gI_of (by decide) (Nat.le_of_ble_eq_true rfl) ?_
  intro p e s m args below meth c S hr hlk hin hsz ls hl hG
  have hx := S.1
  have hb := S.2.1
  have hl : lv_has ls 3 [(0, .long (jJ a1))] := hl
  refine lv_iconst (v := iI 0) hx hb dX12_bitsFor_0 (by decide) ?_
  refine lv_istore_n (lv' := [(2, .int (iI 0)), (0, .long (jJ a1))]) hx hb dX12_bitsFor_1 rfl hl (by decide) rfl (fun ls hl => ?_)
  have loop2 : ∀ (t2 : Nat) (bv : Int) (H : Heap) (locs : List Loc) (ls : Array Slot), Int.toNat (31 - bv) < t2 → (0 ≤ bv ∧ bv ≤ 20) → (bfG a1 (30 - bv).toNat bv = bfG a1 30 0) → gW D cy b n s H locs E → lv_has ls 3 [(2, .int (iI bv)), (0, .long (jJ a1))] → W p l e (gRm 0 0 0) s m args below meth c H locs 0 0 (gQI D cy b s args below 0 0 (fun r u => r = iI (bfG a1 30 0) ∧ (0 ≤ (bfG a1 30 0) ∧ (bfG a1 30 0) ≤ 30) ∧ u.1 = n ∧ u.2 = E)) (F0 m 2 ls []) := by
    intro t2
    induction t2 with
    | zero => intro bv H locs ls hm2; exact absurd hm2 (Nat.not_lt_zero _)
    | succ t2 ih2 =>
      intro bv H locs ls hm2 hbv hfv  hG hl
      refine lv_lconst (v := jJ 1) hx hb dX12_bitsFor_2 (by decide) ?_
      refine lv_iload_n hx hb dX12_bitsFor_3 rfl (lv_at hl 0 rfl) ?_
      refine gj_shl hx hb dX12_bitsFor_4 ?_
      have lb_1 := lsh_b 1 bv
      refine lv_lload_n hx hb dX12_bitsFor_5 rfl (lv_at hl 1 rfl) ?_
      refine gj_cmp_ge (tgt := 16) hx hb dX12_bitsFor_6 dX12_bitsFor_7 (by decide) (by omega) (by omega) (fun c_2 => ?_) (fun c_2 => ?_)
      · refine lv_iload_n hx hb dX12_bitsFor_16 rfl (lv_at hl 0 rfl) ?_
        exact g_iret S hr hlk hG (by omega) dX12_bitsFor_17 ⟨Nat.le_of_ble_eq_true rfl, Nat.le_of_ble_eq_true rfl⟩ ⟨congrArg iI (by rw [← hfv, show (30 - bv).toNat = (29 - bv).toNat + 1 by omega]; simp only [bfG]; rw [if_neg (by omega)]), (by rw [← hfv]; exact bfG_b (by omega) (by omega)), rfl, rfl⟩
      · refine lv_iinc (v := iI (bv + 1)) (lv' := [(2, .int (iI (bv + 1))), (0, .long (jJ a1))]) hx hb dX12_bitsFor_10 hl (k := 0) rfl ((iI_add bv (1)).trans (congrArg iI (by omega))) (by decide) rfl (fun ls hl => ?_)
        refine lv_goto (tgt := 2) hx hb dX12_bitsFor_13 (by decide) ?_
        exact ih2 (bv + 1) _ _ ls (by omega) (by have h20 : bv ≠ 20 := (fun q => by have h2 := lsh_1 (k := 20) (by omega); rw [q] at c_2; have h3 : (2 : Int) ^ (Int.toNat 20) = 1048576 := (by decide); omega); omega) (by rw [← hfv, show (30 - bv).toNat = (30 - (bv + 1)).toNat + 1 by omega]; simp only [bfG]; rw [if_pos (by omega)]) hG (lv_sub hl [0, 1] rfl)
  exact loop2 (Int.toNat (31 - 0) + 1) 0 _ _ ls (by omega) (by omega) rfl hG (lv_sub hl [0, 1] rfl)
set_option maxHeartbeats 4000000 in
set_option maxRecDepth 100000 in
theorem wX12_chosen (l : Launch) {D : va_G} {cy : Nat → ClassId} {b n : Nat} (hn : 105 ≤ n) {E : Nat → va_E}   (a1 : Int) (a2 : Int) (a3 : Int) (hch : 0 ≤ a1 ∧ a1 ≤ 1000000000000 ∧ 0 ≤ a2 ∧ a2 ≤ 7) (hb1 : (-9223372036854775808 ≤ a1 ∧ a1 ≤ 9223372036854775807)) (hb2 : (-2147483648 ≤ a2 ∧ a2 ≤ 2147483647)) (hb3 : (a3 = 0 ∨ a3 = 1)) : gL l yX12_chosen cX12_chosen 11 1 0 0 D cy b n E [.long (jJ a1), .int (iI a2), .int (iI a3)] (fun r u => r = jJ (if a2 = 0 then 1 else if a1 = 0 ∨ (if a3 = 0 then a1 + a2 - 1 else a1) < a2 then 0 else chG (if a3 = 0 then a1 + a2 - 1 else a1) a2 a2.toNat 1 1) ∧ u.1 = n ∧ u.2 = E) := by
  refine gL_of (by decide) (Nat.le_of_ble_eq_true rfl) ?_
  intro p e s m args below meth c S hr hlk hin hsz ls hl hG
  have hx := S.1
  have hb := S.2.1
  have hl : lv_has ls 11 [(0, .long (jJ a1)), (2, .int (iI a2)), (3, .int (iI a3))] := hl
  refine lv_iload_n hx hb dX12_chosen_0 rfl (lv_at hl 2 rfl) ?_
  refine gi_if_eq (tgt := 8) hx hb dX12_chosen_1 (by decide) (by omega) (fun c_1 => ?_) (fun c_1 => ?_)
  · refine lv_lload_n hx hb dX12_chosen_8 rfl (lv_at hl 0 rfl) ?_
    refine lv_iload_n hx hb dX12_chosen_9 rfl (lv_at hl 1 rfl) ?_
    refine gi_i2l hx hb dX12_chosen_10 (by omega) ?_
    refine gj_add hx hb dX12_chosen_11 ?_
    refine lv_lconst (v := jJ 1) hx hb dX12_chosen_12 (by decide) ?_
    refine gj_sub hx hb dX12_chosen_13 ?_
    refine gj_nm (fun x_2 ex_2 => ?_)
    refine lv_lstore (lv' := [(4, .long (jJ x_2)), (0, .long (jJ a1)), (2, .int (iI a2)), (3, .int (iI a3))]) hx hb dX12_chosen_14 hl (by decide) rfl (fun ls hl => ?_)
    refine lv_iload_n hx hb dX12_chosen_16 rfl (lv_at hl 2 rfl) ?_
    refine gi_if_ne (tgt := 22) hx hb dX12_chosen_17 (by decide) (by omega) (fun c_3 => ?_) (fun c_3 => ?_)
    · refine lv_lload_n hx hb dX12_chosen_22 rfl (lv_at hl 1 rfl) ?_
      refine lv_lconst (v := jJ 0) hx hb dX12_chosen_23 (by decide) ?_
      refine gj_cmp_eq (tgt := 36) hx hb dX12_chosen_24 dX12_chosen_25 (by decide) (by omega) (by omega) (fun c_4 => ?_) (fun c_4 => ?_)
      · refine lv_lconst (v := jJ 0) hx hb dX12_chosen_36 (by decide) ?_
        exact g_lret S hr hlk hG (by omega) dX12_chosen_37 ⟨Nat.le_of_ble_eq_true rfl, Nat.le_of_ble_eq_true rfl⟩ ⟨congrArg jJ (by subst_vars; first | (rw [if_pos (by omega)]; done) | (rw [if_neg (by omega), if_pos (by first | omega | ((repeat' split) <;> omega))])), rfl, rfl⟩
      · refine lv_lload hx hb dX12_chosen_28 (lv_at hl 0 rfl) ?_
        refine lv_iload_n hx hb dX12_chosen_30 rfl (lv_at hl 2 rfl) ?_
        refine gi_i2l hx hb dX12_chosen_31 (by omega) ?_
        refine gj_cmp_ge (tgt := 38) hx hb dX12_chosen_32 dX12_chosen_33 (by decide) (by omega) (by omega) (fun c_5 => ?_) (fun c_5 => ?_)
        · refine lv_lconst (v := jJ 1) hx hb dX12_chosen_38 (by decide) ?_
          refine lv_lstore (lv' := [(6, .long (jJ 1)), (4, .long (jJ x_2)), (0, .long (jJ a1)), (2, .int (iI a2)), (3, .int (iI a3))]) hx hb dX12_chosen_39 hl (by decide) rfl (fun ls hl => ?_)
          refine lv_iconst (v := iI 1) hx hb dX12_chosen_41 (by decide) ?_
          refine lv_istore (lv' := [(8, .int (iI 1)), (6, .long (jJ 1)), (4, .long (jJ x_2)), (0, .long (jJ a1)), (2, .int (iI a2)), (3, .int (iI a3))]) hx hb dX12_chosen_42 hl (by decide) rfl (fun ls hl => ?_)
          have loop44 : ∀ (t44 : Nat) (iv : Int) (vv : Int) (alv : Int) (H : Heap) (locs : List Loc) (ls : Array Slot), Int.toNat (9 - iv) < t44 → (1 ≤ iv ∧ iv ≤ a2 + 1 ∧ 0 ≤ vv ∧ vv ≤ 9223372036854775807) → ((if a3 = 0 then a1 + a2 - 1 else a1) = alv ∧ a2 ≤ alv ∧ ¬ a1 = 0 ∧ ¬ a2 = 0 ∧ alv ≤ 1000000000100) → (chG alv a2 (a2 + 1 - iv).toNat iv vv = chG alv a2 a2.toNat 1 1) → gW D cy b n s H locs E → lv_has ls 11 [(8, .int (iI iv)), (6, .long (jJ vv)), (4, .long (jJ alv)), (0, .long (jJ a1)), (2, .int (iI a2)), (3, .int (iI a3))] → W p l e (gRm 1 0 0) s m args below meth c H locs 0 0 (gQL D cy b s args below 0 0 (fun r u => r = jJ (if a2 = 0 then 1 else if a1 = 0 ∨ (if a3 = 0 then a1 + a2 - 1 else a1) < a2 then 0 else chG (if a3 = 0 then a1 + a2 - 1 else a1) a2 a2.toNat 1 1) ∧ u.1 = n ∧ u.2 = E)) (F0 m 44 ls []) := by
            intro t44
            induction t44 with
            | zero => intro iv vv alv H locs ls hm44; exact absurd hm44 (Nat.not_lt_zero _)
            | succ t44 ih44 =>
              intro iv vv alv H locs ls hm44 hiv hal hfv  hG hl
              refine lv_iload hx hb dX12_chosen_44 (lv_at hl 0 rfl) ?_
              refine lv_iload_n hx hb dX12_chosen_46 rfl (lv_at hl 4 rfl) ?_
              refine gi_icmp_gt (tgt := 103) hx hb dX12_chosen_47 (by decide) (by omega) (by omega) (fun c_6 => ?_) (fun c_6 => ?_)
              · refine lv_ldc2 (v := 1000000000000) hx hb S.2.2.2.1 (S.2.2.2.2 _ wm_2044) dX12_chosen_103 ?_
                refine gj_as 1000000000000 (by decide) ?_
                refine lv_lload hx hb dX12_chosen_106 (lv_at hl 1 rfl) ?_
                refine gj_min S wm_2046 wm_1002 wm_189 wm_1003 hl.1 dX12_chosen_108 ⟨Nat.le_of_ble_eq_true rfl, Nat.le_of_ble_eq_true rfl, Nat.le_of_ble_eq_true rfl, Nat.le_of_ble_eq_true rfl⟩ (by omega) (by omega) ?_
                exact g_lret S hr hlk hG (by omega) dX12_chosen_111 ⟨Nat.le_of_ble_eq_true rfl, Nat.le_of_ble_eq_true rfl⟩ ⟨congrArg jJ (by rw [if_neg (by omega), hal.1, if_neg (by omega), ← hfv]; first | (rw [show (a2 + 1 - iv).toNat = 0 by omega]; simp only [chG]; try (subst_vars; rfl)) | (rw [show (a2 + 1 - iv).toNat = (a2 - iv).toNat + 1 by omega]; simp only [chG]; rw [if_pos (by subst_vars; omega)])), rfl, rfl⟩
              · refine lv_lload hx hb dX12_chosen_50 (lv_at hl 2 rfl) ?_
                refine lv_iload_n hx hb dX12_chosen_52 rfl (lv_at hl 4 rfl) ?_
                refine gi_i2l hx hb dX12_chosen_53 (by omega) ?_
                refine gj_sub hx hb dX12_chosen_54 ?_
                refine lv_iload hx hb dX12_chosen_55 (lv_at hl 0 rfl) ?_
                refine gi_i2l hx hb dX12_chosen_57 (by omega) ?_
                refine gj_add hx hb dX12_chosen_58 ?_
                refine gj_nm (fun x_7 ex_7 => ?_)
                refine lv_lstore (lv' := [(9, .long (jJ x_7)), (8, .int (iI iv)), (6, .long (jJ vv)), (4, .long (jJ alv)), (0, .long (jJ a1)), (2, .int (iI a2)), (3, .int (iI a3))]) hx hb dX12_chosen_59 hl (by decide) rfl (fun ls hl => ?_)
                refine lv_lload hx hb dX12_chosen_61 (lv_at hl 2 rfl) ?_
                refine lv_ldc2 (v := 1000000000000) hx hb S.2.2.2.1 (S.2.2.2.2 _ wm_2044) dX12_chosen_63 ?_
                refine gj_as 1000000000000 (by decide) ?_
                refine gj_cmp_gt (tgt := 82) hx hb dX12_chosen_66 dX12_chosen_67 (by decide) (by omega) (by omega) (fun c_8 => ?_) (fun c_8 => ?_)
                · refine lv_ldc2 (v := 1000000000000) hx hb S.2.2.2.1 (S.2.2.2.2 _ wm_2044) dX12_chosen_82 ?_
                  refine gj_as 1000000000000 (by decide) ?_
                  exact g_lret S hr hlk hG (by omega) dX12_chosen_85 ⟨Nat.le_of_ble_eq_true rfl, Nat.le_of_ble_eq_true rfl⟩ ⟨congrArg jJ (by rw [if_neg (by omega), hal.1, if_neg (by omega), ← hfv]; first | (rw [show (a2 + 1 - iv).toNat = 0 by omega]; simp only [chG]; try (subst_vars; rfl)) | (rw [show (a2 + 1 - iv).toNat = (a2 - iv).toNat + 1 by omega]; simp only [chG]; rw [if_pos (by subst_vars; omega)])), rfl, rfl⟩
                · refine lv_lload hx hb dX12_chosen_70 (lv_at hl 2 rfl) ?_
                  refine lv_ldc2 (v := 9223372036854775807) hx hb S.2.2.2.1 (S.2.2.2.2 _ wm_2045) dX12_chosen_72 ?_
                  refine gj_as 9223372036854775807 (by decide) ?_
                  refine lv_lload hx hb dX12_chosen_75 (lv_at hl 0 rfl) ?_
                  refine gj_div hx hb dX12_chosen_77 (by omega) (by omega) ?_
                  have dv_9 : 0 ≤ 9223372036854775807 / x_7 := Int.ediv_nonneg (by omega) (by omega)
                  have dv_92 : 9223372036854775807 / x_7 ≤ 9223372036854775807 := Int.ediv_le_self _ (by omega)
                  refine gj_nm (fun x_10 ex_10 => ?_)
                  refine gj_cmp_le (tgt := 86) hx hb dX12_chosen_78 dX12_chosen_79 (by decide) (by omega) (by omega) (fun c_11 => ?_) (fun c_11 => ?_)
                  · refine lv_lload hx hb dX12_chosen_86 (lv_at hl 2 rfl) ?_
                    refine lv_lload hx hb dX12_chosen_88 (lv_at hl 0 rfl) ?_
                    have hq1 : 0 ≤ vv * x_7 := Int.mul_nonneg (by omega) (by omega)
                    have hq2 : vv * x_7 ≤ 9223372036854775807 := mul_le_of_div (by omega) (by omega)
                    refine gj_mul hx hb dX12_chosen_90 ?_
                    refine lv_iload hx hb dX12_chosen_91 (lv_at hl 1 rfl) ?_
                    refine gi_i2l hx hb dX12_chosen_93 (by omega) ?_
                    refine gj_div hx hb dX12_chosen_94 (by omega) (by omega) ?_
                    have dv_12 : 0 ≤ (vv * x_7) / iv := Int.ediv_nonneg (by omega) (by omega)
                    have dv_122 : (vv * x_7) / iv ≤ (vv * x_7) := Int.ediv_le_self _ (by omega)
                    refine gj_nm (fun x_13 ex_13 => ?_)
                    refine lv_lstore (lv' := [(6, .long (jJ x_13)), (9, .long (jJ x_7)), (8, .int (iI iv)), (4, .long (jJ alv)), (0, .long (jJ a1)), (2, .int (iI a2)), (3, .int (iI a3))]) hx hb dX12_chosen_95 hl (by decide) rfl (fun ls hl => ?_)
                    refine lv_iinc (v := iI (iv + 1)) (lv' := [(8, .int (iI (iv + 1))), (6, .long (jJ x_13)), (9, .long (jJ x_7)), (4, .long (jJ alv)), (0, .long (jJ a1)), (2, .int (iI a2)), (3, .int (iI a3))]) hx hb dX12_chosen_97 hl (k := 2) rfl ((iI_add iv (1)).trans (congrArg iI (by omega))) (by decide) rfl (fun ls hl => ?_)
                    refine lv_goto (tgt := 44) hx hb dX12_chosen_100 (by decide) ?_
                    exact ih44 (iv + 1) x_13 alv _ _ ls (by omega) (by omega) (by omega) (by rw [← hfv, show (a2 + 1 - iv).toNat = (a2 + 1 - (iv + 1)).toNat + 1 by omega]; simp only [chG]; rw [if_neg (by subst_vars; omega)]; try (subst_vars; rfl)) hG (lv_sub hl [0, 1, 3, 4, 5, 6] rfl)
                  · refine lv_ldc2 (v := 1000000000000) hx hb S.2.2.2.1 (S.2.2.2.2 _ wm_2044) dX12_chosen_82 ?_
                    refine gj_as 1000000000000 (by decide) ?_
                    exact g_lret S hr hlk hG (by omega) dX12_chosen_85 ⟨Nat.le_of_ble_eq_true rfl, Nat.le_of_ble_eq_true rfl⟩ ⟨congrArg jJ (by rw [if_neg (by omega), hal.1, if_neg (by omega), ← hfv]; first | (rw [show (a2 + 1 - iv).toNat = 0 by omega]; simp only [chG]; try (subst_vars; rfl)) | (rw [show (a2 + 1 - iv).toNat = (a2 - iv).toNat + 1 by omega]; simp only [chG]; rw [if_pos (by subst_vars; omega)])), rfl, rfl⟩
          exact loop44 (Int.toNat (9 - 1) + 1) 1 1 x_2 _ _ ls (by omega) (by omega) (by subst_vars; first | (rw [if_pos (by omega)]; omega) | (rw [if_neg (by omega)]; omega)) (by rw [show (a2 + 1 - 1).toNat = a2.toNat by omega]) hG (lv_sub hl [0, 1, 2, 3, 4, 5] rfl)
        · refine lv_lconst (v := jJ 0) hx hb dX12_chosen_36 (by decide) ?_
          exact g_lret S hr hlk hG (by omega) dX12_chosen_37 ⟨Nat.le_of_ble_eq_true rfl, Nat.le_of_ble_eq_true rfl⟩ ⟨congrArg jJ (by subst_vars; first | (rw [if_pos (by omega)]; done) | (rw [if_neg (by omega), if_pos (by first | omega | ((repeat' split) <;> omega))])), rfl, rfl⟩
    · refine lv_lconst (v := jJ 1) hx hb dX12_chosen_20 (by decide) ?_
      exact g_lret S hr hlk hG (by omega) dX12_chosen_21 ⟨Nat.le_of_ble_eq_true rfl, Nat.le_of_ble_eq_true rfl⟩ ⟨congrArg jJ (by subst_vars; first | (rw [if_pos (by omega)]; done) | (rw [if_neg (by omega), if_pos (by first | omega | ((repeat' split) <;> omega))])), rfl, rfl⟩
  · refine lv_lload_n hx hb dX12_chosen_4 rfl (lv_at hl 0 rfl) ?_
    refine lv_goto (tgt := 14) hx hb dX12_chosen_5 (by decide) ?_
    refine lv_lstore (lv' := [(4, .long (jJ a1)), (0, .long (jJ a1)), (2, .int (iI a2)), (3, .int (iI a3))]) hx hb dX12_chosen_14 hl (by decide) rfl (fun ls hl => ?_)
    refine lv_iload_n hx hb dX12_chosen_16 rfl (lv_at hl 2 rfl) ?_
    refine gi_if_ne (tgt := 22) hx hb dX12_chosen_17 (by decide) (by omega) (fun c_14 => ?_) (fun c_14 => ?_)
    · refine lv_lload_n hx hb dX12_chosen_22 rfl (lv_at hl 1 rfl) ?_
      refine lv_lconst (v := jJ 0) hx hb dX12_chosen_23 (by decide) ?_
      refine gj_cmp_eq (tgt := 36) hx hb dX12_chosen_24 dX12_chosen_25 (by decide) (by omega) (by omega) (fun c_15 => ?_) (fun c_15 => ?_)
      · refine lv_lconst (v := jJ 0) hx hb dX12_chosen_36 (by decide) ?_
        exact g_lret S hr hlk hG (by omega) dX12_chosen_37 ⟨Nat.le_of_ble_eq_true rfl, Nat.le_of_ble_eq_true rfl⟩ ⟨congrArg jJ (by subst_vars; first | (rw [if_pos (by omega)]; done) | (rw [if_neg (by omega), if_pos (by first | omega | ((repeat' split) <;> omega))])), rfl, rfl⟩
      · refine lv_lload hx hb dX12_chosen_28 (lv_at hl 0 rfl) ?_
        refine lv_iload_n hx hb dX12_chosen_30 rfl (lv_at hl 2 rfl) ?_
        refine gi_i2l hx hb dX12_chosen_31 (by omega) ?_
        refine gj_cmp_ge (tgt := 38) hx hb dX12_chosen_32 dX12_chosen_33 (by decide) (by omega) (by omega) (fun c_16 => ?_) (fun c_16 => ?_)
        · refine lv_lconst (v := jJ 1) hx hb dX12_chosen_38 (by decide) ?_
          refine lv_lstore (lv' := [(6, .long (jJ 1)), (4, .long (jJ a1)), (0, .long (jJ a1)), (2, .int (iI a2)), (3, .int (iI a3))]) hx hb dX12_chosen_39 hl (by decide) rfl (fun ls hl => ?_)
          refine lv_iconst (v := iI 1) hx hb dX12_chosen_41 (by decide) ?_
          refine lv_istore (lv' := [(8, .int (iI 1)), (6, .long (jJ 1)), (4, .long (jJ a1)), (0, .long (jJ a1)), (2, .int (iI a2)), (3, .int (iI a3))]) hx hb dX12_chosen_42 hl (by decide) rfl (fun ls hl => ?_)
          have loop44 : ∀ (t44 : Nat) (iv : Int) (vv : Int) (alv : Int) (H : Heap) (locs : List Loc) (ls : Array Slot), Int.toNat (9 - iv) < t44 → (1 ≤ iv ∧ iv ≤ a2 + 1 ∧ 0 ≤ vv ∧ vv ≤ 9223372036854775807) → ((if a3 = 0 then a1 + a2 - 1 else a1) = alv ∧ a2 ≤ alv ∧ ¬ a1 = 0 ∧ ¬ a2 = 0 ∧ alv ≤ 1000000000100) → (chG alv a2 (a2 + 1 - iv).toNat iv vv = chG alv a2 a2.toNat 1 1) → gW D cy b n s H locs E → lv_has ls 11 [(8, .int (iI iv)), (6, .long (jJ vv)), (4, .long (jJ alv)), (0, .long (jJ a1)), (2, .int (iI a2)), (3, .int (iI a3))] → W p l e (gRm 1 0 0) s m args below meth c H locs 0 0 (gQL D cy b s args below 0 0 (fun r u => r = jJ (if a2 = 0 then 1 else if a1 = 0 ∨ (if a3 = 0 then a1 + a2 - 1 else a1) < a2 then 0 else chG (if a3 = 0 then a1 + a2 - 1 else a1) a2 a2.toNat 1 1) ∧ u.1 = n ∧ u.2 = E)) (F0 m 44 ls []) := by
            intro t44
            induction t44 with
            | zero => intro iv vv alv H locs ls hm44; exact absurd hm44 (Nat.not_lt_zero _)
            | succ t44 ih44 =>
              intro iv vv alv H locs ls hm44 hiv hal hfv  hG hl
              refine lv_iload hx hb dX12_chosen_44 (lv_at hl 0 rfl) ?_
              refine lv_iload_n hx hb dX12_chosen_46 rfl (lv_at hl 4 rfl) ?_
              refine gi_icmp_gt (tgt := 103) hx hb dX12_chosen_47 (by decide) (by omega) (by omega) (fun c_17 => ?_) (fun c_17 => ?_)
              · refine lv_ldc2 (v := 1000000000000) hx hb S.2.2.2.1 (S.2.2.2.2 _ wm_2044) dX12_chosen_103 ?_
                refine gj_as 1000000000000 (by decide) ?_
                refine lv_lload hx hb dX12_chosen_106 (lv_at hl 1 rfl) ?_
                refine gj_min S wm_2046 wm_1002 wm_189 wm_1003 hl.1 dX12_chosen_108 ⟨Nat.le_of_ble_eq_true rfl, Nat.le_of_ble_eq_true rfl, Nat.le_of_ble_eq_true rfl, Nat.le_of_ble_eq_true rfl⟩ (by omega) (by omega) ?_
                exact g_lret S hr hlk hG (by omega) dX12_chosen_111 ⟨Nat.le_of_ble_eq_true rfl, Nat.le_of_ble_eq_true rfl⟩ ⟨congrArg jJ (by rw [if_neg (by omega), hal.1, if_neg (by omega), ← hfv]; first | (rw [show (a2 + 1 - iv).toNat = 0 by omega]; simp only [chG]; try (subst_vars; rfl)) | (rw [show (a2 + 1 - iv).toNat = (a2 - iv).toNat + 1 by omega]; simp only [chG]; rw [if_pos (by subst_vars; omega)])), rfl, rfl⟩
              · refine lv_lload hx hb dX12_chosen_50 (lv_at hl 2 rfl) ?_
                refine lv_iload_n hx hb dX12_chosen_52 rfl (lv_at hl 4 rfl) ?_
                refine gi_i2l hx hb dX12_chosen_53 (by omega) ?_
                refine gj_sub hx hb dX12_chosen_54 ?_
                refine lv_iload hx hb dX12_chosen_55 (lv_at hl 0 rfl) ?_
                refine gi_i2l hx hb dX12_chosen_57 (by omega) ?_
                refine gj_add hx hb dX12_chosen_58 ?_
                refine gj_nm (fun x_18 ex_18 => ?_)
                refine lv_lstore (lv' := [(9, .long (jJ x_18)), (8, .int (iI iv)), (6, .long (jJ vv)), (4, .long (jJ alv)), (0, .long (jJ a1)), (2, .int (iI a2)), (3, .int (iI a3))]) hx hb dX12_chosen_59 hl (by decide) rfl (fun ls hl => ?_)
                refine lv_lload hx hb dX12_chosen_61 (lv_at hl 2 rfl) ?_
                refine lv_ldc2 (v := 1000000000000) hx hb S.2.2.2.1 (S.2.2.2.2 _ wm_2044) dX12_chosen_63 ?_
                refine gj_as 1000000000000 (by decide) ?_
                refine gj_cmp_gt (tgt := 82) hx hb dX12_chosen_66 dX12_chosen_67 (by decide) (by omega) (by omega) (fun c_19 => ?_) (fun c_19 => ?_)
                · refine lv_ldc2 (v := 1000000000000) hx hb S.2.2.2.1 (S.2.2.2.2 _ wm_2044) dX12_chosen_82 ?_
                  refine gj_as 1000000000000 (by decide) ?_
                  exact g_lret S hr hlk hG (by omega) dX12_chosen_85 ⟨Nat.le_of_ble_eq_true rfl, Nat.le_of_ble_eq_true rfl⟩ ⟨congrArg jJ (by rw [if_neg (by omega), hal.1, if_neg (by omega), ← hfv]; first | (rw [show (a2 + 1 - iv).toNat = 0 by omega]; simp only [chG]; try (subst_vars; rfl)) | (rw [show (a2 + 1 - iv).toNat = (a2 - iv).toNat + 1 by omega]; simp only [chG]; rw [if_pos (by subst_vars; omega)])), rfl, rfl⟩
                · refine lv_lload hx hb dX12_chosen_70 (lv_at hl 2 rfl) ?_
                  refine lv_ldc2 (v := 9223372036854775807) hx hb S.2.2.2.1 (S.2.2.2.2 _ wm_2045) dX12_chosen_72 ?_
                  refine gj_as 9223372036854775807 (by decide) ?_
                  refine lv_lload hx hb dX12_chosen_75 (lv_at hl 0 rfl) ?_
                  refine gj_div hx hb dX12_chosen_77 (by omega) (by omega) ?_
                  have dv_20 : 0 ≤ 9223372036854775807 / x_18 := Int.ediv_nonneg (by omega) (by omega)
                  have dv_202 : 9223372036854775807 / x_18 ≤ 9223372036854775807 := Int.ediv_le_self _ (by omega)
                  refine gj_nm (fun x_21 ex_21 => ?_)
                  refine gj_cmp_le (tgt := 86) hx hb dX12_chosen_78 dX12_chosen_79 (by decide) (by omega) (by omega) (fun c_22 => ?_) (fun c_22 => ?_)
                  · refine lv_lload hx hb dX12_chosen_86 (lv_at hl 2 rfl) ?_
                    refine lv_lload hx hb dX12_chosen_88 (lv_at hl 0 rfl) ?_
                    have hq1 : 0 ≤ vv * x_18 := Int.mul_nonneg (by omega) (by omega)
                    have hq2 : vv * x_18 ≤ 9223372036854775807 := mul_le_of_div (by omega) (by omega)
                    refine gj_mul hx hb dX12_chosen_90 ?_
                    refine lv_iload hx hb dX12_chosen_91 (lv_at hl 1 rfl) ?_
                    refine gi_i2l hx hb dX12_chosen_93 (by omega) ?_
                    refine gj_div hx hb dX12_chosen_94 (by omega) (by omega) ?_
                    have dv_23 : 0 ≤ (vv * x_18) / iv := Int.ediv_nonneg (by omega) (by omega)
                    have dv_232 : (vv * x_18) / iv ≤ (vv * x_18) := Int.ediv_le_self _ (by omega)
                    refine gj_nm (fun x_24 ex_24 => ?_)
                    refine lv_lstore (lv' := [(6, .long (jJ x_24)), (9, .long (jJ x_18)), (8, .int (iI iv)), (4, .long (jJ alv)), (0, .long (jJ a1)), (2, .int (iI a2)), (3, .int (iI a3))]) hx hb dX12_chosen_95 hl (by decide) rfl (fun ls hl => ?_)
                    refine lv_iinc (v := iI (iv + 1)) (lv' := [(8, .int (iI (iv + 1))), (6, .long (jJ x_24)), (9, .long (jJ x_18)), (4, .long (jJ alv)), (0, .long (jJ a1)), (2, .int (iI a2)), (3, .int (iI a3))]) hx hb dX12_chosen_97 hl (k := 2) rfl ((iI_add iv (1)).trans (congrArg iI (by omega))) (by decide) rfl (fun ls hl => ?_)
                    refine lv_goto (tgt := 44) hx hb dX12_chosen_100 (by decide) ?_
                    exact ih44 (iv + 1) x_24 alv _ _ ls (by omega) (by omega) (by omega) (by rw [← hfv, show (a2 + 1 - iv).toNat = (a2 + 1 - (iv + 1)).toNat + 1 by omega]; simp only [chG]; rw [if_neg (by subst_vars; omega)]; try (subst_vars; rfl)) hG (lv_sub hl [0, 1, 3, 4, 5, 6] rfl)
                  · refine lv_ldc2 (v := 1000000000000) hx hb S.2.2.2.1 (S.2.2.2.2 _ wm_2044) dX12_chosen_82 ?_
                    refine gj_as 1000000000000 (by decide) ?_
                    exact g_lret S hr hlk hG (by omega) dX12_chosen_85 ⟨Nat.le_of_ble_eq_true rfl, Nat.le_of_ble_eq_true rfl⟩ ⟨congrArg jJ (by rw [if_neg (by omega), hal.1, if_neg (by omega), ← hfv]; first | (rw [show (a2 + 1 - iv).toNat = 0 by omega]; simp only [chG]; try (subst_vars; rfl)) | (rw [show (a2 + 1 - iv).toNat = (a2 - iv).toNat + 1 by omega]; simp only [chG]; rw [if_pos (by subst_vars; omega)])), rfl, rfl⟩
          exact loop44 (Int.toNat (9 - 1) + 1) 1 1 a1 _ _ ls (by omega) (by omega) (by subst_vars; first | (rw [if_pos (by omega)]; omega) | (rw [if_neg (by omega)]; omega)) (by rw [show (a2 + 1 - 1).toNat = a2.toNat by omega]) hG (lv_sub hl [0, 1, 2, 3, 4, 5] rfl)
        · refine lv_lconst (v := jJ 0) hx hb dX12_chosen_36 (by decide) ?_
          exact g_lret S hr hlk hG (by omega) dX12_chosen_37 ⟨Nat.le_of_ble_eq_true rfl, Nat.le_of_ble_eq_true rfl⟩ ⟨congrArg jJ (by subst_vars; first | (rw [if_pos (by omega)]; done) | (rw [if_neg (by omega), if_pos (by first | omega | ((repeat' split) <;> omega))])), rfl, rfl⟩
    · refine lv_lconst (v := jJ 1) hx hb dX12_chosen_20 (by decide) ?_
      exact g_lret S hr hlk hG (by omega) dX12_chosen_21 ⟨Nat.le_of_ble_eq_true rfl, Nat.le_of_ble_eq_true rfl⟩ ⟨congrArg jJ (by subst_vars; first | (rw [if_pos (by omega)]; done) | (rw [if_neg (by omega), if_pos (by first | omega | ((repeat' split) <;> omega))])), rfl, rfl⟩
theorem wS_12_539 : gWS "GrownKindsModel" 539 yX12_common cX12_common 5 (some .int) := ⟨wm_2381, wm_2382, wm_187, wm_2383, by decide +kernel, by decide +kernel⟩
set_option maxHeartbeats 4000000 in
set_option maxRecDepth 100000 in
theorem wX12_part (l : Launch) {D : va_G} {cy : Nat → ClassId} {b n : Nat} (hn : 105 ≤ n) {E : Nat → va_E}   (a1 : Int) (a2 : Int) (a3 : Int) (hpa : 0 ≤ a1 ∧ a1 ≤ 100000 ∧ 0 < a2 ∧ a2 ≤ 100000) (hgc : 0 < gcG (a2.toNat + 1) a1 a2 ∧ gcG (a2.toNat + 1) a1 a2 ≤ 100000) (hb1 : (-2147483648 ≤ a1 ∧ a1 ≤ 2147483647)) (hb2 : (-2147483648 ≤ a2 ∧ a2 ≤ 2147483647)) (hb3 : (-2147483648 ≤ a3 ∧ a3 ≤ 2147483647)) : gI l yX12_part cX12_part 3 (some .int) 1 0 0 D cy b n E [.int (iI a1), .int (iI a2), .int (iI a3)] (fun r u => r = iI ((if a3 = 0 then a1 else a2) / gcG (a2.toNat + 1) a1 a2) ∧ u.1 = n ∧ u.2 = E) := by
  refine gI_of (by decide) (Nat.le_of_ble_eq_true rfl) ?_
  intro p e s m args below meth c S hr hlk hin hsz ls hl hG
  have hx := S.1
  have hb := S.2.1
  have hl : lv_has ls 3 [(0, .int (iI a1)), (1, .int (iI a2)), (2, .int (iI a3))] := hl
  refine lv_iload_n hx hb dX12_part_0 rfl (lv_at hl 2 rfl) ?_
  refine gi_if_ne (tgt := 8) hx hb dX12_part_1 (by decide) (by omega) (fun c_1 => ?_) (fun c_1 => ?_)
  · refine lv_iload_n hx hb dX12_part_8 rfl (lv_at hl 1 rfl) ?_
    refine lv_iload_n hx hb dX12_part_9 rfl (lv_at hl 0 rfl) ?_
    refine lv_iload_n hx hb dX12_part_10 rfl (lv_at hl 1 rfl) ?_
    refine g_si (As := [.int (iI a1), .int (iI a2)]) (rest := [.int (iI a2)]) S hG (by omega) (wX12_common l hn  a1 a2 (by omega) (by omega) (by omega)) wS_12_539 dX12_part_11 rfl hl.1 (ar := 2) (by decide +kernel) rfl ⟨Nat.le_of_ble_eq_true rfl, Nat.le_of_ble_eq_true rfl, Nat.le_of_ble_eq_true rfl, Nat.le_of_ble_eq_true rfl⟩ (Nat.le_of_ble_eq_true rfl) (fun r_2 u_3 H locs hp_4 hG => ?_)
    obtain ⟨nu_3, Eu_3⟩ := u_3
    dsimp only at hp_4 hG
    obtain ⟨rfl, en_5, ee_6⟩ := hp_4
    have hG := gW_eq2 hG en_5 ee_6
    refine gi_nm (fun x_7 ex_7 => ?_)
    refine gi_div hx hb dX12_part_14 (by omega) (by omega) ?_
    have dv_8 : 0 ≤ a2 / x_7 := Int.ediv_nonneg (by omega) (by omega)
    have dv_82 : a2 / x_7 ≤ a2 := Int.ediv_le_self _ (by omega)
    refine gi_nm (fun x_9 ex_9 => ?_)
    exact g_iret S hr hlk hG (by omega) dX12_part_15 ⟨Nat.le_of_ble_eq_true rfl, Nat.le_of_ble_eq_true rfl⟩ ⟨congrArg iI (by subst_vars; first | (rw [if_pos (by omega)]) | (rw [if_neg (by omega)])), rfl, rfl⟩
  · refine lv_iload_n hx hb dX12_part_4 rfl (lv_at hl 0 rfl) ?_
    refine lv_goto (tgt := 9) hx hb dX12_part_5 (by decide) ?_
    refine lv_iload_n hx hb dX12_part_9 rfl (lv_at hl 0 rfl) ?_
    refine lv_iload_n hx hb dX12_part_10 rfl (lv_at hl 1 rfl) ?_
    refine g_si (As := [.int (iI a1), .int (iI a2)]) (rest := [.int (iI a1)]) S hG (by omega) (wX12_common l hn  a1 a2 (by omega) (by omega) (by omega)) wS_12_539 dX12_part_11 rfl hl.1 (ar := 2) (by decide +kernel) rfl ⟨Nat.le_of_ble_eq_true rfl, Nat.le_of_ble_eq_true rfl, Nat.le_of_ble_eq_true rfl, Nat.le_of_ble_eq_true rfl⟩ (Nat.le_of_ble_eq_true rfl) (fun r_10 u_11 H locs hp_12 hG => ?_)
    obtain ⟨nu_11, Eu_11⟩ := u_11
    dsimp only at hp_12 hG
    obtain ⟨rfl, en_13, ee_14⟩ := hp_12
    have hG := gW_eq2 hG en_13 ee_14
    refine gi_nm (fun x_15 ex_15 => ?_)
    refine gi_div hx hb dX12_part_14 (by omega) (by omega) ?_
    have dv_16 : 0 ≤ a1 / x_15 := Int.ediv_nonneg (by omega) (by omega)
    have dv_162 : a1 / x_15 ≤ a1 := Int.ediv_le_self _ (by omega)
    refine gi_nm (fun x_17 ex_17 => ?_)
    exact g_iret S hr hlk hG (by omega) dX12_part_15 ⟨Nat.le_of_ble_eq_true rfl, Nat.le_of_ble_eq_true rfl⟩ ⟨congrArg iI (by subst_vars; first | (rw [if_pos (by omega)]) | (rw [if_neg (by omega)])), rfl, rfl⟩
theorem wS_12_228 : gWS "GrownKindsModel" 228 yX12_has cX12_has 2 (some .boolean) := ⟨wm_1949, wm_1950, wm_187, wm_1951, by decide +kernel, by decide +kernel⟩
set_option maxHeartbeats 4000000 in
set_option maxRecDepth 100000 in
theorem wX12_isOff (l : Launch) {D : va_G} {cy : Nat → ClassId} {b n : Nat} (hn : 105 ≤ n) {E : Nat → va_E}  {taped83 faultKind83 faultPlace83 at83 begin83 token83 value83 bad83 long083 wanted83 found83 deepMost83 letterAsked83 letterMany83 turns83 topTerm83 top83 left83 nodes83 sourceLong83 read83 toldSize83 toldRank83 boxSize83 isDealing83 dealKind83 dealLow83 dealMany83 dealLeft83 dealRound83 dealX83 : Int} {mm : Nat → Int} (h83 : E 83 = O83 b taped83 faultKind83 faultPlace83 at83 begin83 token83 value83 bad83 long083 wanted83 found83 deepMost83 letterAsked83 letterMany83 turns83 topTerm83 top83 left83 nodes83 sourceLong83 read83 toldSize83 toldRank83 boxSize83 isDealing83 dealKind83 dealLow83 dealMany83 dealLeft83 dealRound83 dealX83) (h84 : E 84 = cI cy 228 mm) (a1 : Int) (a2 : Int) (hmm : ∀ j, -1000000 ≤ mm j ∧ mm j ≤ 1000000) (hio : 0 ≤ a1 ∧ a1 < 30 ∧ 0 ≤ a2 ∧ a2 ≤ 31) (hb1 : (-2147483648 ≤ a1 ∧ a1 ≤ 2147483647)) (hb2 : (-2147483648 ≤ a2 ∧ a2 ≤ 2147483647)) : gI l yX12_isOff cX12_isOff 3 (some .boolean) 1 0 0 D cy b n E [.ref (b + 83), .int (iI a1), .int (iI a2)] (fun r u => r = iI (if a1 < 6 ∧ an (shr (mm (6 + a1).toNat) a2) 1 = 1 then 1 else 0) ∧ u.1 = n ∧ u.2 = E) := by
  refine gI_of (by decide) (Nat.le_of_ble_eq_true rfl) ?_
  intro p e s m args below meth c S hr hlk hin hsz ls hl hG
  have hx := S.1
  have hb := S.2.1
  have hl : lv_has ls 3 [(0, .ref (b + 83)), (1, .int (iI a1)), (2, .int (iI a2))] := hl
  refine lv_iload_n hx hb dX12_isOff_0 rfl (lv_at hl 1 rfl) ?_
  refine lv_bipush (v := iI 6) hx hb dX12_isOff_1 (by decide) ?_
  refine gi_icmp_ge (tgt := 26) hx hb dX12_isOff_3 (by decide) (by omega) (by omega) (fun c_1 => ?_) (fun c_1 => ?_)
  · refine lv_iconst (v := iI 0) hx hb dX12_isOff_26 (by decide) ?_
    exact g_zret S hr hlk hG (by omega) dX12_isOff_27 ⟨Nat.le_of_ble_eq_true rfl, Nat.le_of_ble_eq_true rfl⟩ (nar_z (by omega)) ⟨congrArg iI (by subst_vars; first | rfl | omega | ((repeat' split) <;> omega)), rfl, rfl⟩
  · refine lv_aload_n hx hb dX12_isOff_6 rfl (lv_at hl 0 rfl) ?_
    refine g_get S hG 83 0 (show gEof hG 83 = O83 b taped83 faultKind83 faultPlace83 at83 begin83 token83 value83 bad83 long083 wanted83 found83 deepMost83 letterAsked83 letterMany83 turns83 topTerm83 top83 left83 nodes83 sourceLong83 read83 toldSize83 toldRank83 boxSize83 isDealing83 dealKind83 dealLow83 dealMany83 dealLeft83 dealRound83 dealX83 from h83) cpX12 wm_1674 dX12_isOff_7 rfl (by omega) (by decide) ?_
    refine lv_bipush (v := iI 6) hx hb dX12_isOff_10 (by decide) ?_
    refine lv_iload_n hx hb dX12_isOff_12 rfl (lv_at hl 1 rfl) ?_
    refine gi_add hx hb dX12_isOff_13 ?_
    refine gi_nm (fun x_2 ex_2 => ?_)
    refine gi_ald S hG 84 (show gEof hG 84 = cI cy 228 mm from h84) (by omega) dX12_isOff_14 (by omega) (by decide) ?_
    refine gi_nm (fun x_3 ex_3 => ?_)
    have bx_3 := hmm (x_2.toNat)
    refine lv_iload_n hx hb dX12_isOff_15 rfl (lv_at hl 2 rfl) ?_
    refine g_si (As := [.int (iI x_3), .int (iI a2)]) (rest := []) S hG (by omega) (wX12_has l hn  x_3 a2  (by omega) (by omega)) wS_12_228 dX12_isOff_16 rfl hl.1 (ar := 2) (by decide +kernel) rfl ⟨Nat.le_of_ble_eq_true rfl, Nat.le_of_ble_eq_true rfl, Nat.le_of_ble_eq_true rfl, Nat.le_of_ble_eq_true rfl⟩ (Nat.le_of_ble_eq_true rfl) (fun r_4 u_5 H locs hp_6 hG => ?_)
    obtain ⟨nu_5, Eu_5⟩ := u_5
    dsimp only at hp_6 hG
    obtain ⟨rfl, en_7, ee_8⟩ := hp_6
    have hG := gW_eq2 hG en_7 ee_8
    refine gi_nm (fun x_9 ex_9 => ?_)
    refine gi_if_eq (tgt := 26) hx hb dX12_isOff_19 (by decide) (by omega) (fun c_10 => ?_) (fun c_10 => ?_)
    · refine lv_iconst (v := iI 0) hx hb dX12_isOff_26 (by decide) ?_
      exact g_zret S hr hlk hG (by omega) dX12_isOff_27 ⟨Nat.le_of_ble_eq_true rfl, Nat.le_of_ble_eq_true rfl⟩ (nar_z (by omega)) ⟨congrArg iI (by subst_vars; first | rfl | omega | ((repeat' split) <;> omega)), rfl, rfl⟩
    · refine lv_iconst (v := iI 1) hx hb dX12_isOff_22 (by decide) ?_
      refine lv_goto (tgt := 27) hx hb dX12_isOff_23 (by decide) ?_
      exact g_zret S hr hlk hG (by omega) dX12_isOff_27 ⟨Nat.le_of_ble_eq_true rfl, Nat.le_of_ble_eq_true rfl⟩ (nar_z (by omega)) ⟨congrArg iI (by subst_vars; first | rfl | omega | ((repeat' split) <;> omega)), rfl, rfl⟩
