theorem dX12_in_0 : decode cX12_in 0 = .ok (.lload_n 0, 1) := by decide +kernel
theorem dX12_in_1 : decode cX12_in 1 = .ok (.lload_n 2, 1) := by decide +kernel
theorem dX12_in_2 : decode cX12_in 2 = .ok (.lcmp, 1) := by decide +kernel
theorem dX12_in_3 : decode cX12_in 3 = .ok (.ifCond .lt 14, 3) := by decide +kernel
theorem dX12_in_17 : decode cX12_in 17 = .ok (.iconst 0, 1) := by decide +kernel
theorem dX12_in_18 : decode cX12_in 18 = .ok (.ireturn, 1) := by decide +kernel
theorem dX12_in_6 : decode cX12_in 6 = .ok (.lload_n 0, 1) := by decide +kernel
theorem dX12_in_7 : decode cX12_in 7 = .ok (.lload 4, 2) := by decide +kernel
theorem dX12_in_9 : decode cX12_in 9 = .ok (.lcmp, 1) := by decide +kernel
theorem dX12_in_10 : decode cX12_in 10 = .ok (.ifCond .gt 7, 3) := by decide +kernel
theorem dX12_in_13 : decode cX12_in 13 = .ok (.iconst 1, 1) := by decide +kernel
theorem dX12_in_14 : decode cX12_in 14 = .ok (.goto 4, 3) := by decide +kernel
theorem dX12_has_0 : decode cX12_has 0 = .ok (.iload_n 0, 1) := by decide +kernel
theorem dX12_has_1 : decode cX12_has 1 = .ok (.iload_n 1, 1) := by decide +kernel
theorem dX12_has_2 : decode cX12_has 2 = .ok (.ishr, 1) := by decide +kernel
theorem dX12_has_3 : decode cX12_has 3 = .ok (.iconst 1, 1) := by decide +kernel
theorem dX12_has_4 : decode cX12_has 4 = .ok (.iand, 1) := by decide +kernel
theorem dX12_has_5 : decode cX12_has 5 = .ok (.iconst 1, 1) := by decide +kernel
theorem dX12_has_6 : decode cX12_has 6 = .ok (.if_icmp .ne 7, 3) := by decide +kernel
theorem dX12_has_13 : decode cX12_has 13 = .ok (.iconst 0, 1) := by decide +kernel
theorem dX12_has_14 : decode cX12_has 14 = .ok (.ireturn, 1) := by decide +kernel
theorem dX12_has_9 : decode cX12_has 9 = .ok (.iconst 1, 1) := by decide +kernel
theorem dX12_has_10 : decode cX12_has 10 = .ok (.goto 4, 3) := by decide +kernel
theorem dX12_bitsOf_0 : decode cX12_bitsOf 0 = .ok (.iconst 0, 1) := by decide +kernel
theorem dX12_bitsOf_1 : decode cX12_bitsOf 1 = .ok (.istore_n 1, 1) := by decide +kernel
theorem dX12_bitsOf_2 : decode cX12_bitsOf 2 = .ok (.iconst 0, 1) := by decide +kernel
theorem dX12_bitsOf_3 : decode cX12_bitsOf 3 = .ok (.istore_n 2, 1) := by decide +kernel
theorem dX12_bitsOf_4 : decode cX12_bitsOf 4 = .ok (.iload_n 2, 1) := by decide +kernel
theorem dX12_bitsOf_5 : decode cX12_bitsOf 5 = .ok (.bipush 31, 2) := by decide +kernel
theorem dX12_bitsOf_7 : decode cX12_bitsOf 7 = .ok (.if_icmp .ge 17, 3) := by decide +kernel
theorem dX12_bitsOf_10 : decode cX12_bitsOf 10 = .ok (.iload_n 1, 1) := by decide +kernel
theorem dX12_bitsOf_11 : decode cX12_bitsOf 11 = .ok (.iload_n 0, 1) := by decide +kernel
theorem dX12_bitsOf_12 : decode cX12_bitsOf 12 = .ok (.iload_n 2, 1) := by decide +kernel
theorem dX12_bitsOf_13 : decode cX12_bitsOf 13 = .ok (.ishr, 1) := by decide +kernel
theorem dX12_bitsOf_14 : decode cX12_bitsOf 14 = .ok (.iconst 1, 1) := by decide +kernel
theorem dX12_bitsOf_15 : decode cX12_bitsOf 15 = .ok (.iand, 1) := by decide +kernel
theorem dX12_bitsOf_16 : decode cX12_bitsOf 16 = .ok (.iadd, 1) := by decide +kernel
theorem dX12_bitsOf_17 : decode cX12_bitsOf 17 = .ok (.istore_n 1, 1) := by decide +kernel
theorem dX12_bitsOf_18 : decode cX12_bitsOf 18 = .ok (.iinc 2 1, 3) := by decide +kernel
theorem dX12_bitsOf_21 : decode cX12_bitsOf 21 = .ok (.goto (-17), 3) := by decide +kernel
theorem dX12_bitsOf_24 : decode cX12_bitsOf 24 = .ok (.iload_n 1, 1) := by decide +kernel
theorem dX12_bitsOf_25 : decode cX12_bitsOf 25 = .ok (.ireturn, 1) := by decide +kernel
theorem dX12_mul_0 : decode cX12_mul 0 = .ok (.lload_n 0, 1) := by decide +kernel
theorem dX12_mul_1 : decode cX12_mul 1 = .ok (.lconst 0, 1) := by decide +kernel
theorem dX12_mul_2 : decode cX12_mul 2 = .ok (.lcmp, 1) := by decide +kernel
theorem dX12_mul_3 : decode cX12_mul 3 = .ok (.ifCond .eq 9, 3) := by decide +kernel
theorem dX12_mul_12 : decode cX12_mul 12 = .ok (.lconst 0, 1) := by decide +kernel
theorem dX12_mul_13 : decode cX12_mul 13 = .ok (.lreturn, 1) := by decide +kernel
theorem dX12_mul_6 : decode cX12_mul 6 = .ok (.lload_n 2, 1) := by decide +kernel
theorem dX12_mul_7 : decode cX12_mul 7 = .ok (.lconst 0, 1) := by decide +kernel
theorem dX12_mul_8 : decode cX12_mul 8 = .ok (.lcmp, 1) := by decide +kernel
theorem dX12_mul_9 : decode cX12_mul 9 = .ok (.ifCond .ne 5, 3) := by decide +kernel
theorem dX12_mul_14 : decode cX12_mul 14 = .ok (.lload_n 0, 1) := by decide +kernel
theorem dX12_mul_15 : decode cX12_mul 15 = .ok (.lload 4, 2) := by decide +kernel
theorem dX12_mul_17 : decode cX12_mul 17 = .ok (.lload_n 2, 1) := by decide +kernel
theorem dX12_mul_18 : decode cX12_mul 18 = .ok (.ldiv, 1) := by decide +kernel
theorem dX12_mul_19 : decode cX12_mul 19 = .ok (.lcmp, 1) := by decide +kernel
theorem dX12_mul_20 : decode cX12_mul 20 = .ok (.ifCond .le 8, 3) := by decide +kernel
theorem dX12_mul_28 : decode cX12_mul 28 = .ok (.lload_n 0, 1) := by decide +kernel
theorem dX12_mul_29 : decode cX12_mul 29 = .ok (.lload_n 2, 1) := by decide +kernel
theorem dX12_mul_30 : decode cX12_mul 30 = .ok (.lmul, 1) := by decide +kernel
theorem dX12_mul_31 : decode cX12_mul 31 = .ok (.lreturn, 1) := by decide +kernel
theorem dX12_mul_23 : decode cX12_mul 23 = .ok (.lload 4, 2) := by decide +kernel
theorem dX12_mul_25 : decode cX12_mul 25 = .ok (.goto 6, 3) := by decide +kernel
theorem dX12_add_0 : decode cX12_add 0 = .ok (.lload 4, 2) := by decide +kernel
theorem dX12_add_2 : decode cX12_add 2 = .ok (.lload_n 0, 1) := by decide +kernel
theorem dX12_add_3 : decode cX12_add 3 = .ok (.lload_n 2, 1) := by decide +kernel
theorem dX12_add_4 : decode cX12_add 4 = .ok (.ladd, 1) := by decide +kernel
theorem dX12_add_5 : decode cX12_add 5 = .ok (.invokestatic 1, 3) := by decide +kernel
theorem wm_2046 : (Jvm.Cond.methodLink "GrownKindsModel" (1 : Nat) ({ cls := "java/lang/Math", name := "min", desc := "(JJ)J" } : Jvm.MethodName)) ∈ gT := gT_in (List.mem_of_getElem? (i := 2046) (by decide +kernel)) (by decide +kernel)
theorem wm_1149 : (Jvm.Cond.static ({ cls := "java/lang/Math", name := "min", desc := "(JJ)J" } : Jvm.MethodName)) ∈ gT := gT_in (List.mem_of_getElem? (i := 1149) (by decide +kernel)) (by decide +kernel)
theorem wm_190 : (Jvm.Cond.initialized "java/lang/Math") ∈ gT := gT_in (List.mem_of_getElem? (i := 190) (by decide +kernel)) (by decide +kernel)
theorem wm_1150 : (Jvm.Cond.code ({ cls := "java/lang/Math", name := "min", desc := "(JJ)J" } : Jvm.MethodName) prog_17_method_70_code (4 : Nat) (Option.some Jvm.ClassFile.FieldType.long)) ∈ gT := gT_in (List.mem_of_getElem? (i := 1150) (by decide +kernel)) (by decide +kernel)
theorem dX12_add_8 : decode cX12_add 8 = .ok (.lreturn, 1) := by decide +kernel
theorem dX12_place_0 : decode cX12_place 0 = .ok (.iload_n 0, 1) := by decide +kernel
theorem dX12_place_1 : decode cX12_place 1 = .ok (.bipush 8, 2) := by decide +kernel
theorem dX12_place_3 : decode cX12_place 3 = .ok (.imul, 1) := by decide +kernel
theorem dX12_place_4 : decode cX12_place 4 = .ok (.iload_n 1, 1) := by decide +kernel
theorem dX12_place_5 : decode cX12_place 5 = .ok (.iadd, 1) := by decide +kernel
theorem dX12_place_6 : decode cX12_place 6 = .ok (.bipush 8, 2) := by decide +kernel
theorem dX12_place_8 : decode cX12_place 8 = .ok (.imul, 1) := by decide +kernel
theorem dX12_place_9 : decode cX12_place 9 = .ok (.iload_n 2, 1) := by decide +kernel
theorem dX12_place_10 : decode cX12_place 10 = .ok (.iadd, 1) := by decide +kernel
theorem dX12_place_11 : decode cX12_place 11 = .ok (.ireturn, 1) := by decide +kernel
theorem dX12_less_0 : decode cX12_less 0 = .ok (.iload_n 0, 1) := by decide +kernel
theorem dX12_less_1 : decode cX12_less 1 = .ok (.ifCond .ge 7, 3) := by decide +kernel
theorem dX12_less_8 : decode cX12_less 8 = .ok (.iload_n 0, 1) := by decide +kernel
theorem dX12_less_9 : decode cX12_less 9 = .ok (.iconst 1, 1) := by decide +kernel
theorem dX12_less_10 : decode cX12_less 10 = .ok (.isub, 1) := by decide +kernel
theorem dX12_less_11 : decode cX12_less 11 = .ok (.ireturn, 1) := by decide +kernel
theorem dX12_less_4 : decode cX12_less 4 = .ok (.iconst (-1), 1) := by decide +kernel
theorem dX12_less_5 : decode cX12_less 5 = .ok (.goto 6, 3) := by decide +kernel
theorem dX12_turnsOf_0 : decode cX12_turnsOf 0 = .ok (.iload_n 0, 1) := by decide +kernel
theorem dX12_turnsOf_1 : decode cX12_turnsOf 1 = .ok (.iconst 3, 1) := by decide +kernel
theorem dX12_turnsOf_2 : decode cX12_turnsOf 2 = .ok (.if_icmp .ge 7, 3) := by decide +kernel
theorem dX12_turnsOf_9 : decode cX12_turnsOf 9 = .ok (.iload_n 0, 1) := by decide +kernel
theorem dX12_turnsOf_10 : decode cX12_turnsOf 10 = .ok (.iconst 5, 1) := by decide +kernel
theorem dX12_turnsOf_11 : decode cX12_turnsOf 11 = .ok (.if_icmp .ne 7, 3) := by decide +kernel
theorem dX12_turnsOf_18 : decode cX12_turnsOf 18 = .ok (.iload_n 0, 1) := by decide +kernel
theorem dX12_turnsOf_19 : decode cX12_turnsOf 19 = .ok (.bipush 7, 2) := by decide +kernel
theorem dX12_turnsOf_21 : decode cX12_turnsOf 21 = .ok (.if_icmp .ne 8, 3) := by decide +kernel
theorem dX12_turnsOf_29 : decode cX12_turnsOf 29 = .ok (.iconst 2, 1) := by decide +kernel
theorem dX12_turnsOf_30 : decode cX12_turnsOf 30 = .ok (.ireturn, 1) := by decide +kernel
theorem dX12_turnsOf_24 : decode cX12_turnsOf 24 = .ok (.bipush 6, 2) := by decide +kernel
theorem dX12_turnsOf_26 : decode cX12_turnsOf 26 = .ok (.goto 4, 3) := by decide +kernel
theorem dX12_turnsOf_14 : decode cX12_turnsOf 14 = .ok (.iconst 4, 1) := by decide +kernel
theorem dX12_turnsOf_15 : decode cX12_turnsOf 15 = .ok (.goto 15, 3) := by decide +kernel
theorem dX12_turnsOf_5 : decode cX12_turnsOf 5 = .ok (.iconst 1, 1) := by decide +kernel
theorem dX12_turnsOf_6 : decode cX12_turnsOf 6 = .ok (.goto 24, 3) := by decide +kernel
theorem dX12_common_0 : decode cX12_common 0 = .ok (.iload_n 0, 1) := by decide +kernel
theorem dX12_common_1 : decode cX12_common 1 = .ok (.istore_n 2, 1) := by decide +kernel
theorem dX12_common_2 : decode cX12_common 2 = .ok (.iload_n 1, 1) := by decide +kernel
theorem dX12_common_3 : decode cX12_common 3 = .ok (.istore_n 3, 1) := by decide +kernel
theorem dX12_common_4 : decode cX12_common 4 = .ok (.iload_n 3, 1) := by decide +kernel
theorem dX12_common_5 : decode cX12_common 5 = .ok (.ifCond .le 16, 3) := by decide +kernel
theorem dX12_common_8 : decode cX12_common 8 = .ok (.iload_n 2, 1) := by decide +kernel
theorem dX12_common_9 : decode cX12_common 9 = .ok (.iload_n 3, 1) := by decide +kernel
theorem dX12_common_10 : decode cX12_common 10 = .ok (.irem, 1) := by decide +kernel
theorem dX12_common_11 : decode cX12_common 11 = .ok (.istore 4, 2) := by decide +kernel
theorem dX12_common_13 : decode cX12_common 13 = .ok (.iload_n 3, 1) := by decide +kernel
theorem dX12_common_14 : decode cX12_common 14 = .ok (.istore_n 2, 1) := by decide +kernel
theorem dX12_common_15 : decode cX12_common 15 = .ok (.iload 4, 2) := by decide +kernel
theorem dX12_common_17 : decode cX12_common 17 = .ok (.istore_n 3, 1) := by decide +kernel
theorem dX12_common_18 : decode cX12_common 18 = .ok (.goto (-14), 3) := by decide +kernel
theorem dX12_common_21 : decode cX12_common 21 = .ok (.iload_n 2, 1) := by decide +kernel
theorem dX12_common_22 : decode cX12_common 22 = .ok (.ireturn, 1) := by decide +kernel
theorem dX12_part_0 : decode cX12_part 0 = .ok (.iload_n 2, 1) := by decide +kernel
theorem dX12_part_1 : decode cX12_part 1 = .ok (.ifCond .ne 7, 3) := by decide +kernel
theorem dX12_part_8 : decode cX12_part 8 = .ok (.iload_n 1, 1) := by decide +kernel
theorem dX12_part_9 : decode cX12_part 9 = .ok (.iload_n 0, 1) := by decide +kernel
theorem dX12_part_10 : decode cX12_part 10 = .ok (.iload_n 1, 1) := by decide +kernel
theorem dX12_part_11 : decode cX12_part 11 = .ok (.invokestatic 539, 3) := by decide +kernel
theorem wm_2381 : (Jvm.Cond.methodLink "GrownKindsModel" (539 : Nat) ({ cls := "GrownKindsModel", name := "common", desc := "(II)I" } : Jvm.MethodName)) ∈ gT := gT_in (List.mem_of_getElem? (i := 2381) (by decide +kernel)) (by decide +kernel)
theorem wm_2382 : (Jvm.Cond.static ({ cls := "GrownKindsModel", name := "common", desc := "(II)I" } : Jvm.MethodName)) ∈ gT := gT_in (List.mem_of_getElem? (i := 2382) (by decide +kernel)) (by decide +kernel)
theorem wm_2383 : (Jvm.Cond.code ({ cls := "GrownKindsModel", name := "common", desc := "(II)I" } : Jvm.MethodName) prog_14_method_135_code (5 : Nat) (Option.some Jvm.ClassFile.FieldType.int)) ∈ gT := gT_in (List.mem_of_getElem? (i := 2383) (by decide +kernel)) (by decide +kernel)
theorem dX12_part_14 : decode cX12_part 14 = .ok (.idiv, 1) := by decide +kernel
theorem dX12_part_15 : decode cX12_part 15 = .ok (.ireturn, 1) := by decide +kernel
theorem dX12_part_4 : decode cX12_part 4 = .ok (.iload_n 0, 1) := by decide +kernel
theorem dX12_part_5 : decode cX12_part 5 = .ok (.goto 4, 3) := by decide +kernel
theorem dX12_bitsFor_0 : decode cX12_bitsFor 0 = .ok (.iconst 0, 1) := by decide +kernel
theorem dX12_bitsFor_1 : decode cX12_bitsFor 1 = .ok (.istore_n 2, 1) := by decide +kernel
theorem dX12_bitsFor_2 : decode cX12_bitsFor 2 = .ok (.lconst 1, 1) := by decide +kernel
theorem dX12_bitsFor_3 : decode cX12_bitsFor 3 = .ok (.iload_n 2, 1) := by decide +kernel
theorem dX12_bitsFor_4 : decode cX12_bitsFor 4 = .ok (.lshl, 1) := by decide +kernel
theorem dX12_bitsFor_5 : decode cX12_bitsFor 5 = .ok (.lload_n 0, 1) := by decide +kernel
theorem dX12_bitsFor_6 : decode cX12_bitsFor 6 = .ok (.lcmp, 1) := by decide +kernel
theorem dX12_bitsFor_7 : decode cX12_bitsFor 7 = .ok (.ifCond .ge 9, 3) := by decide +kernel
theorem dX12_bitsFor_10 : decode cX12_bitsFor 10 = .ok (.iinc 2 1, 3) := by decide +kernel
theorem dX12_bitsFor_13 : decode cX12_bitsFor 13 = .ok (.goto (-11), 3) := by decide +kernel
theorem dX12_bitsFor_16 : decode cX12_bitsFor 16 = .ok (.iload_n 2, 1) := by decide +kernel
theorem dX12_bitsFor_17 : decode cX12_bitsFor 17 = .ok (.ireturn, 1) := by decide +kernel
theorem dX12_chosen_0 : decode cX12_chosen 0 = .ok (.iload_n 3, 1) := by decide +kernel
theorem dX12_chosen_1 : decode cX12_chosen 1 = .ok (.ifCond .eq 7, 3) := by decide +kernel
theorem dX12_chosen_8 : decode cX12_chosen 8 = .ok (.lload_n 0, 1) := by decide +kernel
theorem dX12_chosen_9 : decode cX12_chosen 9 = .ok (.iload_n 2, 1) := by decide +kernel
theorem dX12_chosen_10 : decode cX12_chosen 10 = .ok (.i2l, 1) := by decide +kernel
theorem dX12_chosen_11 : decode cX12_chosen 11 = .ok (.ladd, 1) := by decide +kernel
theorem dX12_chosen_12 : decode cX12_chosen 12 = .ok (.lconst 1, 1) := by decide +kernel
theorem dX12_chosen_13 : decode cX12_chosen 13 = .ok (.lsub, 1) := by decide +kernel
theorem dX12_chosen_4 : decode cX12_chosen 4 = .ok (.lload_n 0, 1) := by decide +kernel
theorem dX12_chosen_5 : decode cX12_chosen 5 = .ok (.goto 9, 3) := by decide +kernel
theorem dX12_chosen_14 : decode cX12_chosen 14 = .ok (.lstore 4, 2) := by decide +kernel
theorem dX12_chosen_16 : decode cX12_chosen 16 = .ok (.iload_n 2, 1) := by decide +kernel
theorem dX12_chosen_17 : decode cX12_chosen 17 = .ok (.ifCond .ne 5, 3) := by decide +kernel
theorem dX12_chosen_22 : decode cX12_chosen 22 = .ok (.lload_n 0, 1) := by decide +kernel
theorem dX12_chosen_23 : decode cX12_chosen 23 = .ok (.lconst 0, 1) := by decide +kernel
theorem dX12_chosen_24 : decode cX12_chosen 24 = .ok (.lcmp, 1) := by decide +kernel
theorem dX12_chosen_25 : decode cX12_chosen 25 = .ok (.ifCond .eq 11, 3) := by decide +kernel
theorem dX12_chosen_36 : decode cX12_chosen 36 = .ok (.lconst 0, 1) := by decide +kernel
theorem dX12_chosen_37 : decode cX12_chosen 37 = .ok (.lreturn, 1) := by decide +kernel
theorem dX12_chosen_28 : decode cX12_chosen 28 = .ok (.lload 4, 2) := by decide +kernel
theorem dX12_chosen_30 : decode cX12_chosen 30 = .ok (.iload_n 2, 1) := by decide +kernel
theorem dX12_chosen_31 : decode cX12_chosen 31 = .ok (.i2l, 1) := by decide +kernel
theorem dX12_chosen_32 : decode cX12_chosen 32 = .ok (.lcmp, 1) := by decide +kernel
theorem dX12_chosen_33 : decode cX12_chosen 33 = .ok (.ifCond .ge 5, 3) := by decide +kernel
theorem dX12_chosen_38 : decode cX12_chosen 38 = .ok (.lconst 1, 1) := by decide +kernel
theorem dX12_chosen_39 : decode cX12_chosen 39 = .ok (.lstore 6, 2) := by decide +kernel
theorem dX12_chosen_41 : decode cX12_chosen 41 = .ok (.iconst 1, 1) := by decide +kernel
theorem dX12_chosen_42 : decode cX12_chosen 42 = .ok (.istore 8, 2) := by decide +kernel
theorem dX12_chosen_44 : decode cX12_chosen 44 = .ok (.iload 8, 2) := by decide +kernel
theorem dX12_chosen_46 : decode cX12_chosen 46 = .ok (.iload_n 2, 1) := by decide +kernel
theorem dX12_chosen_47 : decode cX12_chosen 47 = .ok (.if_icmp .gt 56, 3) := by decide +kernel
theorem dX12_chosen_50 : decode cX12_chosen 50 = .ok (.lload 4, 2) := by decide +kernel
theorem dX12_chosen_52 : decode cX12_chosen 52 = .ok (.iload_n 2, 1) := by decide +kernel
theorem dX12_chosen_53 : decode cX12_chosen 53 = .ok (.i2l, 1) := by decide +kernel
theorem dX12_chosen_54 : decode cX12_chosen 54 = .ok (.lsub, 1) := by decide +kernel
theorem dX12_chosen_55 : decode cX12_chosen 55 = .ok (.iload 8, 2) := by decide +kernel
theorem dX12_chosen_57 : decode cX12_chosen 57 = .ok (.i2l, 1) := by decide +kernel
theorem dX12_chosen_58 : decode cX12_chosen 58 = .ok (.ladd, 1) := by decide +kernel
theorem dX12_chosen_59 : decode cX12_chosen 59 = .ok (.lstore 9, 2) := by decide +kernel
theorem dX12_chosen_61 : decode cX12_chosen 61 = .ok (.lload 6, 2) := by decide +kernel
theorem dX12_chosen_63 : decode cX12_chosen 63 = .ok (.ldc2_w 280, 3) := by decide +kernel
theorem wm_2044 : (Jvm.Cond.constantLong "GrownKindsModel" (280 : Nat) (1000000000000 : Int64)) ∈ gT := gT_in (List.mem_of_getElem? (i := 2044) (by decide +kernel)) (by decide +kernel)
theorem dX12_chosen_66 : decode cX12_chosen 66 = .ok (.lcmp, 1) := by decide +kernel
theorem dX12_chosen_67 : decode cX12_chosen 67 = .ok (.ifCond .gt 15, 3) := by decide +kernel
theorem dX12_chosen_70 : decode cX12_chosen 70 = .ok (.lload 6, 2) := by decide +kernel
theorem dX12_chosen_72 : decode cX12_chosen 72 = .ok (.ldc2_w 310, 3) := by decide +kernel
theorem wm_2045 : (Jvm.Cond.constantLong "GrownKindsModel" (310 : Nat) (9223372036854775807 : Int64)) ∈ gT := gT_in (List.mem_of_getElem? (i := 2045) (by decide +kernel)) (by decide +kernel)
theorem dX12_chosen_75 : decode cX12_chosen 75 = .ok (.lload 9, 2) := by decide +kernel
theorem dX12_chosen_77 : decode cX12_chosen 77 = .ok (.ldiv, 1) := by decide +kernel
theorem dX12_chosen_78 : decode cX12_chosen 78 = .ok (.lcmp, 1) := by decide +kernel
theorem dX12_chosen_79 : decode cX12_chosen 79 = .ok (.ifCond .le 7, 3) := by decide +kernel
theorem dX12_chosen_86 : decode cX12_chosen 86 = .ok (.lload 6, 2) := by decide +kernel
theorem dX12_chosen_88 : decode cX12_chosen 88 = .ok (.lload 9, 2) := by decide +kernel
theorem dX12_chosen_90 : decode cX12_chosen 90 = .ok (.lmul, 1) := by decide +kernel
theorem dX12_chosen_91 : decode cX12_chosen 91 = .ok (.iload 8, 2) := by decide +kernel
theorem dX12_chosen_93 : decode cX12_chosen 93 = .ok (.i2l, 1) := by decide +kernel
theorem dX12_chosen_94 : decode cX12_chosen 94 = .ok (.ldiv, 1) := by decide +kernel
theorem dX12_chosen_95 : decode cX12_chosen 95 = .ok (.lstore 6, 2) := by decide +kernel
theorem dX12_chosen_97 : decode cX12_chosen 97 = .ok (.iinc 8 1, 3) := by decide +kernel
theorem dX12_chosen_100 : decode cX12_chosen 100 = .ok (.goto (-56), 3) := by decide +kernel
theorem dX12_chosen_82 : decode cX12_chosen 82 = .ok (.ldc2_w 280, 3) := by decide +kernel
theorem dX12_chosen_85 : decode cX12_chosen 85 = .ok (.lreturn, 1) := by decide +kernel
theorem dX12_chosen_103 : decode cX12_chosen 103 = .ok (.ldc2_w 280, 3) := by decide +kernel
theorem dX12_chosen_106 : decode cX12_chosen 106 = .ok (.lload 6, 2) := by decide +kernel
theorem dX12_chosen_108 : decode cX12_chosen 108 = .ok (.invokestatic 1, 3) := by decide +kernel
theorem dX12_chosen_111 : decode cX12_chosen 111 = .ok (.lreturn, 1) := by decide +kernel
theorem dX12_chosen_20 : decode cX12_chosen 20 = .ok (.lconst 1, 1) := by decide +kernel
theorem dX12_chosen_21 : decode cX12_chosen 21 = .ok (.lreturn, 1) := by decide +kernel
theorem dX12_ofAll_0 : decode cX12_ofAll 0 = .ok (.lconst 1, 1) := by decide +kernel
theorem dX12_ofAll_1 : decode cX12_ofAll 1 = .ok (.lstore_n 2, 1) := by decide +kernel
theorem dX12_ofAll_2 : decode cX12_ofAll 2 = .ok (.iconst 1, 1) := by decide +kernel
theorem dX12_ofAll_3 : decode cX12_ofAll 3 = .ok (.istore 4, 2) := by decide +kernel
theorem dX12_ofAll_5 : decode cX12_ofAll 5 = .ok (.iload 4, 2) := by decide +kernel
theorem dX12_ofAll_7 : decode cX12_ofAll 7 = .ok (.iload_n 1, 1) := by decide +kernel
theorem dX12_ofAll_8 : decode cX12_ofAll 8 = .ok (.if_icmp .gt 23, 3) := by decide +kernel
theorem dX12_ofAll_11 : decode cX12_ofAll 11 = .ok (.lload_n 2, 1) := by decide +kernel
theorem dX12_ofAll_12 : decode cX12_ofAll 12 = .ok (.iload_n 0, 1) := by decide +kernel
theorem dX12_ofAll_13 : decode cX12_ofAll 13 = .ok (.iload_n 1, 1) := by decide +kernel
theorem dX12_ofAll_14 : decode cX12_ofAll 14 = .ok (.isub, 1) := by decide +kernel
theorem dX12_ofAll_15 : decode cX12_ofAll 15 = .ok (.iload 4, 2) := by decide +kernel
theorem dX12_ofAll_17 : decode cX12_ofAll 17 = .ok (.iadd, 1) := by decide +kernel
theorem dX12_ofAll_18 : decode cX12_ofAll 18 = .ok (.i2l, 1) := by decide +kernel
theorem dX12_ofAll_19 : decode cX12_ofAll 19 = .ok (.lmul, 1) := by decide +kernel
theorem dX12_ofAll_20 : decode cX12_ofAll 20 = .ok (.iload 4, 2) := by decide +kernel
theorem dX12_ofAll_22 : decode cX12_ofAll 22 = .ok (.i2l, 1) := by decide +kernel
theorem dX12_ofAll_23 : decode cX12_ofAll 23 = .ok (.ldiv, 1) := by decide +kernel
theorem dX12_ofAll_24 : decode cX12_ofAll 24 = .ok (.lstore_n 2, 1) := by decide +kernel
theorem dX12_ofAll_25 : decode cX12_ofAll 25 = .ok (.iinc 4 1, 3) := by decide +kernel
theorem dX12_ofAll_28 : decode cX12_ofAll 28 = .ok (.goto (-23), 3) := by decide +kernel
theorem dX12_ofAll_31 : decode cX12_ofAll 31 = .ok (.lload_n 2, 1) := by decide +kernel
theorem dX12_ofAll_32 : decode cX12_ofAll 32 = .ok (.lreturn, 1) := by decide +kernel
theorem dX12_factorial_0 : decode cX12_factorial 0 = .ok (.lconst 1, 1) := by decide +kernel
theorem dX12_factorial_1 : decode cX12_factorial 1 = .ok (.lstore_n 1, 1) := by decide +kernel
theorem dX12_factorial_2 : decode cX12_factorial 2 = .ok (.iconst 2, 1) := by decide +kernel
theorem dX12_factorial_3 : decode cX12_factorial 3 = .ok (.istore_n 3, 1) := by decide +kernel
theorem dX12_factorial_4 : decode cX12_factorial 4 = .ok (.iload_n 3, 1) := by decide +kernel
theorem dX12_factorial_5 : decode cX12_factorial 5 = .ok (.iload_n 0, 1) := by decide +kernel
theorem dX12_factorial_6 : decode cX12_factorial 6 = .ok (.if_icmp .gt 14, 3) := by decide +kernel
theorem dX12_factorial_9 : decode cX12_factorial 9 = .ok (.lload_n 1, 1) := by decide +kernel
theorem dX12_factorial_10 : decode cX12_factorial 10 = .ok (.iload_n 3, 1) := by decide +kernel
theorem dX12_factorial_11 : decode cX12_factorial 11 = .ok (.i2l, 1) := by decide +kernel
theorem dX12_factorial_12 : decode cX12_factorial 12 = .ok (.lmul, 1) := by decide +kernel
theorem dX12_factorial_13 : decode cX12_factorial 13 = .ok (.lstore_n 1, 1) := by decide +kernel
theorem dX12_factorial_14 : decode cX12_factorial 14 = .ok (.iinc 3 1, 3) := by decide +kernel
theorem dX12_factorial_17 : decode cX12_factorial 17 = .ok (.goto (-13), 3) := by decide +kernel
theorem dX12_factorial_20 : decode cX12_factorial 20 = .ok (.lload_n 1, 1) := by decide +kernel
theorem dX12_factorial_21 : decode cX12_factorial 21 = .ok (.lreturn, 1) := by decide +kernel
theorem dX12_end_0 : decode cX12_end 0 = .ok (.iload_n 1, 1) := by decide +kernel
theorem dX12_end_1 : decode cX12_end 1 = .ok (.i2l, 1) := by decide +kernel
theorem dX12_end_2 : decode cX12_end 2 = .ok (.lconst 0, 1) := by decide +kernel
theorem dX12_end_3 : decode cX12_end 3 = .ok (.aload_n 0, 1) := by decide +kernel
theorem dX12_end_4 : decode cX12_end 4 = .ok (.getfield 94, 3) := by decide +kernel
theorem wm_1676 : (Jvm.Cond.fieldLink "GrownKindsModel" (94 : Nat) "GrownKindsModel" "taped" "I") ∈ gT := gT_in (List.mem_of_getElem? (i := 1676) (by decide +kernel)) (by decide +kernel)
theorem dX12_end_7 : decode cX12_end 7 = .ok (.i2l, 1) := by decide +kernel
theorem dX12_end_8 : decode cX12_end 8 = .ok (.invokestatic 97, 3) := by decide +kernel
theorem wm_1839 : (Jvm.Cond.methodLink "GrownKindsModel" (97 : Nat) ({ cls := "GrownKindsModel", name := "in", desc := "(JJJ)Z" } : Jvm.MethodName)) ∈ gT := gT_in (List.mem_of_getElem? (i := 1839) (by decide +kernel)) (by decide +kernel)
theorem wm_1840 : (Jvm.Cond.static ({ cls := "GrownKindsModel", name := "in", desc := "(JJJ)Z" } : Jvm.MethodName)) ∈ gT := gT_in (List.mem_of_getElem? (i := 1840) (by decide +kernel)) (by decide +kernel)
theorem wm_1841 : (Jvm.Cond.code ({ cls := "GrownKindsModel", name := "in", desc := "(JJJ)Z" } : Jvm.MethodName) prog_14_method_1_code (6 : Nat) (Option.some Jvm.ClassFile.FieldType.boolean)) ∈ gT := gT_in (List.mem_of_getElem? (i := 1841) (by decide +kernel)) (by decide +kernel)
theorem dX12_end_11 : decode cX12_end 11 = .ok (.ifCond .ne 5, 3) := by decide +kernel
theorem dX12_end_16 : decode cX12_end 16 = .ok (.aload_n 0, 1) := by decide +kernel
theorem dX12_end_17 : decode cX12_end 17 = .ok (.iload_n 1, 1) := by decide +kernel
theorem dX12_end_18 : decode cX12_end 18 = .ok (.putfield 94, 3) := by decide +kernel
theorem dX12_end_21 : decode cX12_end 21 = .ok (.iload_n 1, 1) := by decide +kernel
theorem dX12_end_22 : decode cX12_end 22 = .ok (.ireturn, 1) := by decide +kernel
theorem dX12_end_14 : decode cX12_end 14 = .ok (.iconst (-1), 1) := by decide +kernel
theorem dX12_end_15 : decode cX12_end 15 = .ok (.ireturn, 1) := by decide +kernel
theorem dX12_isKind_0 : decode cX12_isKind 0 = .ok (.iload_n 1, 1) := by decide +kernel
theorem dX12_isKind_1 : decode cX12_isKind 1 = .ok (.i2l, 1) := by decide +kernel
theorem dX12_isKind_2 : decode cX12_isKind 2 = .ok (.lconst 0, 1) := by decide +kernel
theorem dX12_isKind_3 : decode cX12_isKind 3 = .ok (.aload_n 0, 1) := by decide +kernel
theorem dX12_isKind_4 : decode cX12_isKind 4 = .ok (.getfield 15, 3) := by decide +kernel
theorem dX12_isKind_7 : decode cX12_isKind 7 = .ok (.iconst 0, 1) := by decide +kernel
theorem dX12_isKind_8 : decode cX12_isKind 8 = .ok (.iaload, 1) := by decide +kernel
theorem dX12_isKind_9 : decode cX12_isKind 9 = .ok (.iconst 1, 1) := by decide +kernel
theorem dX12_isKind_10 : decode cX12_isKind 10 = .ok (.isub, 1) := by decide +kernel
theorem dX12_isKind_11 : decode cX12_isKind 11 = .ok (.i2l, 1) := by decide +kernel
theorem dX12_isKind_12 : decode cX12_isKind 12 = .ok (.invokestatic 97, 3) := by decide +kernel
theorem dX12_isKind_15 : decode cX12_isKind 15 = .ok (.ireturn, 1) := by decide +kernel
theorem dX12_isSize_0 : decode cX12_isSize 0 = .ok (.iload_n 1, 1) := by decide +kernel
theorem dX12_isSize_1 : decode cX12_isSize 1 = .ok (.i2l, 1) := by decide +kernel
theorem dX12_isSize_2 : decode cX12_isSize 2 = .ok (.lconst 0, 1) := by decide +kernel
theorem dX12_isSize_3 : decode cX12_isSize 3 = .ok (.aload_n 0, 1) := by decide +kernel
theorem dX12_isSize_4 : decode cX12_isSize 4 = .ok (.getfield 15, 3) := by decide +kernel
theorem dX12_isSize_7 : decode cX12_isSize 7 = .ok (.iconst 1, 1) := by decide +kernel
theorem dX12_isSize_8 : decode cX12_isSize 8 = .ok (.iaload, 1) := by decide +kernel
theorem dX12_isSize_9 : decode cX12_isSize 9 = .ok (.i2l, 1) := by decide +kernel
theorem dX12_isSize_10 : decode cX12_isSize 10 = .ok (.invokestatic 97, 3) := by decide +kernel
theorem dX12_isSize_13 : decode cX12_isSize 13 = .ok (.ireturn, 1) := by decide +kernel
theorem dX12_isTerm_0 : decode cX12_isTerm 0 = .ok (.aload_n 0, 1) := by decide +kernel
theorem dX12_isTerm_1 : decode cX12_isTerm 1 = .ok (.iload_n 1, 1) := by decide +kernel
theorem dX12_isTerm_2 : decode cX12_isTerm 2 = .ok (.invokevirtual 225, 3) := by decide +kernel
theorem wm_1982 : (Jvm.Cond.methodLink "GrownKindsModel" (225 : Nat) ({ cls := "GrownKindsModel", name := "isKind", desc := "(I)Z" } : Jvm.MethodName)) ∈ gT := gT_in (List.mem_of_getElem? (i := 1982) (by decide +kernel)) (by decide +kernel)
theorem wm_1984 : (Jvm.Cond.instanceMethod ({ cls := "GrownKindsModel", name := "isKind", desc := "(I)Z" } : Jvm.MethodName)) ∈ gT := gT_in (List.mem_of_getElem? (i := 1984) (by decide +kernel)) (by decide +kernel)
theorem wm_113 : Cond.selects "GrownKindsModel" ⟨"GrownKindsModel", "isKind", "(I)Z"⟩ ⟨"GrownKindsModel", "isKind", "(I)Z"⟩ ∈ gT := gT_in (List.mem_of_getElem? (i := 113) (by decide +kernel)) (by decide +kernel)
theorem wm_1985 : (Jvm.Cond.code ({ cls := "GrownKindsModel", name := "isKind", desc := "(I)Z" } : Jvm.MethodName) prog_14_method_30_code (2 : Nat) (Option.some Jvm.ClassFile.FieldType.boolean)) ∈ gT := gT_in (List.mem_of_getElem? (i := 1985) (by decide +kernel)) (by decide +kernel)
theorem dX12_isTerm_5 : decode cX12_isTerm 5 = .ok (.ifCond .eq 29, 3) := by decide +kernel
theorem dX12_isTerm_34 : decode cX12_isTerm 34 = .ok (.iconst 0, 1) := by decide +kernel
theorem dX12_isTerm_35 : decode cX12_isTerm 35 = .ok (.ireturn, 1) := by decide +kernel
theorem dX12_isTerm_8 : decode cX12_isTerm 8 = .ok (.iload_n 2, 1) := by decide +kernel
theorem dX12_isTerm_9 : decode cX12_isTerm 9 = .ok (.i2l, 1) := by decide +kernel
theorem dX12_isTerm_10 : decode cX12_isTerm 10 = .ok (.lconst 0, 1) := by decide +kernel
theorem dX12_isTerm_11 : decode cX12_isTerm 11 = .ok (.aload_n 0, 1) := by decide +kernel
theorem dX12_isTerm_12 : decode cX12_isTerm 12 = .ok (.getfield 15, 3) := by decide +kernel
theorem dX12_isTerm_15 : decode cX12_isTerm 15 = .ok (.sipush 198, 3) := by decide +kernel
theorem dX12_isTerm_18 : decode cX12_isTerm 18 = .ok (.iload_n 1, 1) := by decide +kernel
theorem dX12_isTerm_19 : decode cX12_isTerm 19 = .ok (.iadd, 1) := by decide +kernel
theorem dX12_isTerm_20 : decode cX12_isTerm 20 = .ok (.iaload, 1) := by decide +kernel
theorem dX12_isTerm_21 : decode cX12_isTerm 21 = .ok (.iconst 1, 1) := by decide +kernel
theorem dX12_isTerm_22 : decode cX12_isTerm 22 = .ok (.isub, 1) := by decide +kernel
theorem dX12_isTerm_23 : decode cX12_isTerm 23 = .ok (.i2l, 1) := by decide +kernel
theorem dX12_isTerm_24 : decode cX12_isTerm 24 = .ok (.invokestatic 97, 3) := by decide +kernel
theorem dX12_isTerm_27 : decode cX12_isTerm 27 = .ok (.ifCond .eq 7, 3) := by decide +kernel
theorem dX12_isTerm_30 : decode cX12_isTerm 30 = .ok (.iconst 1, 1) := by decide +kernel
theorem dX12_isTerm_31 : decode cX12_isTerm 31 = .ok (.goto 4, 3) := by decide +kernel
theorem dX12_isOff_0 : decode cX12_isOff 0 = .ok (.iload_n 1, 1) := by decide +kernel
theorem dX12_isOff_1 : decode cX12_isOff 1 = .ok (.bipush 6, 2) := by decide +kernel
theorem dX12_isOff_3 : decode cX12_isOff 3 = .ok (.if_icmp .ge 23, 3) := by decide +kernel
theorem dX12_isOff_26 : decode cX12_isOff 26 = .ok (.iconst 0, 1) := by decide +kernel
theorem dX12_isOff_27 : decode cX12_isOff 27 = .ok (.ireturn, 1) := by decide +kernel
theorem dX12_isOff_6 : decode cX12_isOff 6 = .ok (.aload_n 0, 1) := by decide +kernel
theorem dX12_isOff_7 : decode cX12_isOff 7 = .ok (.getfield 15, 3) := by decide +kernel
theorem dX12_isOff_10 : decode cX12_isOff 10 = .ok (.bipush 6, 2) := by decide +kernel
theorem dX12_isOff_12 : decode cX12_isOff 12 = .ok (.iload_n 1, 1) := by decide +kernel
theorem dX12_isOff_13 : decode cX12_isOff 13 = .ok (.iadd, 1) := by decide +kernel
theorem dX12_isOff_14 : decode cX12_isOff 14 = .ok (.iaload, 1) := by decide +kernel
theorem dX12_isOff_15 : decode cX12_isOff 15 = .ok (.iload_n 2, 1) := by decide +kernel
theorem dX12_isOff_16 : decode cX12_isOff 16 = .ok (.invokestatic 228, 3) := by decide +kernel
theorem wm_1949 : (Jvm.Cond.methodLink "GrownKindsModel" (228 : Nat) ({ cls := "GrownKindsModel", name := "has", desc := "(II)Z" } : Jvm.MethodName)) ∈ gT := gT_in (List.mem_of_getElem? (i := 1949) (by decide +kernel)) (by decide +kernel)
theorem wm_1950 : (Jvm.Cond.static ({ cls := "GrownKindsModel", name := "has", desc := "(II)Z" } : Jvm.MethodName)) ∈ gT := gT_in (List.mem_of_getElem? (i := 1950) (by decide +kernel)) (by decide +kernel)
theorem wm_1951 : (Jvm.Cond.code ({ cls := "GrownKindsModel", name := "has", desc := "(II)Z" } : Jvm.MethodName) prog_14_method_2_code (2 : Nat) (Option.some Jvm.ClassFile.FieldType.boolean)) ∈ gT := gT_in (List.mem_of_getElem? (i := 1951) (by decide +kernel)) (by decide +kernel)
theorem dX12_isOff_19 : decode cX12_isOff 19 = .ok (.ifCond .eq 7, 3) := by decide +kernel
theorem dX12_isOff_22 : decode cX12_isOff 22 = .ok (.iconst 1, 1) := by decide +kernel
theorem dX12_isOff_23 : decode cX12_isOff 23 = .ok (.goto 4, 3) := by decide +kernel
theorem dX12_terms_0 : decode cX12_terms 0 = .ok (.aload_n 0, 1) := by decide +kernel
theorem dX12_terms_1 : decode cX12_terms 1 = .ok (.iload_n 1, 1) := by decide +kernel
theorem dX12_terms_2 : decode cX12_terms 2 = .ok (.invokevirtual 225, 3) := by decide +kernel
theorem dX12_terms_5 : decode cX12_terms 5 = .ok (.ifCond .eq 16, 3) := by decide +kernel
theorem dX12_terms_21 : decode cX12_terms 21 = .ok (.bipush (-2), 2) := by decide +kernel
theorem dX12_terms_23 : decode cX12_terms 23 = .ok (.ireturn, 1) := by decide +kernel
theorem dX12_terms_8 : decode cX12_terms 8 = .ok (.aload_n 0, 1) := by decide +kernel
theorem dX12_terms_9 : decode cX12_terms 9 = .ok (.getfield 15, 3) := by decide +kernel
theorem dX12_terms_12 : decode cX12_terms 12 = .ok (.sipush 198, 3) := by decide +kernel
theorem dX12_terms_15 : decode cX12_terms 15 = .ok (.iload_n 1, 1) := by decide +kernel
theorem dX12_terms_16 : decode cX12_terms 16 = .ok (.iadd, 1) := by decide +kernel
theorem dX12_terms_17 : decode cX12_terms 17 = .ok (.iaload, 1) := by decide +kernel
theorem dX12_terms_18 : decode cX12_terms 18 = .ok (.goto 5, 3) := by decide +kernel
theorem dX12_off_0 : decode cX12_off 0 = .ok (.aload_n 0, 1) := by decide +kernel
theorem dX12_off_1 : decode cX12_off 1 = .ok (.iload_n 1, 1) := by decide +kernel
theorem dX12_off_2 : decode cX12_off 2 = .ok (.invokevirtual 225, 3) := by decide +kernel
theorem dX12_off_5 : decode cX12_off 5 = .ok (.ifCond .eq 15, 3) := by decide +kernel
theorem dX12_off_20 : decode cX12_off 20 = .ok (.bipush (-2), 2) := by decide +kernel
theorem dX12_off_22 : decode cX12_off 22 = .ok (.ireturn, 1) := by decide +kernel
theorem dX12_off_8 : decode cX12_off 8 = .ok (.aload_n 0, 1) := by decide +kernel
theorem dX12_off_9 : decode cX12_off 9 = .ok (.getfield 15, 3) := by decide +kernel
theorem dX12_off_12 : decode cX12_off 12 = .ok (.bipush 6, 2) := by decide +kernel
theorem dX12_off_14 : decode cX12_off 14 = .ok (.iload_n 1, 1) := by decide +kernel
theorem dX12_off_15 : decode cX12_off 15 = .ok (.iadd, 1) := by decide +kernel
theorem dX12_off_16 : decode cX12_off 16 = .ok (.iaload, 1) := by decide +kernel
theorem dX12_off_17 : decode cX12_off 17 = .ok (.goto 5, 3) := by decide +kernel
theorem dX12_fault_0 : decode cX12_fault 0 = .ok (.iload_n 1, 1) := by decide +kernel
theorem dX12_fault_1 : decode cX12_fault 1 = .ok (.ifCond .ne 10, 3) := by decide +kernel
theorem dX12_fault_11 : decode cX12_fault 11 = .ok (.iload_n 1, 1) := by decide +kernel
theorem dX12_fault_12 : decode cX12_fault 12 = .ok (.iconst 1, 1) := by decide +kernel
theorem dX12_fault_13 : decode cX12_fault 13 = .ok (.if_icmp .ne 10, 3) := by decide +kernel
theorem dX12_fault_23 : decode cX12_fault 23 = .ok (.iconst (-1), 1) := by decide +kernel
theorem dX12_fault_24 : decode cX12_fault 24 = .ok (.ireturn, 1) := by decide +kernel
theorem dX12_fault_16 : decode cX12_fault 16 = .ok (.aload_n 0, 1) := by decide +kernel
theorem dX12_fault_17 : decode cX12_fault 17 = .ok (.getfield 25, 3) := by decide +kernel
theorem dX12_fault_20 : decode cX12_fault 20 = .ok (.goto 4, 3) := by decide +kernel
theorem dX12_fault_4 : decode cX12_fault 4 = .ok (.aload_n 0, 1) := by decide +kernel
theorem dX12_fault_5 : decode cX12_fault 5 = .ok (.getfield 124, 3) := by decide +kernel
theorem wm_1677 : (Jvm.Cond.fieldLink "GrownKindsModel" (124 : Nat) "GrownKindsModel" "faultKind" "I") ∈ gT := gT_in (List.mem_of_getElem? (i := 1677) (by decide +kernel)) (by decide +kernel)
theorem dX12_fault_8 : decode cX12_fault 8 = .ok (.goto 16, 3) := by decide +kernel
theorem dX12_count_0 : decode cX12_count 0 = .ok (.iload_n 1, 1) := by decide +kernel
theorem dX12_count_1 : decode cX12_count 1 = .ok (.tableswitch 79 0 5 #[39, 46, 53, 60, 67, 74], 39) := by decide +kernel
theorem dX12_count_40 : decode cX12_count 40 = .ok (.aload_n 0, 1) := by decide +kernel
theorem dX12_count_41 : decode cX12_count 41 = .ok (.getfield 15, 3) := by decide +kernel
theorem dX12_count_44 : decode cX12_count 44 = .ok (.iconst 0, 1) := by decide +kernel
theorem dX12_count_45 : decode cX12_count 45 = .ok (.iaload, 1) := by decide +kernel
theorem dX12_count_46 : decode cX12_count 46 = .ok (.ireturn, 1) := by decide +kernel
theorem dX12_count_47 : decode cX12_count 47 = .ok (.aload_n 0, 1) := by decide +kernel
theorem dX12_count_48 : decode cX12_count 48 = .ok (.getfield 15, 3) := by decide +kernel
theorem dX12_count_51 : decode cX12_count 51 = .ok (.iconst 1, 1) := by decide +kernel
theorem dX12_count_52 : decode cX12_count 52 = .ok (.iaload, 1) := by decide +kernel
theorem dX12_count_53 : decode cX12_count 53 = .ok (.ireturn, 1) := by decide +kernel
theorem dX12_count_54 : decode cX12_count 54 = .ok (.aload_n 0, 1) := by decide +kernel
theorem dX12_count_55 : decode cX12_count 55 = .ok (.getfield 15, 3) := by decide +kernel
theorem dX12_count_58 : decode cX12_count 58 = .ok (.iconst 2, 1) := by decide +kernel
theorem dX12_count_59 : decode cX12_count 59 = .ok (.iaload, 1) := by decide +kernel
theorem dX12_count_60 : decode cX12_count 60 = .ok (.ireturn, 1) := by decide +kernel
theorem dX12_count_61 : decode cX12_count 61 = .ok (.aload_n 0, 1) := by decide +kernel
theorem dX12_count_62 : decode cX12_count 62 = .ok (.getfield 15, 3) := by decide +kernel
theorem dX12_count_65 : decode cX12_count 65 = .ok (.iconst 3, 1) := by decide +kernel
theorem dX12_count_66 : decode cX12_count 66 = .ok (.iaload, 1) := by decide +kernel
theorem dX12_count_67 : decode cX12_count 67 = .ok (.ireturn, 1) := by decide +kernel
theorem dX12_count_68 : decode cX12_count 68 = .ok (.aload_n 0, 1) := by decide +kernel
theorem dX12_count_69 : decode cX12_count 69 = .ok (.getfield 15, 3) := by decide +kernel
theorem dX12_count_72 : decode cX12_count 72 = .ok (.iconst 4, 1) := by decide +kernel
theorem dX12_count_73 : decode cX12_count 73 = .ok (.iaload, 1) := by decide +kernel
theorem dX12_count_74 : decode cX12_count 74 = .ok (.ireturn, 1) := by decide +kernel
theorem dX12_count_75 : decode cX12_count 75 = .ok (.aload_n 0, 1) := by decide +kernel
theorem dX12_count_76 : decode cX12_count 76 = .ok (.getfield 94, 3) := by decide +kernel
theorem dX12_count_79 : decode cX12_count 79 = .ok (.ireturn, 1) := by decide +kernel
theorem dX12_count_80 : decode cX12_count 80 = .ok (.iconst (-1), 1) := by decide +kernel
theorem dX12_count_81 : decode cX12_count 81 = .ok (.ireturn, 1) := by decide +kernel
theorem dX12_kindMany_0 : decode cX12_kindMany 0 = .ok (.aload_n 0, 1) := by decide +kernel
theorem dX12_kindMany_1 : decode cX12_kindMany 1 = .ok (.getfield 39, 3) := by decide +kernel
theorem dX12_kindMany_4 : decode cX12_kindMany 4 = .ok (.bipush 24, 2) := by decide +kernel
theorem dX12_kindMany_6 : decode cX12_kindMany 6 = .ok (.iload_n 1, 1) := by decide +kernel
theorem dX12_kindMany_7 : decode cX12_kindMany 7 = .ok (.iadd, 1) := by decide +kernel
theorem dX12_kindMany_8 : decode cX12_kindMany 8 = .ok (.iload_n 2, 1) := by decide +kernel
theorem dX12_kindMany_9 : decode cX12_kindMany 9 = .ok (.iconst 0, 1) := by decide +kernel
theorem dX12_kindMany_10 : decode cX12_kindMany 10 = .ok (.invokestatic 276, 3) := by decide +kernel
theorem wm_2034 : (Jvm.Cond.methodLink "GrownKindsModel" (276 : Nat) ({ cls := "GrownKindsModel", name := "place", desc := "(III)I" } : Jvm.MethodName)) ∈ gT := gT_in (List.mem_of_getElem? (i := 2034) (by decide +kernel)) (by decide +kernel)
theorem wm_2035 : (Jvm.Cond.static ({ cls := "GrownKindsModel", name := "place", desc := "(III)I" } : Jvm.MethodName)) ∈ gT := gT_in (List.mem_of_getElem? (i := 2035) (by decide +kernel)) (by decide +kernel)
theorem wm_2036 : (Jvm.Cond.code ({ cls := "GrownKindsModel", name := "place", desc := "(III)I" } : Jvm.MethodName) prog_14_method_51_code (3 : Nat) (Option.some Jvm.ClassFile.FieldType.int)) ∈ gT := gT_in (List.mem_of_getElem? (i := 2036) (by decide +kernel)) (by decide +kernel)
theorem dX12_kindMany_13 : decode cX12_kindMany 13 = .ok (.laload, 1) := by decide +kernel
theorem dX12_kindMany_14 : decode cX12_kindMany 14 = .ok (.lreturn, 1) := by decide +kernel
theorem dX12_upTo_0 : decode cX12_upTo 0 = .ok (.lconst 0, 1) := by decide +kernel
theorem dX12_upTo_1 : decode cX12_upTo 1 = .ok (.lstore 4, 2) := by decide +kernel
theorem dX12_upTo_3 : decode cX12_upTo 3 = .ok (.iload_n 2, 1) := by decide +kernel
theorem dX12_upTo_4 : decode cX12_upTo 4 = .ok (.istore 6, 2) := by decide +kernel
theorem dX12_upTo_6 : decode cX12_upTo 6 = .ok (.iload 6, 2) := by decide +kernel
theorem dX12_upTo_8 : decode cX12_upTo 8 = .ok (.iload_n 3, 1) := by decide +kernel
theorem dX12_upTo_9 : decode cX12_upTo 9 = .ok (.if_icmp .gt 26, 3) := by decide +kernel
theorem dX12_upTo_12 : decode cX12_upTo 12 = .ok (.lload 4, 2) := by decide +kernel
theorem dX12_upTo_14 : decode cX12_upTo 14 = .ok (.aload_n 0, 1) := by decide +kernel
theorem dX12_upTo_15 : decode cX12_upTo 15 = .ok (.iload_n 1, 1) := by decide +kernel
theorem dX12_upTo_16 : decode cX12_upTo 16 = .ok (.iload 6, 2) := by decide +kernel
theorem dX12_upTo_18 : decode cX12_upTo 18 = .ok (.invokevirtual 320, 3) := by decide +kernel
theorem wm_2081 : (Jvm.Cond.methodLink "GrownKindsModel" (320 : Nat) ({ cls := "GrownKindsModel", name := "kindMany", desc := "(II)J" } : Jvm.MethodName)) ∈ gT := gT_in (List.mem_of_getElem? (i := 2081) (by decide +kernel)) (by decide +kernel)
theorem wm_2083 : (Jvm.Cond.instanceMethod ({ cls := "GrownKindsModel", name := "kindMany", desc := "(II)J" } : Jvm.MethodName)) ∈ gT := gT_in (List.mem_of_getElem? (i := 2083) (by decide +kernel)) (by decide +kernel)
theorem wm_126 : Cond.selects "GrownKindsModel" ⟨"GrownKindsModel", "kindMany", "(II)J"⟩ ⟨"GrownKindsModel", "kindMany", "(II)J"⟩ ∈ gT := gT_in (List.mem_of_getElem? (i := 126) (by decide +kernel)) (by decide +kernel)
theorem wm_2084 : (Jvm.Cond.code ({ cls := "GrownKindsModel", name := "kindMany", desc := "(II)J" } : Jvm.MethodName) prog_14_method_63_code (3 : Nat) (Option.some Jvm.ClassFile.FieldType.long)) ∈ gT := gT_in (List.mem_of_getElem? (i := 2084) (by decide +kernel)) (by decide +kernel)
theorem dX12_upTo_21 : decode cX12_upTo 21 = .ok (.ldc2_w 280, 3) := by decide +kernel
theorem dX12_upTo_24 : decode cX12_upTo 24 = .ok (.invokestatic 282, 3) := by decide +kernel
theorem wm_2050 : (Jvm.Cond.methodLink "GrownKindsModel" (282 : Nat) ({ cls := "GrownKindsModel", name := "add", desc := "(JJJ)J" } : Jvm.MethodName)) ∈ gT := gT_in (List.mem_of_getElem? (i := 2050) (by decide +kernel)) (by decide +kernel)
theorem wm_2051 : (Jvm.Cond.static ({ cls := "GrownKindsModel", name := "add", desc := "(JJJ)J" } : Jvm.MethodName)) ∈ gT := gT_in (List.mem_of_getElem? (i := 2051) (by decide +kernel)) (by decide +kernel)
theorem wm_2052 : (Jvm.Cond.code ({ cls := "GrownKindsModel", name := "add", desc := "(JJJ)J" } : Jvm.MethodName) prog_14_method_5_code (6 : Nat) (Option.some Jvm.ClassFile.FieldType.long)) ∈ gT := gT_in (List.mem_of_getElem? (i := 2052) (by decide +kernel)) (by decide +kernel)
theorem dX12_upTo_27 : decode cX12_upTo 27 = .ok (.lstore 4, 2) := by decide +kernel
theorem dX12_upTo_29 : decode cX12_upTo 29 = .ok (.iinc 6 1, 3) := by decide +kernel
theorem dX12_upTo_32 : decode cX12_upTo 32 = .ok (.goto (-26), 3) := by decide +kernel
theorem dX12_upTo_35 : decode cX12_upTo 35 = .ok (.lload 4, 2) := by decide +kernel
theorem dX12_upTo_37 : decode cX12_upTo 37 = .ok (.lreturn, 1) := by decide +kernel
theorem dX12_isBox_0 : decode cX12_isBox 0 = .ok (.aload_n 0, 1) := by decide +kernel
theorem dX12_isBox_1 : decode cX12_isBox 1 = .ok (.iload_n 1, 1) := by decide +kernel
theorem dX12_isBox_2 : decode cX12_isBox 2 = .ok (.invokevirtual 225, 3) := by decide +kernel
theorem dX12_isBox_5 : decode cX12_isBox 5 = .ok (.ifCond .eq 28, 3) := by decide +kernel
theorem dX12_isBox_33 : decode cX12_isBox 33 = .ok (.iconst 0, 1) := by decide +kernel
theorem dX12_isBox_34 : decode cX12_isBox 34 = .ok (.ireturn, 1) := by decide +kernel
theorem dX12_isBox_8 : decode cX12_isBox 8 = .ok (.aload_n 0, 1) := by decide +kernel
theorem dX12_isBox_9 : decode cX12_isBox 9 = .ok (.iload_n 2, 1) := by decide +kernel
theorem dX12_isBox_10 : decode cX12_isBox 10 = .ok (.invokevirtual 334, 3) := by decide +kernel
theorem wm_2097 : (Jvm.Cond.methodLink "GrownKindsModel" (334 : Nat) ({ cls := "GrownKindsModel", name := "isSize", desc := "(I)Z" } : Jvm.MethodName)) ∈ gT := gT_in (List.mem_of_getElem? (i := 2097) (by decide +kernel)) (by decide +kernel)
theorem wm_2099 : (Jvm.Cond.instanceMethod ({ cls := "GrownKindsModel", name := "isSize", desc := "(I)Z" } : Jvm.MethodName)) ∈ gT := gT_in (List.mem_of_getElem? (i := 2099) (by decide +kernel)) (by decide +kernel)
theorem wm_127 : Cond.selects "GrownKindsModel" ⟨"GrownKindsModel", "isSize", "(I)Z"⟩ ⟨"GrownKindsModel", "isSize", "(I)Z"⟩ ∈ gT := gT_in (List.mem_of_getElem? (i := 127) (by decide +kernel)) (by decide +kernel)
theorem wm_2100 : (Jvm.Cond.code ({ cls := "GrownKindsModel", name := "isSize", desc := "(I)Z" } : Jvm.MethodName) prog_14_method_31_code (2 : Nat) (Option.some Jvm.ClassFile.FieldType.boolean)) ∈ gT := gT_in (List.mem_of_getElem? (i := 2100) (by decide +kernel)) (by decide +kernel)
theorem dX12_isBox_13 : decode cX12_isBox 13 = .ok (.ifCond .eq 20, 3) := by decide +kernel
theorem dX12_isBox_16 : decode cX12_isBox 16 = .ok (.aload_n 0, 1) := by decide +kernel
theorem dX12_isBox_17 : decode cX12_isBox 17 = .ok (.iload_n 3, 1) := by decide +kernel
theorem dX12_isBox_18 : decode cX12_isBox 18 = .ok (.invokevirtual 334, 3) := by decide +kernel
theorem dX12_isBox_21 : decode cX12_isBox 21 = .ok (.ifCond .eq 12, 3) := by decide +kernel
theorem dX12_isBox_24 : decode cX12_isBox 24 = .ok (.iload_n 2, 1) := by decide +kernel
theorem dX12_isBox_25 : decode cX12_isBox 25 = .ok (.iload_n 3, 1) := by decide +kernel
theorem dX12_isBox_26 : decode cX12_isBox 26 = .ok (.if_icmp .gt 7, 3) := by decide +kernel
theorem dX12_isBox_29 : decode cX12_isBox 29 = .ok (.iconst 1, 1) := by decide +kernel
theorem dX12_isBox_30 : decode cX12_isBox 30 = .ok (.goto 4, 3) := by decide +kernel
theorem dX12_laysRows_0 : decode cX12_laysRows 0 = .ok (.iconst 0, 1) := by decide +kernel
theorem dX12_laysRows_1 : decode cX12_laysRows 1 = .ok (.istore 4, 2) := by decide +kernel
theorem dX12_laysRows_3 : decode cX12_laysRows 3 = .ok (.iload 4, 2) := by decide +kernel
theorem dX12_laysRows_5 : decode cX12_laysRows 5 = .ok (.aload_n 0, 1) := by decide +kernel
theorem dX12_laysRows_6 : decode cX12_laysRows 6 = .ok (.getfield 46, 3) := by decide +kernel
theorem dX12_laysRows_9 : decode cX12_laysRows 9 = .ok (.arraylength, 1) := by decide +kernel
theorem dX12_laysRows_10 : decode cX12_laysRows 10 = .ok (.if_icmp .ge 17, 3) := by decide +kernel
theorem dX12_laysRows_13 : decode cX12_laysRows 13 = .ok (.aload_n 0, 1) := by decide +kernel
theorem dX12_laysRows_14 : decode cX12_laysRows 14 = .ok (.getfield 46, 3) := by decide +kernel
theorem dX12_laysRows_17 : decode cX12_laysRows 17 = .ok (.iload 4, 2) := by decide +kernel
theorem dX12_laysRows_19 : decode cX12_laysRows 19 = .ok (.lconst 0, 1) := by decide +kernel
theorem dX12_laysRows_20 : decode cX12_laysRows 20 = .ok (.lastore, 1) := by decide +kernel
theorem dX12_laysRows_21 : decode cX12_laysRows 21 = .ok (.iinc 4 1, 3) := by decide +kernel
theorem dX12_laysRows_24 : decode cX12_laysRows 24 = .ok (.goto (-21), 3) := by decide +kernel
theorem dX12_laysRows_27 : decode cX12_laysRows 27 = .ok (.aload_n 0, 1) := by decide +kernel
theorem dX12_laysRows_28 : decode cX12_laysRows 28 = .ok (.getfield 46, 3) := by decide +kernel
theorem dX12_laysRows_31 : decode cX12_laysRows 31 = .ok (.iconst 0, 1) := by decide +kernel
theorem dX12_laysRows_32 : decode cX12_laysRows 32 = .ok (.lconst 1, 1) := by decide +kernel
theorem dX12_laysRows_33 : decode cX12_laysRows 33 = .ok (.lastore, 1) := by decide +kernel
theorem dX12_laysRows_34 : decode cX12_laysRows 34 = .ok (.iconst 1, 1) := by decide +kernel
theorem dX12_laysRows_35 : decode cX12_laysRows 35 = .ok (.istore 4, 2) := by decide +kernel
theorem dX12_laysRows_37 : decode cX12_laysRows 37 = .ok (.iload 4, 2) := by decide +kernel
theorem dX12_laysRows_39 : decode cX12_laysRows 39 = .ok (.iload_n 2, 1) := by decide +kernel
theorem dX12_laysRows_40 : decode cX12_laysRows 40 = .ok (.if_icmp .gt 157, 3) := by decide +kernel
theorem dX12_laysRows_43 : decode cX12_laysRows 43 = .ok (.iload 4, 2) := by decide +kernel
theorem dX12_laysRows_45 : decode cX12_laysRows 45 = .ok (.istore 5, 2) := by decide +kernel
theorem dX12_laysRows_47 : decode cX12_laysRows 47 = .ok (.iload 5, 2) := by decide +kernel
theorem dX12_laysRows_49 : decode cX12_laysRows 49 = .ok (.iload_n 2, 1) := by decide +kernel
theorem dX12_laysRows_50 : decode cX12_laysRows 50 = .ok (.if_icmp .gt 141, 3) := by decide +kernel
theorem dX12_laysRows_53 : decode cX12_laysRows 53 = .ok (.iconst 0, 1) := by decide +kernel
theorem dX12_laysRows_54 : decode cX12_laysRows 54 = .ok (.istore 6, 2) := by decide +kernel
theorem dX12_laysRows_56 : decode cX12_laysRows 56 = .ok (.iload 6, 2) := by decide +kernel
theorem dX12_laysRows_58 : decode cX12_laysRows 58 = .ok (.iload 5, 2) := by decide +kernel
theorem dX12_laysRows_60 : decode cX12_laysRows 60 = .ok (.iload_n 3, 1) := by decide +kernel
theorem dX12_laysRows_61 : decode cX12_laysRows 61 = .ok (.invokestatic 117, 3) := by decide +kernel
theorem wm_1854 : (Jvm.Cond.methodLink "GrownKindsModel" (117 : Nat) ({ cls := "java/lang/Math", name := "min", desc := "(II)I" } : Jvm.MethodName)) ∈ gT := gT_in (List.mem_of_getElem? (i := 1854) (by decide +kernel)) (by decide +kernel)
theorem wm_761 : (Jvm.Cond.static ({ cls := "java/lang/Math", name := "min", desc := "(II)I" } : Jvm.MethodName)) ∈ gT := gT_in (List.mem_of_getElem? (i := 761) (by decide +kernel)) (by decide +kernel)
theorem wm_762 : (Jvm.Cond.code ({ cls := "java/lang/Math", name := "min", desc := "(II)I" } : Jvm.MethodName) prog_17_method_69_code (2 : Nat) (Option.some Jvm.ClassFile.FieldType.int)) ∈ gT := gT_in (List.mem_of_getElem? (i := 762) (by decide +kernel)) (by decide +kernel)
theorem dX12_laysRows_64 : decode cX12_laysRows 64 = .ok (.if_icmp .gt 121, 3) := by decide +kernel
theorem dX12_laysRows_67 : decode cX12_laysRows 67 = .ok (.lconst 0, 1) := by decide +kernel
theorem dX12_laysRows_68 : decode cX12_laysRows 68 = .ok (.lstore 7, 2) := by decide +kernel
theorem dX12_laysRows_70 : decode cX12_laysRows 70 = .ok (.iconst 1, 1) := by decide +kernel
theorem dX12_laysRows_71 : decode cX12_laysRows 71 = .ok (.istore 9, 2) := by decide +kernel
theorem dX12_laysRows_73 : decode cX12_laysRows 73 = .ok (.iload 9, 2) := by decide +kernel
theorem dX12_laysRows_75 : decode cX12_laysRows 75 = .ok (.iload 5, 2) := by decide +kernel
theorem dX12_laysRows_77 : decode cX12_laysRows 77 = .ok (.iload 4, 2) := by decide +kernel
theorem dX12_laysRows_79 : decode cX12_laysRows 79 = .ok (.isub, 1) := by decide +kernel
theorem dX12_laysRows_80 : decode cX12_laysRows 80 = .ok (.iconst 1, 1) := by decide +kernel
theorem dX12_laysRows_81 : decode cX12_laysRows 81 = .ok (.iadd, 1) := by decide +kernel
theorem dX12_laysRows_82 : decode cX12_laysRows 82 = .ok (.if_icmp .gt 81, 3) := by decide +kernel
theorem dX12_laysRows_85 : decode cX12_laysRows 85 = .ok (.iconst 0, 1) := by decide +kernel
theorem dX12_laysRows_86 : decode cX12_laysRows 86 = .ok (.istore 10, 2) := by decide +kernel
theorem dX12_laysRows_88 : decode cX12_laysRows 88 = .ok (.iload 10, 2) := by decide +kernel
theorem dX12_laysRows_90 : decode cX12_laysRows 90 = .ok (.iload 9, 2) := by decide +kernel
theorem dX12_laysRows_92 : decode cX12_laysRows 92 = .ok (.iload 6, 2) := by decide +kernel
theorem dX12_laysRows_94 : decode cX12_laysRows 94 = .ok (.invokestatic 117, 3) := by decide +kernel
theorem dX12_laysRows_97 : decode cX12_laysRows 97 = .ok (.if_icmp .gt 60, 3) := by decide +kernel
theorem dX12_laysRows_100 : decode cX12_laysRows 100 = .ok (.lload 7, 2) := by decide +kernel
theorem dX12_laysRows_102 : decode cX12_laysRows 102 = .ok (.aload_n 0, 1) := by decide +kernel
theorem dX12_laysRows_103 : decode cX12_laysRows 103 = .ok (.getfield 39, 3) := by decide +kernel
theorem dX12_laysRows_106 : decode cX12_laysRows 106 = .ok (.iload_n 1, 1) := by decide +kernel
theorem dX12_laysRows_107 : decode cX12_laysRows 107 = .ok (.iload 9, 2) := by decide +kernel
theorem dX12_laysRows_109 : decode cX12_laysRows 109 = .ok (.iload 10, 2) := by decide +kernel
theorem dX12_laysRows_111 : decode cX12_laysRows 111 = .ok (.invokestatic 276, 3) := by decide +kernel
theorem dX12_laysRows_114 : decode cX12_laysRows 114 = .ok (.laload, 1) := by decide +kernel
theorem dX12_laysRows_115 : decode cX12_laysRows 115 = .ok (.aload_n 0, 1) := by decide +kernel
theorem dX12_laysRows_116 : decode cX12_laysRows 116 = .ok (.getfield 46, 3) := by decide +kernel
theorem dX12_laysRows_119 : decode cX12_laysRows 119 = .ok (.iload 4, 2) := by decide +kernel
theorem dX12_laysRows_121 : decode cX12_laysRows 121 = .ok (.iconst 1, 1) := by decide +kernel
theorem dX12_laysRows_122 : decode cX12_laysRows 122 = .ok (.isub, 1) := by decide +kernel
theorem dX12_laysRows_123 : decode cX12_laysRows 123 = .ok (.iload 5, 2) := by decide +kernel
theorem dX12_laysRows_125 : decode cX12_laysRows 125 = .ok (.iload 9, 2) := by decide +kernel
theorem dX12_laysRows_127 : decode cX12_laysRows 127 = .ok (.isub, 1) := by decide +kernel
theorem dX12_laysRows_128 : decode cX12_laysRows 128 = .ok (.iload 6, 2) := by decide +kernel
theorem dX12_laysRows_130 : decode cX12_laysRows 130 = .ok (.iload 10, 2) := by decide +kernel
theorem dX12_laysRows_132 : decode cX12_laysRows 132 = .ok (.isub, 1) := by decide +kernel
theorem dX12_laysRows_133 : decode cX12_laysRows 133 = .ok (.invokestatic 276, 3) := by decide +kernel
theorem dX12_laysRows_136 : decode cX12_laysRows 136 = .ok (.laload, 1) := by decide +kernel
theorem dX12_laysRows_137 : decode cX12_laysRows 137 = .ok (.ldc2_w 306, 3) := by decide +kernel
theorem wm_2057 : (Jvm.Cond.constantLong "GrownKindsModel" (306 : Nat) (100000000000000000 : Int64)) ∈ gT := gT_in (List.mem_of_getElem? (i := 2057) (by decide +kernel)) (by decide +kernel)
theorem dX12_laysRows_140 : decode cX12_laysRows 140 = .ok (.invokestatic 286, 3) := by decide +kernel
theorem wm_2047 : (Jvm.Cond.methodLink "GrownKindsModel" (286 : Nat) ({ cls := "GrownKindsModel", name := "mul", desc := "(JJJ)J" } : Jvm.MethodName)) ∈ gT := gT_in (List.mem_of_getElem? (i := 2047) (by decide +kernel)) (by decide +kernel)
theorem wm_2048 : (Jvm.Cond.static ({ cls := "GrownKindsModel", name := "mul", desc := "(JJJ)J" } : Jvm.MethodName)) ∈ gT := gT_in (List.mem_of_getElem? (i := 2048) (by decide +kernel)) (by decide +kernel)
theorem wm_2049 : (Jvm.Cond.code ({ cls := "GrownKindsModel", name := "mul", desc := "(JJJ)J" } : Jvm.MethodName) prog_14_method_4_code (6 : Nat) (Option.some Jvm.ClassFile.FieldType.long)) ∈ gT := gT_in (List.mem_of_getElem? (i := 2049) (by decide +kernel)) (by decide +kernel)
theorem dX12_laysRows_143 : decode cX12_laysRows 143 = .ok (.ldc2_w 306, 3) := by decide +kernel
theorem dX12_laysRows_146 : decode cX12_laysRows 146 = .ok (.invokestatic 282, 3) := by decide +kernel
theorem dX12_laysRows_149 : decode cX12_laysRows 149 = .ok (.lstore 7, 2) := by decide +kernel
theorem dX12_laysRows_151 : decode cX12_laysRows 151 = .ok (.iinc 10 1, 3) := by decide +kernel
theorem dX12_laysRows_154 : decode cX12_laysRows 154 = .ok (.goto (-66), 3) := by decide +kernel
theorem dX12_laysRows_157 : decode cX12_laysRows 157 = .ok (.iinc 9 1, 3) := by decide +kernel
theorem dX12_laysRows_160 : decode cX12_laysRows 160 = .ok (.goto (-87), 3) := by decide +kernel
theorem dX12_laysRows_163 : decode cX12_laysRows 163 = .ok (.aload_n 0, 1) := by decide +kernel
theorem dX12_laysRows_164 : decode cX12_laysRows 164 = .ok (.getfield 46, 3) := by decide +kernel
theorem dX12_laysRows_167 : decode cX12_laysRows 167 = .ok (.iload 4, 2) := by decide +kernel
theorem dX12_laysRows_169 : decode cX12_laysRows 169 = .ok (.iload 5, 2) := by decide +kernel
theorem dX12_laysRows_171 : decode cX12_laysRows 171 = .ok (.iload 6, 2) := by decide +kernel
theorem dX12_laysRows_173 : decode cX12_laysRows 173 = .ok (.invokestatic 276, 3) := by decide +kernel
theorem dX12_laysRows_176 : decode cX12_laysRows 176 = .ok (.lload 7, 2) := by decide +kernel
theorem dX12_laysRows_178 : decode cX12_laysRows 178 = .ok (.lastore, 1) := by decide +kernel
theorem dX12_laysRows_179 : decode cX12_laysRows 179 = .ok (.iinc 6 1, 3) := by decide +kernel
theorem dX12_laysRows_182 : decode cX12_laysRows 182 = .ok (.goto (-126), 3) := by decide +kernel
theorem dX12_laysRows_185 : decode cX12_laysRows 185 = .ok (.iinc 5 1, 3) := by decide +kernel
theorem dX12_laysRows_188 : decode cX12_laysRows 188 = .ok (.goto (-141), 3) := by decide +kernel
theorem dX12_laysRows_191 : decode cX12_laysRows 191 = .ok (.iinc 4 1, 3) := by decide +kernel
theorem dX12_laysRows_194 : decode cX12_laysRows 194 = .ok (.goto (-157), 3) := by decide +kernel
theorem dX12_laysRows_197 : decode cX12_laysRows 197 = .ok (.return_, 1) := by decide +kernel
theorem dX12_addsBags_0 : decode cX12_addsBags 0 = .ok (.iload 5, 2) := by decide +kernel
theorem dX12_addsBags_2 : decode cX12_addsBags 2 = .ok (.istore 8, 2) := by decide +kernel
theorem dX12_addsBags_4 : decode cX12_addsBags 4 = .ok (.iload 8, 2) := by decide +kernel
theorem dX12_addsBags_6 : decode cX12_addsBags 6 = .ok (.iload_n 3, 1) := by decide +kernel
theorem dX12_addsBags_7 : decode cX12_addsBags 7 = .ok (.if_icmp .lt 160, 3) := by decide +kernel
theorem dX12_addsBags_10 : decode cX12_addsBags 10 = .ok (.iconst 1, 1) := by decide +kernel
theorem dX12_addsBags_11 : decode cX12_addsBags 11 = .ok (.istore 9, 2) := by decide +kernel
theorem dX12_addsBags_13 : decode cX12_addsBags 13 = .ok (.iload 9, 2) := by decide +kernel
theorem dX12_addsBags_15 : decode cX12_addsBags 15 = .ok (.iload 5, 2) := by decide +kernel
theorem dX12_addsBags_17 : decode cX12_addsBags 17 = .ok (.if_icmp .gt 144, 3) := by decide +kernel
theorem dX12_addsBags_20 : decode cX12_addsBags 20 = .ok (.iconst 0, 1) := by decide +kernel
theorem dX12_addsBags_21 : decode cX12_addsBags 21 = .ok (.istore 10, 2) := by decide +kernel
theorem dX12_addsBags_23 : decode cX12_addsBags 23 = .ok (.iload 10, 2) := by decide +kernel
theorem dX12_addsBags_25 : decode cX12_addsBags 25 = .ok (.iload 6, 2) := by decide +kernel
theorem dX12_addsBags_27 : decode cX12_addsBags 27 = .ok (.if_icmp .gt 128, 3) := by decide +kernel
theorem dX12_addsBags_30 : decode cX12_addsBags 30 = .ok (.aload_n 0, 1) := by decide +kernel
theorem dX12_addsBags_31 : decode cX12_addsBags 31 = .ok (.getfield 46, 3) := by decide +kernel
theorem dX12_addsBags_34 : decode cX12_addsBags 34 = .ok (.iload 9, 2) := by decide +kernel
theorem dX12_addsBags_36 : decode cX12_addsBags 36 = .ok (.iload 8, 2) := by decide +kernel
theorem dX12_addsBags_38 : decode cX12_addsBags 38 = .ok (.iload 10, 2) := by decide +kernel
theorem dX12_addsBags_40 : decode cX12_addsBags 40 = .ok (.invokestatic 276, 3) := by decide +kernel
theorem dX12_addsBags_43 : decode cX12_addsBags 43 = .ok (.laload, 1) := by decide +kernel
theorem dX12_addsBags_44 : decode cX12_addsBags 44 = .ok (.lstore 11, 2) := by decide +kernel
theorem dX12_addsBags_46 : decode cX12_addsBags 46 = .ok (.iconst 1, 1) := by decide +kernel
theorem dX12_addsBags_47 : decode cX12_addsBags 47 = .ok (.istore 13, 2) := by decide +kernel
theorem dX12_addsBags_49 : decode cX12_addsBags 49 = .ok (.iload 13, 2) := by decide +kernel
theorem dX12_addsBags_51 : decode cX12_addsBags 51 = .ok (.iload_n 3, 1) := by decide +kernel
theorem dX12_addsBags_52 : decode cX12_addsBags 52 = .ok (.imul, 1) := by decide +kernel
theorem dX12_addsBags_53 : decode cX12_addsBags 53 = .ok (.iload 8, 2) := by decide +kernel
theorem dX12_addsBags_55 : decode cX12_addsBags 55 = .ok (.if_icmp .gt 78, 3) := by decide +kernel
theorem dX12_addsBags_58 : decode cX12_addsBags 58 = .ok (.iload 13, 2) := by decide +kernel
theorem dX12_addsBags_60 : decode cX12_addsBags 60 = .ok (.iload 9, 2) := by decide +kernel
theorem dX12_addsBags_62 : decode cX12_addsBags 62 = .ok (.if_icmp .gt 71, 3) := by decide +kernel
theorem dX12_addsBags_65 : decode cX12_addsBags 65 = .ok (.iload 13, 2) := by decide +kernel
theorem dX12_addsBags_67 : decode cX12_addsBags 67 = .ok (.iload 4, 2) := by decide +kernel
theorem dX12_addsBags_69 : decode cX12_addsBags 69 = .ok (.imul, 1) := by decide +kernel
theorem dX12_addsBags_70 : decode cX12_addsBags 70 = .ok (.iload 10, 2) := by decide +kernel
theorem dX12_addsBags_72 : decode cX12_addsBags 72 = .ok (.if_icmp .gt 61, 3) := by decide +kernel
theorem dX12_addsBags_75 : decode cX12_addsBags 75 = .ok (.lload 11, 2) := by decide +kernel
theorem dX12_addsBags_77 : decode cX12_addsBags 77 = .ok (.lload_n 1, 1) := by decide +kernel
theorem dX12_addsBags_78 : decode cX12_addsBags 78 = .ok (.iload 13, 2) := by decide +kernel
theorem dX12_addsBags_80 : decode cX12_addsBags 80 = .ok (.iload 7, 2) := by decide +kernel
theorem dX12_addsBags_82 : decode cX12_addsBags 82 = .ok (.invokestatic 316, 3) := by decide +kernel
theorem wm_2041 : (Jvm.Cond.methodLink "GrownKindsModel" (316 : Nat) ({ cls := "GrownKindsModel", name := "chosen", desc := "(JIZ)J" } : Jvm.MethodName)) ∈ gT := gT_in (List.mem_of_getElem? (i := 2041) (by decide +kernel)) (by decide +kernel)
theorem wm_2042 : (Jvm.Cond.static ({ cls := "GrownKindsModel", name := "chosen", desc := "(JIZ)J" } : Jvm.MethodName)) ∈ gT := gT_in (List.mem_of_getElem? (i := 2042) (by decide +kernel)) (by decide +kernel)
theorem wm_2043 : (Jvm.Cond.code ({ cls := "GrownKindsModel", name := "chosen", desc := "(JIZ)J" } : Jvm.MethodName) prog_14_method_60_code (11 : Nat) (Option.some Jvm.ClassFile.FieldType.long)) ∈ gT := gT_in (List.mem_of_getElem? (i := 2043) (by decide +kernel)) (by decide +kernel)
theorem dX12_addsBags_85 : decode cX12_addsBags 85 = .ok (.aload_n 0, 1) := by decide +kernel
theorem dX12_addsBags_86 : decode cX12_addsBags 86 = .ok (.getfield 46, 3) := by decide +kernel
theorem dX12_addsBags_89 : decode cX12_addsBags 89 = .ok (.iload 9, 2) := by decide +kernel
theorem dX12_addsBags_91 : decode cX12_addsBags 91 = .ok (.iload 13, 2) := by decide +kernel
theorem dX12_addsBags_93 : decode cX12_addsBags 93 = .ok (.isub, 1) := by decide +kernel
theorem dX12_addsBags_94 : decode cX12_addsBags 94 = .ok (.iload 8, 2) := by decide +kernel
theorem dX12_addsBags_96 : decode cX12_addsBags 96 = .ok (.iload 13, 2) := by decide +kernel
theorem dX12_addsBags_98 : decode cX12_addsBags 98 = .ok (.iload_n 3, 1) := by decide +kernel
theorem dX12_addsBags_99 : decode cX12_addsBags 99 = .ok (.imul, 1) := by decide +kernel
theorem dX12_addsBags_100 : decode cX12_addsBags 100 = .ok (.isub, 1) := by decide +kernel
theorem dX12_addsBags_101 : decode cX12_addsBags 101 = .ok (.iload 10, 2) := by decide +kernel
theorem dX12_addsBags_103 : decode cX12_addsBags 103 = .ok (.iload 13, 2) := by decide +kernel
theorem dX12_addsBags_105 : decode cX12_addsBags 105 = .ok (.iload 4, 2) := by decide +kernel
theorem dX12_addsBags_107 : decode cX12_addsBags 107 = .ok (.imul, 1) := by decide +kernel
theorem dX12_addsBags_108 : decode cX12_addsBags 108 = .ok (.isub, 1) := by decide +kernel
theorem dX12_addsBags_109 : decode cX12_addsBags 109 = .ok (.invokestatic 276, 3) := by decide +kernel
theorem dX12_addsBags_112 : decode cX12_addsBags 112 = .ok (.laload, 1) := by decide +kernel
theorem dX12_addsBags_113 : decode cX12_addsBags 113 = .ok (.ldc2_w 280, 3) := by decide +kernel
theorem dX12_addsBags_116 : decode cX12_addsBags 116 = .ok (.invokestatic 286, 3) := by decide +kernel
theorem dX12_addsBags_119 : decode cX12_addsBags 119 = .ok (.ldc2_w 280, 3) := by decide +kernel
theorem dX12_addsBags_122 : decode cX12_addsBags 122 = .ok (.invokestatic 282, 3) := by decide +kernel
theorem dX12_addsBags_125 : decode cX12_addsBags 125 = .ok (.lstore 11, 2) := by decide +kernel
theorem dX12_addsBags_127 : decode cX12_addsBags 127 = .ok (.iinc 13 1, 3) := by decide +kernel
theorem dX12_addsBags_130 : decode cX12_addsBags 130 = .ok (.goto (-81), 3) := by decide +kernel
theorem dX12_addsBags_133 : decode cX12_addsBags 133 = .ok (.aload_n 0, 1) := by decide +kernel
theorem dX12_addsBags_134 : decode cX12_addsBags 134 = .ok (.getfield 46, 3) := by decide +kernel
theorem dX12_addsBags_137 : decode cX12_addsBags 137 = .ok (.iload 9, 2) := by decide +kernel
theorem dX12_addsBags_139 : decode cX12_addsBags 139 = .ok (.iload 8, 2) := by decide +kernel
theorem dX12_addsBags_141 : decode cX12_addsBags 141 = .ok (.iload 10, 2) := by decide +kernel
theorem dX12_addsBags_143 : decode cX12_addsBags 143 = .ok (.invokestatic 276, 3) := by decide +kernel
theorem dX12_addsBags_146 : decode cX12_addsBags 146 = .ok (.lload 11, 2) := by decide +kernel
theorem dX12_addsBags_148 : decode cX12_addsBags 148 = .ok (.lastore, 1) := by decide +kernel
theorem dX12_addsBags_149 : decode cX12_addsBags 149 = .ok (.iinc 10 1, 3) := by decide +kernel
theorem dX12_addsBags_152 : decode cX12_addsBags 152 = .ok (.goto (-129), 3) := by decide +kernel
theorem dX12_addsBags_155 : decode cX12_addsBags 155 = .ok (.iinc 9 1, 3) := by decide +kernel
theorem dX12_addsBags_158 : decode cX12_addsBags 158 = .ok (.goto (-145), 3) := by decide +kernel
theorem dX12_addsBags_161 : decode cX12_addsBags 161 = .ok (.iinc 8 (-1), 3) := by decide +kernel
theorem dX12_addsBags_164 : decode cX12_addsBags 164 = .ok (.goto (-160), 3) := by decide +kernel
theorem dX12_addsBags_167 : decode cX12_addsBags 167 = .ok (.return_, 1) := by decide +kernel
theorem dX12_laysBags_0 : decode cX12_laysBags 0 = .ok (.iconst 0, 1) := by decide +kernel
theorem dX12_laysBags_1 : decode cX12_laysBags 1 = .ok (.istore 5, 2) := by decide +kernel
theorem dX12_laysBags_3 : decode cX12_laysBags 3 = .ok (.iload 5, 2) := by decide +kernel
theorem dX12_laysBags_5 : decode cX12_laysBags 5 = .ok (.aload_n 0, 1) := by decide +kernel
theorem dX12_laysBags_6 : decode cX12_laysBags 6 = .ok (.getfield 46, 3) := by decide +kernel
theorem dX12_laysBags_9 : decode cX12_laysBags 9 = .ok (.arraylength, 1) := by decide +kernel
theorem dX12_laysBags_10 : decode cX12_laysBags 10 = .ok (.if_icmp .ge 17, 3) := by decide +kernel
theorem dX12_laysBags_13 : decode cX12_laysBags 13 = .ok (.aload_n 0, 1) := by decide +kernel
theorem dX12_laysBags_14 : decode cX12_laysBags 14 = .ok (.getfield 46, 3) := by decide +kernel
theorem dX12_laysBags_17 : decode cX12_laysBags 17 = .ok (.iload 5, 2) := by decide +kernel
theorem dX12_laysBags_19 : decode cX12_laysBags 19 = .ok (.lconst 0, 1) := by decide +kernel
theorem dX12_laysBags_20 : decode cX12_laysBags 20 = .ok (.lastore, 1) := by decide +kernel
theorem dX12_laysBags_21 : decode cX12_laysBags 21 = .ok (.iinc 5 1, 3) := by decide +kernel
theorem dX12_laysBags_24 : decode cX12_laysBags 24 = .ok (.goto (-21), 3) := by decide +kernel
theorem dX12_laysBags_27 : decode cX12_laysBags 27 = .ok (.aload_n 0, 1) := by decide +kernel
theorem dX12_laysBags_28 : decode cX12_laysBags 28 = .ok (.getfield 46, 3) := by decide +kernel
theorem dX12_laysBags_31 : decode cX12_laysBags 31 = .ok (.iconst 0, 1) := by decide +kernel
theorem dX12_laysBags_32 : decode cX12_laysBags 32 = .ok (.lconst 1, 1) := by decide +kernel
theorem dX12_laysBags_33 : decode cX12_laysBags 33 = .ok (.lastore, 1) := by decide +kernel
theorem dX12_laysBags_34 : decode cX12_laysBags 34 = .ok (.iconst 1, 1) := by decide +kernel
theorem dX12_laysBags_35 : decode cX12_laysBags 35 = .ok (.istore 5, 2) := by decide +kernel
theorem dX12_laysBags_37 : decode cX12_laysBags 37 = .ok (.iload 5, 2) := by decide +kernel
theorem dX12_laysBags_39 : decode cX12_laysBags 39 = .ok (.iload_n 2, 1) := by decide +kernel
theorem dX12_laysBags_40 : decode cX12_laysBags 40 = .ok (.if_icmp .gt 72, 3) := by decide +kernel
theorem dX12_laysBags_43 : decode cX12_laysBags 43 = .ok (.iconst 0, 1) := by decide +kernel
theorem dX12_laysBags_44 : decode cX12_laysBags 44 = .ok (.istore 6, 2) := by decide +kernel
theorem dX12_laysBags_46 : decode cX12_laysBags 46 = .ok (.iload 6, 2) := by decide +kernel
theorem dX12_laysBags_48 : decode cX12_laysBags 48 = .ok (.iload 5, 2) := by decide +kernel
theorem dX12_laysBags_50 : decode cX12_laysBags 50 = .ok (.iload_n 3, 1) := by decide +kernel
theorem dX12_laysBags_51 : decode cX12_laysBags 51 = .ok (.invokestatic 117, 3) := by decide +kernel
theorem dX12_laysBags_54 : decode cX12_laysBags 54 = .ok (.if_icmp .gt 52, 3) := by decide +kernel
theorem dX12_laysBags_57 : decode cX12_laysBags 57 = .ok (.aload_n 0, 1) := by decide +kernel
theorem dX12_laysBags_58 : decode cX12_laysBags 58 = .ok (.getfield 39, 3) := by decide +kernel
theorem dX12_laysBags_61 : decode cX12_laysBags 61 = .ok (.iload_n 1, 1) := by decide +kernel
theorem dX12_laysBags_62 : decode cX12_laysBags 62 = .ok (.iload 5, 2) := by decide +kernel
theorem dX12_laysBags_64 : decode cX12_laysBags 64 = .ok (.iload 6, 2) := by decide +kernel
theorem dX12_laysBags_66 : decode cX12_laysBags 66 = .ok (.invokestatic 276, 3) := by decide +kernel
theorem dX12_laysBags_69 : decode cX12_laysBags 69 = .ok (.laload, 1) := by decide +kernel
theorem dX12_laysBags_70 : decode cX12_laysBags 70 = .ok (.lconst 0, 1) := by decide +kernel
theorem dX12_laysBags_71 : decode cX12_laysBags 71 = .ok (.lcmp, 1) := by decide +kernel
theorem dX12_laysBags_72 : decode cX12_laysBags 72 = .ok (.ifCond .le 28, 3) := by decide +kernel
theorem dX12_laysBags_100 : decode cX12_laysBags 100 = .ok (.iinc 6 1, 3) := by decide +kernel
theorem dX12_laysBags_103 : decode cX12_laysBags 103 = .ok (.goto (-57), 3) := by decide +kernel
theorem dX12_laysBags_75 : decode cX12_laysBags 75 = .ok (.aload_n 0, 1) := by decide +kernel
theorem dX12_laysBags_76 : decode cX12_laysBags 76 = .ok (.aload_n 0, 1) := by decide +kernel
theorem dX12_laysBags_77 : decode cX12_laysBags 77 = .ok (.getfield 39, 3) := by decide +kernel
theorem dX12_laysBags_80 : decode cX12_laysBags 80 = .ok (.iload_n 1, 1) := by decide +kernel
theorem dX12_laysBags_81 : decode cX12_laysBags 81 = .ok (.iload 5, 2) := by decide +kernel
theorem dX12_laysBags_83 : decode cX12_laysBags 83 = .ok (.iload 6, 2) := by decide +kernel
theorem dX12_laysBags_85 : decode cX12_laysBags 85 = .ok (.invokestatic 276, 3) := by decide +kernel
theorem dX12_laysBags_88 : decode cX12_laysBags 88 = .ok (.laload, 1) := by decide +kernel
theorem dX12_laysBags_89 : decode cX12_laysBags 89 = .ok (.iload 5, 2) := by decide +kernel
theorem dX12_laysBags_91 : decode cX12_laysBags 91 = .ok (.iload 6, 2) := by decide +kernel
theorem dX12_laysBags_93 : decode cX12_laysBags 93 = .ok (.iload_n 2, 1) := by decide +kernel
theorem dX12_laysBags_94 : decode cX12_laysBags 94 = .ok (.iload_n 3, 1) := by decide +kernel
theorem dX12_laysBags_95 : decode cX12_laysBags 95 = .ok (.iload 4, 2) := by decide +kernel
theorem dX12_laysBags_97 : decode cX12_laysBags 97 = .ok (.invokevirtual 312, 3) := by decide +kernel
theorem wm_2037 : (Jvm.Cond.methodLink "GrownKindsModel" (312 : Nat) ({ cls := "GrownKindsModel", name := "addsBags", desc := "(JIIIIZ)V" } : Jvm.MethodName)) ∈ gT := gT_in (List.mem_of_getElem? (i := 2037) (by decide +kernel)) (by decide +kernel)
theorem wm_2039 : (Jvm.Cond.instanceMethod ({ cls := "GrownKindsModel", name := "addsBags", desc := "(JIIIIZ)V" } : Jvm.MethodName)) ∈ gT := gT_in (List.mem_of_getElem? (i := 2039) (by decide +kernel)) (by decide +kernel)
theorem wm_119 : Cond.selects "GrownKindsModel" ⟨"GrownKindsModel", "addsBags", "(JIIIIZ)V"⟩ ⟨"GrownKindsModel", "addsBags", "(JIIIIZ)V"⟩ ∈ gT := gT_in (List.mem_of_getElem? (i := 119) (by decide +kernel)) (by decide +kernel)
theorem wm_2040 : (Jvm.Cond.code ({ cls := "GrownKindsModel", name := "addsBags", desc := "(JIIIIZ)V" } : Jvm.MethodName) prog_14_method_62_code (14 : Nat) (Option.none : Option Jvm.ClassFile.FieldType)) ∈ gT := gT_in (List.mem_of_getElem? (i := 2040) (by decide +kernel)) (by decide +kernel)
theorem dX12_laysBags_106 : decode cX12_laysBags 106 = .ok (.iinc 5 1, 3) := by decide +kernel
theorem dX12_laysBags_109 : decode cX12_laysBags 109 = .ok (.goto (-72), 3) := by decide +kernel
theorem dX12_laysBags_112 : decode cX12_laysBags 112 = .ok (.return_, 1) := by decide +kernel
def mX12_in (a1 : Int) (a2 : Int) (a3 : Int) : Option (Int) := gd ((inL a1) ∧ (inL a2)) <| if a1 < a2 then (some (0)) else (gd (inL a3) <| if a3 < a1 then (some (0)) else (some (1)))
set_option maxHeartbeats 4000000 in
set_option maxRecDepth 100000 in
theorem vX12_in (l : Launch) {D : va_G} {cy : Nat → ClassId} {b n : Nat} (hn : 102 ≤ n) {X : Nat → va_E} {S0 : St} (a1 : Int) (a2 : Int) (a3 : Int) {o1 : Int} (hM : mX12_in a1 a2 a3 = some o1) : gI l yX12_in cX12_in 6 (some .boolean) 0 0 0 D cy b n (enc b cy X S0) [.long (jJ a1), .long (jJ a2), .long (jJ a3)] (fun r u => r = iI o1 ∧ u = (n, enc b cy X S0)) := by
  refine gI_of (by decide) (Nat.le_of_ble_eq_true rfl) ?_
  intro p e s m args below meth c S hr hlk hin hsz ls hl hG
  have hx := S.1
  have hb := S.2.1
  have hl : lv_has ls 6 [(0, .long (jJ a1)), (2, .long (jJ a2)), (4, .long (jJ a3))] := hl
  replace hG : gW D cy b n s s.heap [] (enc b cy X S0) := hG
  obtain ⟨H, eH⟩ : ∃ H, H = s.heap := ⟨_, rfl⟩
  obtain ⟨locs, elocs⟩ : ∃ locs : List Loc, locs = [] := ⟨_, rfl⟩
  rw [← eH, ← elocs] at hG
  rw [← eH, ← elocs]
  clear eH elocs
  unfold mX12_in at hM
  refine lv_lload_n hx hb dX12_in_0 rfl (lv_at hl 0 rfl) ?_
  refine lv_lload_n hx hb dX12_in_1 rfl (lv_at hl 1 rfl) ?_
  obtain ⟨hg_1, hM⟩ := gd_some hM
  refine gj_cmp_lt (tgt := 17) hx hb dX12_in_2 dX12_in_3 (by decide) hg_1.1 hg_1.2 (fun c_2 => ?_) (fun c_2 => ?_)
  · replace hM := ifp hM c_2
    refine lv_iconst (v := iI 0) hx hb dX12_in_17 (by decide) ?_
    cases hM
    exact g_zret S hr hlk hG hsz dX12_in_18 ⟨Nat.le_of_ble_eq_true rfl, Nat.le_of_ble_eq_true rfl⟩ (nar_z (by decide)) ⟨rfl, rfl⟩
  · replace hM := ifn hM c_2
    refine lv_lload_n hx hb dX12_in_6 rfl (lv_at hl 0 rfl) ?_
    refine lv_lload hx hb dX12_in_7 (lv_at hl 2 rfl) ?_
    obtain ⟨hg_3, hM⟩ := gd_some hM
    refine gj_cmp_gt (tgt := 17) hx hb dX12_in_9 dX12_in_10 (by decide) hg_1.1 hg_3 (fun c_4 => ?_) (fun c_4 => ?_)
    · replace hM := ifp hM c_4
      refine lv_iconst (v := iI 0) hx hb dX12_in_17 (by decide) ?_
      cases hM
      exact g_zret S hr hlk hG hsz dX12_in_18 ⟨Nat.le_of_ble_eq_true rfl, Nat.le_of_ble_eq_true rfl⟩ (nar_z (by decide)) ⟨rfl, rfl⟩
    · replace hM := ifn hM c_4
      refine lv_iconst (v := iI 1) hx hb dX12_in_13 (by decide) ?_
      refine lv_goto (tgt := 18) hx hb dX12_in_14 (by decide) ?_
      cases hM
      exact g_zret S hr hlk hG hsz dX12_in_18 ⟨Nat.le_of_ble_eq_true rfl, Nat.le_of_ble_eq_true rfl⟩ (nar_z (by decide)) ⟨rfl, rfl⟩
def mX12_has (a1 : Int) (a2 : Int) : Option (Int) := gd (inI (an (shr a1 a2) 1)) <| if (an (shr a1 a2) 1) = 1 then (some (1)) else (some (0))
set_option maxHeartbeats 4000000 in
set_option maxRecDepth 100000 in
theorem vX12_has (l : Launch) {D : va_G} {cy : Nat → ClassId} {b n : Nat} (hn : 102 ≤ n) {X : Nat → va_E} {S0 : St} (a1 : Int) (a2 : Int) {o1 : Int} (hM : mX12_has a1 a2 = some o1) : gI l yX12_has cX12_has 2 (some .boolean) 0 0 0 D cy b n (enc b cy X S0) [.int (iI a1), .int (iI a2)] (fun r u => r = iI o1 ∧ u = (n, enc b cy X S0)) := by
  refine gI_of (by decide) (Nat.le_of_ble_eq_true rfl) ?_
  intro p e s m args below meth c S hr hlk hin hsz ls hl hG
  have hx := S.1
  have hb := S.2.1
  have hl : lv_has ls 2 [(0, .int (iI a1)), (1, .int (iI a2))] := hl
  replace hG : gW D cy b n s s.heap [] (enc b cy X S0) := hG
  obtain ⟨H, eH⟩ : ∃ H, H = s.heap := ⟨_, rfl⟩
  obtain ⟨locs, elocs⟩ : ∃ locs : List Loc, locs = [] := ⟨_, rfl⟩
  rw [← eH, ← elocs] at hG
  rw [← eH, ← elocs]
  clear eH elocs
  unfold mX12_has at hM
  refine lv_iload_n hx hb dX12_has_0 rfl (lv_at hl 0 rfl) ?_
  refine lv_iload_n hx hb dX12_has_1 rfl (lv_at hl 1 rfl) ?_
  refine gi_shr hx hb dX12_has_2 ?_
  refine lv_iconst (v := iI 1) hx hb dX12_has_3 (by decide) ?_
  refine gi_and hx hb dX12_has_4 ?_
  refine lv_iconst (v := iI 1) hx hb dX12_has_5 (by decide) ?_
  obtain ⟨hg_1, hM⟩ := gd_some hM
  refine gi_icmp_ne (tgt := 13) hx hb dX12_has_6 (by decide) hg_1 (by decide) (fun c_2 => ?_) (fun c_2 => ?_)
  · replace hM := ifn hM c_2
    refine lv_iconst (v := iI 0) hx hb dX12_has_13 (by decide) ?_
    cases hM
    exact g_zret S hr hlk hG hsz dX12_has_14 ⟨Nat.le_of_ble_eq_true rfl, Nat.le_of_ble_eq_true rfl⟩ (nar_z (by decide)) ⟨rfl, rfl⟩
  · replace hM := ifp hM c_2
    refine lv_iconst (v := iI 1) hx hb dX12_has_9 (by decide) ?_
    refine lv_goto (tgt := 14) hx hb dX12_has_10 (by decide) ?_
    cases hM
    exact g_zret S hr hlk hG hsz dX12_has_14 ⟨Nat.le_of_ble_eq_true rfl, Nat.le_of_ble_eq_true rfl⟩ (nar_z (by decide)) ⟨rfl, rfl⟩
def mX12_bitsOf_4 (a1 : Int) : Nat → Int → Int → Option (Int)
  | 0, _, _ => none
  | f + 1, v_1, v_2 => gd (inI v_1) <| if 31 ≤ v_1 then (some (v_2)) else (nx (v_2 + (an (shr a1 v_1) 1)) fun x_11 => mX12_bitsOf_4 a1 f (v_1 + 1) x_11)
def mX12_bitsOf (a1 : Int) : Option (Int) := bd1 (mX12_bitsOf_4 a1 FU 0 0) fun y_3 => some (y_3)
set_option maxHeartbeats 4000000 in
set_option maxRecDepth 100000 in
theorem vX12_bitsOf (l : Launch) {D : va_G} {cy : Nat → ClassId} {b n : Nat} (hn : 102 ≤ n) {X : Nat → va_E} {S0 : St} (a1 : Int) {o1 : Int} (hM : mX12_bitsOf a1 = some o1) : gI l yX12_bitsOf cX12_bitsOf 3 (some .int) 0 0 0 D cy b n (enc b cy X S0) [.int (iI a1)] (fun r u => r = iI o1 ∧ u = (n, enc b cy X S0)) := by
  refine gI_of (by decide) (Nat.le_of_ble_eq_true rfl) ?_
  intro p e s m args below meth c S hr hlk hin hsz ls hl hG
  have hx := S.1
  have hb := S.2.1
  have hl : lv_has ls 3 [(0, .int (iI a1))] := hl
  replace hG : gW D cy b n s s.heap [] (enc b cy X S0) := hG
  obtain ⟨H, eH⟩ : ∃ H, H = s.heap := ⟨_, rfl⟩
  obtain ⟨locs, elocs⟩ : ∃ locs : List Loc, locs = [] := ⟨_, rfl⟩
  rw [← eH, ← elocs] at hG
  rw [← eH, ← elocs]
  clear eH elocs
  unfold mX12_bitsOf at hM
  refine lv_iconst (v := iI 0) hx hb dX12_bitsOf_0 (by decide) ?_
  refine lv_istore_n (lv' := [(1, .int (iI 0)), (0, .int (iI a1))]) hx hb dX12_bitsOf_1 rfl hl (by decide) rfl (fun ls hl => ?_)
  refine lv_iconst (v := iI 0) hx hb dX12_bitsOf_2 (by decide) ?_
  refine lv_istore_n (lv' := [(2, .int (iI 0)), (1, .int (iI 0)), (0, .int (iI a1))]) hx hb dX12_bitsOf_3 rfl hl (by decide) rfl (fun ls hl => ?_)
  obtain ⟨y_3, hc_4, hM⟩ := bd1_some hM
  have hK_5 : ∀ (H : Heap) (locs : List Loc) (ls : Array Slot), gW D cy b n s H locs (enc b cy X S0) → lv_has ls 3 [(1, .int (iI y_3))] → W p l e (gRm 0 0 0) s m args below meth c H locs 0 0 (gQI D cy b s args below 0 0 (fun r u => r = iI o1 ∧ u = (n, enc b cy X S0))) (F0 m 24 ls []) := by
    intro H locs ls hG hl
    refine lv_iload_n hx hb dX12_bitsOf_24 rfl (lv_at hl 0 rfl) ?_
    cases hM
    exact g_iret S hr hlk hG hsz dX12_bitsOf_25 ⟨Nat.le_of_ble_eq_true rfl, Nat.le_of_ble_eq_true rfl⟩ ⟨rfl, rfl⟩
  have loop_6 : ∀ (f : Nat) (v_1 : Int) (v_2 : Int) (H : Heap) (locs : List Loc) (ls : Array Slot), mX12_bitsOf_4 a1 f v_1 v_2 = some y_3 → gW D cy b n s H locs (enc b cy X S0) → lv_has ls 3 [(2, .int (iI v_1)), (1, .int (iI v_2)), (0, .int (iI a1))] → W p l e (gRm 0 0 0) s m args below meth c H locs 0 0 (gQI D cy b s args below 0 0 (fun r u => r = iI o1 ∧ u = (n, enc b cy X S0))) (F0 m 4 ls []) := by
    clear hM
    intro f
    induction f with
    | zero => intro v_1 v_2 H locs ls hM; rw [mX12_bitsOf_4] at hM; cases hM
    | succ f_8 ih_7 =>
      intro v_1 v_2 H locs ls hM hG hl
      rw [mX12_bitsOf_4] at hM
      refine lv_iload_n hx hb dX12_bitsOf_4 rfl (lv_at hl 0 rfl) ?_
      refine lv_bipush (v := iI 31) hx hb dX12_bitsOf_5 (by decide) ?_
      obtain ⟨hg_9, hM⟩ := gd_some hM
      refine gi_icmp_ge (tgt := 24) hx hb dX12_bitsOf_7 (by decide) hg_9 (by decide) (fun c_10 => ?_) (fun c_10 => ?_)
      · replace hM := ifp hM c_10
        cases hM
        exact hK_5 H locs ls hG (lv_sub hl [1] rfl)
      · replace hM := ifn hM c_10
        refine lv_iload_n hx hb dX12_bitsOf_10 rfl (lv_at hl 1 rfl) ?_
        refine lv_iload_n hx hb dX12_bitsOf_11 rfl (lv_at hl 2 rfl) ?_
        refine lv_iload_n hx hb dX12_bitsOf_12 rfl (lv_at hl 0 rfl) ?_
        refine gi_shr hx hb dX12_bitsOf_13 ?_
        refine lv_iconst (v := iI 1) hx hb dX12_bitsOf_14 (by decide) ?_
        refine gi_and hx hb dX12_bitsOf_15 ?_
        refine gi_add hx hb dX12_bitsOf_16 ?_
        refine gi_nm (fun x_11 ex_11 => ?_)
        replace hM := nx_at hM ex_11
        clear ex_11
        refine lv_istore_n (lv' := [(1, .int (iI x_11)), (2, .int (iI v_1)), (0, .int (iI a1))]) hx hb dX12_bitsOf_17 rfl hl (by decide) rfl (fun ls hl => ?_)
        refine lv_iinc (v := iI (v_1 + 1)) (lv' := [(2, .int (iI (v_1 + 1))), (1, .int (iI x_11)), (0, .int (iI a1))]) hx hb dX12_bitsOf_18 hl (k := 1) rfl ((iI_add v_1 (1)).trans (congrArg iI (by omega))) (by decide) rfl (fun ls hl => ?_)
        refine lv_goto (tgt := 4) hx hb dX12_bitsOf_21 (by decide) ?_
        exact ih_7 (v_1 + 1) x_11 H locs ls hM hG (lv_sub hl [0, 1, 2] rfl)
  exact loop_6 FU 0 0 H locs ls hc_4 hG (lv_sub hl [0, 1, 2] rfl)
def mX12_mul (a1 : Int) (a2 : Int) (a3 : Int) : Option (Int) := gd (inL a1) <| if a1 = 0 then (some (0)) else (gd (inL a2) <| if a2 = 0 then (some (0)) else (gd ((0 ≤ a3 ∧ a3 ≤ 9223372036854775807) ∧ (0 < a2 ∧ a2 ≤ 9223372036854775807)) <| gd (inL (a3 / a2)) <| if a1 ≤ (a3 / a2) then (some ((a1 * a2))) else (some (a3))))
set_option maxHeartbeats 4000000 in
set_option maxRecDepth 100000 in
theorem vX12_mul (l : Launch) {D : va_G} {cy : Nat → ClassId} {b n : Nat} (hn : 102 ≤ n) {X : Nat → va_E} {S0 : St} (a1 : Int) (a2 : Int) (a3 : Int) {o1 : Int} (hM : mX12_mul a1 a2 a3 = some o1) : gL l yX12_mul cX12_mul 6 0 0 0 D cy b n (enc b cy X S0) [.long (jJ a1), .long (jJ a2), .long (jJ a3)] (fun r u => r = jJ o1 ∧ u = (n, enc b cy X S0)) := by
  refine gL_of (by decide) (Nat.le_of_ble_eq_true rfl) ?_
  intro p e s m args below meth c S hr hlk hin hsz ls hl hG
  have hx := S.1
  have hb := S.2.1
  have hl : lv_has ls 6 [(0, .long (jJ a1)), (2, .long (jJ a2)), (4, .long (jJ a3))] := hl
  replace hG : gW D cy b n s s.heap [] (enc b cy X S0) := hG
  obtain ⟨H, eH⟩ : ∃ H, H = s.heap := ⟨_, rfl⟩
  obtain ⟨locs, elocs⟩ : ∃ locs : List Loc, locs = [] := ⟨_, rfl⟩
  rw [← eH, ← elocs] at hG
  rw [← eH, ← elocs]
  clear eH elocs
  unfold mX12_mul at hM
  refine lv_lload_n hx hb dX12_mul_0 rfl (lv_at hl 0 rfl) ?_
  refine lv_lconst (v := jJ 0) hx hb dX12_mul_1 (by decide) ?_
  obtain ⟨hg_1, hM⟩ := gd_some hM
  refine gj_cmp_eq (tgt := 12) hx hb dX12_mul_2 dX12_mul_3 (by decide) hg_1 (by decide) (fun c_2 => ?_) (fun c_2 => ?_)
  · replace hM := ifp hM c_2
    refine lv_lconst (v := jJ 0) hx hb dX12_mul_12 (by decide) ?_
    cases hM
    exact g_lret S hr hlk hG hsz dX12_mul_13 ⟨Nat.le_of_ble_eq_true rfl, Nat.le_of_ble_eq_true rfl⟩ ⟨rfl, rfl⟩
  · replace hM := ifn hM c_2
    refine lv_lload_n hx hb dX12_mul_6 rfl (lv_at hl 1 rfl) ?_
    refine lv_lconst (v := jJ 0) hx hb dX12_mul_7 (by decide) ?_
    obtain ⟨hg_3, hM⟩ := gd_some hM
    refine gj_cmp_ne (tgt := 14) hx hb dX12_mul_8 dX12_mul_9 (by decide) hg_3 (by decide) (fun c_4 => ?_) (fun c_4 => ?_)
    · replace hM := ifn hM c_4
      refine lv_lload_n hx hb dX12_mul_14 rfl (lv_at hl 0 rfl) ?_
      refine lv_lload hx hb dX12_mul_15 (lv_at hl 2 rfl) ?_
      refine lv_lload_n hx hb dX12_mul_17 rfl (lv_at hl 1 rfl) ?_
      obtain ⟨hg_5, hM⟩ := gd_some hM
      refine gj_div hx hb dX12_mul_18 hg_5.1 hg_5.2 ?_
      obtain ⟨hg_6, hM⟩ := gd_some hM
      refine gj_cmp_le (tgt := 28) hx hb dX12_mul_19 dX12_mul_20 (by decide) hg_1 hg_6 (fun c_7 => ?_) (fun c_7 => ?_)
      · replace hM := ifp hM c_7
        refine lv_lload_n hx hb dX12_mul_28 rfl (lv_at hl 0 rfl) ?_
        refine lv_lload_n hx hb dX12_mul_29 rfl (lv_at hl 1 rfl) ?_
        refine gj_mul hx hb dX12_mul_30 ?_
        cases hM
        exact g_lret S hr hlk hG hsz dX12_mul_31 ⟨Nat.le_of_ble_eq_true rfl, Nat.le_of_ble_eq_true rfl⟩ ⟨rfl, rfl⟩
      · replace hM := ifn hM c_7
        refine lv_lload hx hb dX12_mul_23 (lv_at hl 2 rfl) ?_
        refine lv_goto (tgt := 31) hx hb dX12_mul_25 (by decide) ?_
        cases hM
        exact g_lret S hr hlk hG hsz dX12_mul_31 ⟨Nat.le_of_ble_eq_true rfl, Nat.le_of_ble_eq_true rfl⟩ ⟨rfl, rfl⟩
    · replace hM := ifp hM c_4
      refine lv_lconst (v := jJ 0) hx hb dX12_mul_12 (by decide) ?_
      cases hM
      exact g_lret S hr hlk hG hsz dX12_mul_13 ⟨Nat.le_of_ble_eq_true rfl, Nat.le_of_ble_eq_true rfl⟩ ⟨rfl, rfl⟩
def mX12_add (a1 : Int) (a2 : Int) (a3 : Int) : Option (Int) := gd ((inL a3) ∧ (inL (a1 + a2))) <| some ((min a3 (a1 + a2)))
set_option maxHeartbeats 4000000 in
set_option maxRecDepth 100000 in
theorem vX12_add (l : Launch) {D : va_G} {cy : Nat → ClassId} {b n : Nat} (hn : 102 ≤ n) {X : Nat → va_E} {S0 : St} (a1 : Int) (a2 : Int) (a3 : Int) {o1 : Int} (hM : mX12_add a1 a2 a3 = some o1) : gL l yX12_add cX12_add 6 1 0 0 D cy b n (enc b cy X S0) [.long (jJ a1), .long (jJ a2), .long (jJ a3)] (fun r u => r = jJ o1 ∧ u = (n, enc b cy X S0)) := by
  refine gL_of (by decide) (Nat.le_of_ble_eq_true rfl) ?_
  intro p e s m args below meth c S hr hlk hin hsz ls hl hG
  have hx := S.1
  have hb := S.2.1
  have hl : lv_has ls 6 [(0, .long (jJ a1)), (2, .long (jJ a2)), (4, .long (jJ a3))] := hl
  replace hG : gW D cy b n s s.heap [] (enc b cy X S0) := hG
  obtain ⟨H, eH⟩ : ∃ H, H = s.heap := ⟨_, rfl⟩
  obtain ⟨locs, elocs⟩ : ∃ locs : List Loc, locs = [] := ⟨_, rfl⟩
  rw [← eH, ← elocs] at hG
  rw [← eH, ← elocs]
  clear eH elocs
  unfold mX12_add at hM
  refine lv_lload hx hb dX12_add_0 (lv_at hl 2 rfl) ?_
  refine lv_lload_n hx hb dX12_add_2 rfl (lv_at hl 0 rfl) ?_
  refine lv_lload_n hx hb dX12_add_3 rfl (lv_at hl 1 rfl) ?_
  refine gj_add hx hb dX12_add_4 ?_
  obtain ⟨hg_1, hM⟩ := gd_some hM
  refine gj_min S wm_2046 wm_1149 wm_190 wm_1150 hl.1 dX12_add_5 ⟨Nat.le_of_ble_eq_true rfl, Nat.le_of_ble_eq_true rfl, Nat.le_of_ble_eq_true rfl, Nat.le_of_ble_eq_true rfl⟩ hg_1.1 hg_1.2 ?_
  cases hM
  exact g_lret S hr hlk hG hsz dX12_add_8 ⟨Nat.le_of_ble_eq_true rfl, Nat.le_of_ble_eq_true rfl⟩ ⟨rfl, rfl⟩
def mX12_place (a1 : Int) (a2 : Int) (a3 : Int) : Option (Int) := some (((((a1 * 8) + a2) * 8) + a3))
set_option maxHeartbeats 4000000 in
set_option maxRecDepth 100000 in
theorem vX12_place (l : Launch) {D : va_G} {cy : Nat → ClassId} {b n : Nat} (hn : 102 ≤ n) {X : Nat → va_E} {S0 : St} (a1 : Int) (a2 : Int) (a3 : Int) {o1 : Int} (hM : mX12_place a1 a2 a3 = some o1) : gI l yX12_place cX12_place 3 (some .int) 0 0 0 D cy b n (enc b cy X S0) [.int (iI a1), .int (iI a2), .int (iI a3)] (fun r u => r = iI o1 ∧ u = (n, enc b cy X S0)) := by
  refine gI_of (by decide) (Nat.le_of_ble_eq_true rfl) ?_
  intro p e s m args below meth c S hr hlk hin hsz ls hl hG
  have hx := S.1
  have hb := S.2.1
  have hl : lv_has ls 3 [(0, .int (iI a1)), (1, .int (iI a2)), (2, .int (iI a3))] := hl
  replace hG : gW D cy b n s s.heap [] (enc b cy X S0) := hG
  obtain ⟨H, eH⟩ : ∃ H, H = s.heap := ⟨_, rfl⟩
  obtain ⟨locs, elocs⟩ : ∃ locs : List Loc, locs = [] := ⟨_, rfl⟩
  rw [← eH, ← elocs] at hG
  rw [← eH, ← elocs]
  clear eH elocs
  unfold mX12_place at hM
  refine lv_iload_n hx hb dX12_place_0 rfl (lv_at hl 0 rfl) ?_
  refine lv_bipush (v := iI 8) hx hb dX12_place_1 (by decide) ?_
  refine gi_mul hx hb dX12_place_3 ?_
  refine lv_iload_n hx hb dX12_place_4 rfl (lv_at hl 1 rfl) ?_
  refine gi_add hx hb dX12_place_5 ?_
  refine lv_bipush (v := iI 8) hx hb dX12_place_6 (by decide) ?_
  refine gi_mul hx hb dX12_place_8 ?_
  refine lv_iload_n hx hb dX12_place_9 rfl (lv_at hl 2 rfl) ?_
  refine gi_add hx hb dX12_place_10 ?_
  cases hM
  exact g_iret S hr hlk hG hsz dX12_place_11 ⟨Nat.le_of_ble_eq_true rfl, Nat.le_of_ble_eq_true rfl⟩ ⟨rfl, rfl⟩
def mX12_less (a1 : Int) : Option (Int) := gd (inI a1) <| if 0 ≤ a1 then (some ((a1 - 1))) else (some ((-1)))
set_option maxHeartbeats 4000000 in
set_option maxRecDepth 100000 in
theorem vX12_less (l : Launch) {D : va_G} {cy : Nat → ClassId} {b n : Nat} (hn : 102 ≤ n) {X : Nat → va_E} {S0 : St} (a1 : Int) {o1 : Int} (hM : mX12_less a1 = some o1) : gI l yX12_less cX12_less 1 (some .int) 0 0 0 D cy b n (enc b cy X S0) [.int (iI a1)] (fun r u => r = iI o1 ∧ u = (n, enc b cy X S0)) := by
  refine gI_of (by decide) (Nat.le_of_ble_eq_true rfl) ?_
  intro p e s m args below meth c S hr hlk hin hsz ls hl hG
  have hx := S.1
  have hb := S.2.1
  have hl : lv_has ls 1 [(0, .int (iI a1))] := hl
  replace hG : gW D cy b n s s.heap [] (enc b cy X S0) := hG
  obtain ⟨H, eH⟩ : ∃ H, H = s.heap := ⟨_, rfl⟩
  obtain ⟨locs, elocs⟩ : ∃ locs : List Loc, locs = [] := ⟨_, rfl⟩
  rw [← eH, ← elocs] at hG
  rw [← eH, ← elocs]
  clear eH elocs
  unfold mX12_less at hM
  refine lv_iload_n hx hb dX12_less_0 rfl (lv_at hl 0 rfl) ?_
  obtain ⟨hg_1, hM⟩ := gd_some hM
  refine gi_if_ge (tgt := 8) hx hb dX12_less_1 (by decide) hg_1 (fun c_2 => ?_) (fun c_2 => ?_)
  · replace hM := ifp hM c_2
    refine lv_iload_n hx hb dX12_less_8 rfl (lv_at hl 0 rfl) ?_
    refine lv_iconst (v := iI 1) hx hb dX12_less_9 (by decide) ?_
    refine gi_sub hx hb dX12_less_10 ?_
    cases hM
    exact g_iret S hr hlk hG hsz dX12_less_11 ⟨Nat.le_of_ble_eq_true rfl, Nat.le_of_ble_eq_true rfl⟩ ⟨rfl, rfl⟩
  · replace hM := ifn hM c_2
    refine lv_iconst (v := iI (-1)) hx hb dX12_less_4 (by decide) ?_
    refine lv_goto (tgt := 11) hx hb dX12_less_5 (by decide) ?_
    cases hM
    exact g_iret S hr hlk hG hsz dX12_less_11 ⟨Nat.le_of_ble_eq_true rfl, Nat.le_of_ble_eq_true rfl⟩ ⟨rfl, rfl⟩
def mX12_turnsOf (a1 : Int) : Option (Int) := gd (inI a1) <| if 3 ≤ a1 then (if a1 = 5 then (some (4)) else (if a1 = 7 then (some (6)) else (some (2)))) else (some (1))
set_option maxHeartbeats 4000000 in
set_option maxRecDepth 100000 in
theorem vX12_turnsOf (l : Launch) {D : va_G} {cy : Nat → ClassId} {b n : Nat} (hn : 102 ≤ n) {X : Nat → va_E} {S0 : St} (a1 : Int) {o1 : Int} (hM : mX12_turnsOf a1 = some o1) : gI l yX12_turnsOf cX12_turnsOf 1 (some .int) 0 0 0 D cy b n (enc b cy X S0) [.int (iI a1)] (fun r u => r = iI o1 ∧ u = (n, enc b cy X S0)) := by
  refine gI_of (by decide) (Nat.le_of_ble_eq_true rfl) ?_
  intro p e s m args below meth c S hr hlk hin hsz ls hl hG
  have hx := S.1
  have hb := S.2.1
  have hl : lv_has ls 1 [(0, .int (iI a1))] := hl
  replace hG : gW D cy b n s s.heap [] (enc b cy X S0) := hG
  obtain ⟨H, eH⟩ : ∃ H, H = s.heap := ⟨_, rfl⟩
  obtain ⟨locs, elocs⟩ : ∃ locs : List Loc, locs = [] := ⟨_, rfl⟩
  rw [← eH, ← elocs] at hG
  rw [← eH, ← elocs]
  clear eH elocs
  unfold mX12_turnsOf at hM
  refine lv_iload_n hx hb dX12_turnsOf_0 rfl (lv_at hl 0 rfl) ?_
  refine lv_iconst (v := iI 3) hx hb dX12_turnsOf_1 (by decide) ?_
  obtain ⟨hg_1, hM⟩ := gd_some hM
  refine gi_icmp_ge (tgt := 9) hx hb dX12_turnsOf_2 (by decide) hg_1 (by decide) (fun c_2 => ?_) (fun c_2 => ?_)
  · replace hM := ifp hM c_2
    refine lv_iload_n hx hb dX12_turnsOf_9 rfl (lv_at hl 0 rfl) ?_
    refine lv_iconst (v := iI 5) hx hb dX12_turnsOf_10 (by decide) ?_
    refine gi_icmp_ne (tgt := 18) hx hb dX12_turnsOf_11 (by decide) hg_1 (by decide) (fun c_3 => ?_) (fun c_3 => ?_)
    · replace hM := ifn hM c_3
      refine lv_iload_n hx hb dX12_turnsOf_18 rfl (lv_at hl 0 rfl) ?_
      refine lv_bipush (v := iI 7) hx hb dX12_turnsOf_19 (by decide) ?_
      refine gi_icmp_ne (tgt := 29) hx hb dX12_turnsOf_21 (by decide) hg_1 (by decide) (fun c_4 => ?_) (fun c_4 => ?_)
      · replace hM := ifn hM c_4
        refine lv_iconst (v := iI 2) hx hb dX12_turnsOf_29 (by decide) ?_
        cases hM
        exact g_iret S hr hlk hG hsz dX12_turnsOf_30 ⟨Nat.le_of_ble_eq_true rfl, Nat.le_of_ble_eq_true rfl⟩ ⟨rfl, rfl⟩
      · replace hM := ifp hM c_4
        refine lv_bipush (v := iI 6) hx hb dX12_turnsOf_24 (by decide) ?_
        refine lv_goto (tgt := 30) hx hb dX12_turnsOf_26 (by decide) ?_
        cases hM
        exact g_iret S hr hlk hG hsz dX12_turnsOf_30 ⟨Nat.le_of_ble_eq_true rfl, Nat.le_of_ble_eq_true rfl⟩ ⟨rfl, rfl⟩
    · replace hM := ifp hM c_3
      refine lv_iconst (v := iI 4) hx hb dX12_turnsOf_14 (by decide) ?_
      refine lv_goto (tgt := 30) hx hb dX12_turnsOf_15 (by decide) ?_
      cases hM
      exact g_iret S hr hlk hG hsz dX12_turnsOf_30 ⟨Nat.le_of_ble_eq_true rfl, Nat.le_of_ble_eq_true rfl⟩ ⟨rfl, rfl⟩
  · replace hM := ifn hM c_2
    refine lv_iconst (v := iI 1) hx hb dX12_turnsOf_5 (by decide) ?_
    refine lv_goto (tgt := 30) hx hb dX12_turnsOf_6 (by decide) ?_
    cases hM
    exact g_iret S hr hlk hG hsz dX12_turnsOf_30 ⟨Nat.le_of_ble_eq_true rfl, Nat.le_of_ble_eq_true rfl⟩ ⟨rfl, rfl⟩
def mX12_common_4  : Nat → Int → Int → Option (Int)
  | 0, _, _ => none
  | f + 1, v_1, v_2 => gd (inI v_1) <| if v_1 ≤ 0 then (some (v_2)) else (gd ((0 ≤ v_2 ∧ v_2 ≤ 2147483647) ∧ (0 < v_1 ∧ v_1 ≤ 2147483647)) <| nx (v_2 % v_1) fun x_12 => mX12_common_4 f x_12 v_1)
def mX12_common (a1 : Int) (a2 : Int) : Option (Int) := bd1 (mX12_common_4 FU a2 a1) fun y_3 => some (y_3)
set_option maxHeartbeats 4000000 in
set_option maxRecDepth 100000 in
theorem vX12_common (l : Launch) {D : va_G} {cy : Nat → ClassId} {b n : Nat} (hn : 102 ≤ n) {X : Nat → va_E} {S0 : St} (a1 : Int) (a2 : Int) {o1 : Int} (hM : mX12_common a1 a2 = some o1) : gI l yX12_common cX12_common 5 (some .int) 0 0 0 D cy b n (enc b cy X S0) [.int (iI a1), .int (iI a2)] (fun r u => r = iI o1 ∧ u = (n, enc b cy X S0)) := by
  refine gI_of (by decide) (Nat.le_of_ble_eq_true rfl) ?_
  intro p e s m args below meth c S hr hlk hin hsz ls hl hG
  have hx := S.1
  have hb := S.2.1
  have hl : lv_has ls 5 [(0, .int (iI a1)), (1, .int (iI a2))] := hl
  replace hG : gW D cy b n s s.heap [] (enc b cy X S0) := hG
  obtain ⟨H, eH⟩ : ∃ H, H = s.heap := ⟨_, rfl⟩
  obtain ⟨locs, elocs⟩ : ∃ locs : List Loc, locs = [] := ⟨_, rfl⟩
  rw [← eH, ← elocs] at hG
  rw [← eH, ← elocs]
  clear eH elocs
  unfold mX12_common at hM
  refine lv_iload_n hx hb dX12_common_0 rfl (lv_at hl 0 rfl) ?_
  refine lv_istore_n (lv' := [(2, .int (iI a1)), (0, .int (iI a1)), (1, .int (iI a2))]) hx hb dX12_common_1 rfl hl (by decide) rfl (fun ls hl => ?_)
  refine lv_iload_n hx hb dX12_common_2 rfl (lv_at hl 2 rfl) ?_
  refine lv_istore_n (lv' := [(3, .int (iI a2)), (2, .int (iI a1)), (0, .int (iI a1)), (1, .int (iI a2))]) hx hb dX12_common_3 rfl hl (by decide) rfl (fun ls hl => ?_)
  obtain ⟨y_3, hc_4, hM⟩ := bd1_some hM
  have hK_5 : ∀ (H : Heap) (locs : List Loc) (ls : Array Slot), gW D cy b n s H locs (enc b cy X S0) → lv_has ls 5 [(2, .int (iI y_3))] → W p l e (gRm 0 0 0) s m args below meth c H locs 0 0 (gQI D cy b s args below 0 0 (fun r u => r = iI o1 ∧ u = (n, enc b cy X S0))) (F0 m 21 ls []) := by
    intro H locs ls hG hl
    refine lv_iload_n hx hb dX12_common_21 rfl (lv_at hl 0 rfl) ?_
    cases hM
    exact g_iret S hr hlk hG hsz dX12_common_22 ⟨Nat.le_of_ble_eq_true rfl, Nat.le_of_ble_eq_true rfl⟩ ⟨rfl, rfl⟩
  have loop_6 : ∀ (f : Nat) (v_1 : Int) (v_2 : Int) (H : Heap) (locs : List Loc) (ls : Array Slot), mX12_common_4 f v_1 v_2 = some y_3 → gW D cy b n s H locs (enc b cy X S0) → lv_has ls 5 [(3, .int (iI v_1)), (2, .int (iI v_2))] → W p l e (gRm 0 0 0) s m args below meth c H locs 0 0 (gQI D cy b s args below 0 0 (fun r u => r = iI o1 ∧ u = (n, enc b cy X S0))) (F0 m 4 ls []) := by
    clear hM
    intro f
    induction f with
    | zero => intro v_1 v_2 H locs ls hM; rw [mX12_common_4] at hM; cases hM
    | succ f_8 ih_7 =>
      intro v_1 v_2 H locs ls hM hG hl
      rw [mX12_common_4] at hM
      refine lv_iload_n hx hb dX12_common_4 rfl (lv_at hl 0 rfl) ?_
      obtain ⟨hg_9, hM⟩ := gd_some hM
      refine gi_if_le (tgt := 21) hx hb dX12_common_5 (by decide) hg_9 (fun c_10 => ?_) (fun c_10 => ?_)
      · replace hM := ifp hM c_10
        cases hM
        exact hK_5 H locs ls hG (lv_sub hl [1] rfl)
      · replace hM := ifn hM c_10
        refine lv_iload_n hx hb dX12_common_8 rfl (lv_at hl 1 rfl) ?_
        refine lv_iload_n hx hb dX12_common_9 rfl (lv_at hl 0 rfl) ?_
        obtain ⟨hg_11, hM⟩ := gd_some hM
        refine gi_rem hx hb dX12_common_10 hg_11.1 hg_11.2 ?_
        refine gi_nm (fun x_12 ex_12 => ?_)
        replace hM := nx_at hM ex_12
        clear ex_12
        refine lv_istore (lv' := [(4, .int (iI x_12)), (3, .int (iI v_1)), (2, .int (iI v_2))]) hx hb dX12_common_11 hl (by decide) rfl (fun ls hl => ?_)
        refine lv_iload_n hx hb dX12_common_13 rfl (lv_at hl 1 rfl) ?_
        refine lv_istore_n (lv' := [(2, .int (iI v_1)), (4, .int (iI x_12)), (3, .int (iI v_1))]) hx hb dX12_common_14 rfl hl (by decide) rfl (fun ls hl => ?_)
        refine lv_iload hx hb dX12_common_15 (lv_at hl 1 rfl) ?_
        refine lv_istore_n (lv' := [(3, .int (iI x_12)), (2, .int (iI v_1)), (4, .int (iI x_12))]) hx hb dX12_common_17 rfl hl (by decide) rfl (fun ls hl => ?_)
        refine lv_goto (tgt := 4) hx hb dX12_common_18 (by decide) ?_
        exact ih_7 x_12 v_1 H locs ls hM hG (lv_sub hl [0, 1] rfl)
  exact loop_6 FU a2 a1 H locs ls hc_4 hG (lv_sub hl [0, 1] rfl)
theorem wS_12_539 : gWS "GrownKindsModel" 539 yX12_common cX12_common 5 (some .int) := ⟨wm_2381, wm_2382, wm_188, wm_2383, by decide +kernel, by decide +kernel⟩
def mX12_part (a1 : Int) (a2 : Int) (a3 : Int) : Option (Int) := gd (inI a3) <| if a3 = 0 then (bd1 (mX12_common a1 a2) fun r_7 => gd ((0 ≤ a1 ∧ a1 ≤ 2147483647) ∧ (0 < r_7 ∧ r_7 ≤ 2147483647)) <| some ((a1 / r_7))) else (bd1 (mX12_common a1 a2) fun r_4 => gd ((0 ≤ a2 ∧ a2 ≤ 2147483647) ∧ (0 < r_4 ∧ r_4 ≤ 2147483647)) <| some ((a2 / r_4)))
set_option maxHeartbeats 4000000 in
set_option maxRecDepth 100000 in
theorem vX12_part (l : Launch) {D : va_G} {cy : Nat → ClassId} {b n : Nat} (hn : 102 ≤ n) {X : Nat → va_E} {S0 : St} (a1 : Int) (a2 : Int) (a3 : Int) {o1 : Int} (hM : mX12_part a1 a2 a3 = some o1) : gI l yX12_part cX12_part 3 (some .int) 1 0 0 D cy b n (enc b cy X S0) [.int (iI a1), .int (iI a2), .int (iI a3)] (fun r u => r = iI o1 ∧ u = (n, enc b cy X S0)) := by
  refine gI_of (by decide) (Nat.le_of_ble_eq_true rfl) ?_
  intro p e s m args below meth c S hr hlk hin hsz ls hl hG
  have hx := S.1
  have hb := S.2.1
  have hl : lv_has ls 3 [(0, .int (iI a1)), (1, .int (iI a2)), (2, .int (iI a3))] := hl
  replace hG : gW D cy b n s s.heap [] (enc b cy X S0) := hG
  obtain ⟨H, eH⟩ : ∃ H, H = s.heap := ⟨_, rfl⟩
  obtain ⟨locs, elocs⟩ : ∃ locs : List Loc, locs = [] := ⟨_, rfl⟩
  rw [← eH, ← elocs] at hG
  rw [← eH, ← elocs]
  clear eH elocs
  unfold mX12_part at hM
  refine lv_iload_n hx hb dX12_part_0 rfl (lv_at hl 2 rfl) ?_
  obtain ⟨hg_1, hM⟩ := gd_some hM
  refine gi_if_ne (tgt := 8) hx hb dX12_part_1 (by decide) hg_1 (fun c_2 => ?_) (fun c_2 => ?_)
  · replace hM := ifn hM c_2
    refine lv_iload_n hx hb dX12_part_8 rfl (lv_at hl 1 rfl) ?_
    refine lv_iload_n hx hb dX12_part_9 rfl (lv_at hl 0 rfl) ?_
    refine lv_iload_n hx hb dX12_part_10 rfl (lv_at hl 1 rfl) ?_
    obtain ⟨r_4, hc_3, hM⟩ := bd1_some hM
    refine g_si (As := [.int (iI a1), .int (iI a2)]) (rest := [.int (iI a2)]) S hG hsz (vX12_common l hn a1 a2 hc_3) wS_12_539 dX12_part_11 rfl hl.1 (ar := 2) (by decide +kernel) rfl ⟨Nat.le_of_ble_eq_true rfl, Nat.le_of_ble_eq_true rfl, Nat.le_of_ble_eq_true rfl, Nat.le_of_ble_eq_true rfl⟩ (Nat.le_of_ble_eq_true rfl) (fun rv uu H locs hp hG => ?_)
    obtain ⟨rfl, rfl⟩ := hp
    replace hG : gW D cy b n s H locs (enc b cy X S0) := hG
    obtain ⟨hg_5, hM⟩ := gd_some hM
    refine gi_div hx hb dX12_part_14 hg_5.1 hg_5.2 ?_
    cases hM
    exact g_iret S hr hlk hG hsz dX12_part_15 ⟨Nat.le_of_ble_eq_true rfl, Nat.le_of_ble_eq_true rfl⟩ ⟨rfl, rfl⟩
  · replace hM := ifp hM c_2
    refine lv_iload_n hx hb dX12_part_4 rfl (lv_at hl 0 rfl) ?_
    refine lv_goto (tgt := 9) hx hb dX12_part_5 (by decide) ?_
    refine lv_iload_n hx hb dX12_part_9 rfl (lv_at hl 0 rfl) ?_
    refine lv_iload_n hx hb dX12_part_10 rfl (lv_at hl 1 rfl) ?_
    obtain ⟨r_7, hc_6, hM⟩ := bd1_some hM
    refine g_si (As := [.int (iI a1), .int (iI a2)]) (rest := [.int (iI a1)]) S hG hsz (vX12_common l hn a1 a2 hc_6) wS_12_539 dX12_part_11 rfl hl.1 (ar := 2) (by decide +kernel) rfl ⟨Nat.le_of_ble_eq_true rfl, Nat.le_of_ble_eq_true rfl, Nat.le_of_ble_eq_true rfl, Nat.le_of_ble_eq_true rfl⟩ (Nat.le_of_ble_eq_true rfl) (fun rv uu H locs hp hG => ?_)
    obtain ⟨rfl, rfl⟩ := hp
    replace hG : gW D cy b n s H locs (enc b cy X S0) := hG
    obtain ⟨hg_8, hM⟩ := gd_some hM
    refine gi_div hx hb dX12_part_14 hg_8.1 hg_8.2 ?_
    cases hM
    exact g_iret S hr hlk hG hsz dX12_part_15 ⟨Nat.le_of_ble_eq_true rfl, Nat.le_of_ble_eq_true rfl⟩ ⟨rfl, rfl⟩
def mX12_bitsFor_2 (a1 : Int) : Nat → Int → Option (Int)
  | 0, _ => none
  | f + 1, v_1 => gd ((inL (lsh 1 v_1)) ∧ (inL a1)) <| if a1 ≤ (lsh 1 v_1) then (some (v_1)) else (mX12_bitsFor_2 a1 f (v_1 + 1))
def mX12_bitsFor (a1 : Int) : Option (Int) := bd1 (mX12_bitsFor_2 a1 FU 0) fun y_2 => some (y_2)
set_option maxHeartbeats 4000000 in
set_option maxRecDepth 100000 in
theorem vX12_bitsFor (l : Launch) {D : va_G} {cy : Nat → ClassId} {b n : Nat} (hn : 102 ≤ n) {X : Nat → va_E} {S0 : St} (a1 : Int) {o1 : Int} (hM : mX12_bitsFor a1 = some o1) : gI l yX12_bitsFor cX12_bitsFor 3 (some .int) 0 0 0 D cy b n (enc b cy X S0) [.long (jJ a1)] (fun r u => r = iI o1 ∧ u = (n, enc b cy X S0)) := by
  refine gI_of (by decide) (Nat.le_of_ble_eq_true rfl) ?_
  intro p e s m args below meth c S hr hlk hin hsz ls hl hG
  have hx := S.1
  have hb := S.2.1
  have hl : lv_has ls 3 [(0, .long (jJ a1))] := hl
  replace hG : gW D cy b n s s.heap [] (enc b cy X S0) := hG
  obtain ⟨H, eH⟩ : ∃ H, H = s.heap := ⟨_, rfl⟩
  obtain ⟨locs, elocs⟩ : ∃ locs : List Loc, locs = [] := ⟨_, rfl⟩
  rw [← eH, ← elocs] at hG
  rw [← eH, ← elocs]
  clear eH elocs
  unfold mX12_bitsFor at hM
  refine lv_iconst (v := iI 0) hx hb dX12_bitsFor_0 (by decide) ?_
  refine lv_istore_n (lv' := [(2, .int (iI 0)), (0, .long (jJ a1))]) hx hb dX12_bitsFor_1 rfl hl (by decide) rfl (fun ls hl => ?_)
  obtain ⟨y_2, hc_3, hM⟩ := bd1_some hM
  have hK_4 : ∀ (H : Heap) (locs : List Loc) (ls : Array Slot), gW D cy b n s H locs (enc b cy X S0) → lv_has ls 3 [(2, .int (iI y_2))] → W p l e (gRm 0 0 0) s m args below meth c H locs 0 0 (gQI D cy b s args below 0 0 (fun r u => r = iI o1 ∧ u = (n, enc b cy X S0))) (F0 m 16 ls []) := by
    intro H locs ls hG hl
    refine lv_iload_n hx hb dX12_bitsFor_16 rfl (lv_at hl 0 rfl) ?_
    cases hM
    exact g_iret S hr hlk hG hsz dX12_bitsFor_17 ⟨Nat.le_of_ble_eq_true rfl, Nat.le_of_ble_eq_true rfl⟩ ⟨rfl, rfl⟩
  have loop_5 : ∀ (f : Nat) (v_1 : Int) (H : Heap) (locs : List Loc) (ls : Array Slot), mX12_bitsFor_2 a1 f v_1 = some y_2 → gW D cy b n s H locs (enc b cy X S0) → lv_has ls 3 [(2, .int (iI v_1)), (0, .long (jJ a1))] → W p l e (gRm 0 0 0) s m args below meth c H locs 0 0 (gQI D cy b s args below 0 0 (fun r u => r = iI o1 ∧ u = (n, enc b cy X S0))) (F0 m 2 ls []) := by
    clear hM
    intro f
    induction f with
    | zero => intro v_1 H locs ls hM; rw [mX12_bitsFor_2] at hM; cases hM
    | succ f_7 ih_6 =>
      intro v_1 H locs ls hM hG hl
      rw [mX12_bitsFor_2] at hM
      refine lv_lconst (v := jJ 1) hx hb dX12_bitsFor_2 (by decide) ?_
      refine lv_iload_n hx hb dX12_bitsFor_3 rfl (lv_at hl 0 rfl) ?_
      refine gj_shl hx hb dX12_bitsFor_4 ?_
      refine lv_lload_n hx hb dX12_bitsFor_5 rfl (lv_at hl 1 rfl) ?_
      obtain ⟨hg_8, hM⟩ := gd_some hM
      refine gj_cmp_ge (tgt := 16) hx hb dX12_bitsFor_6 dX12_bitsFor_7 (by decide) hg_8.1 hg_8.2 (fun c_9 => ?_) (fun c_9 => ?_)
      · replace hM := ifp hM c_9
        cases hM
        exact hK_4 H locs ls hG (lv_sub hl [0] rfl)
      · replace hM := ifn hM c_9
        refine lv_iinc (v := iI (v_1 + 1)) (lv' := [(2, .int (iI (v_1 + 1))), (0, .long (jJ a1))]) hx hb dX12_bitsFor_10 hl (k := 0) rfl ((iI_add v_1 (1)).trans (congrArg iI (by omega))) (by decide) rfl (fun ls hl => ?_)
        refine lv_goto (tgt := 2) hx hb dX12_bitsFor_13 (by decide) ?_
        exact ih_6 (v_1 + 1) H locs ls hM hG (lv_sub hl [0, 1] rfl)
  exact loop_5 FU 0 H locs ls hc_3 hG (lv_sub hl [0, 1] rfl)
def mX12_chosen_44 (z_1 : Int) (a2 : Int) : Nat → Int → Int → Option (Int × Int)
  | 0, _, _ => none
  | f + 1, v_10, v_11 => gd (inI v_10) <| if a2 < v_10 then (some (1, v_11)) else (nx ((z_1 - a2) + v_10) fun x_23 => gd (inL v_11) <| if 1000000000000 < v_11 then (some (0, v_11)) else (gd (0 < x_23 ∧ x_23 ≤ 9223372036854775807) <| gd (inL (9223372036854775807 / x_23)) <| if v_11 ≤ (9223372036854775807 / x_23) then (gd ((0 ≤ (v_11 * x_23) ∧ (v_11 * x_23) ≤ 9223372036854775807) ∧ (0 < v_10 ∧ v_10 ≤ 9223372036854775807)) <| nx ((v_11 * x_23) / v_10) fun x_30 => mX12_chosen_44 z_1 a2 f (v_10 + 1) x_30) else (some (0, v_11))))
def mX12_chosen (a1 : Int) (a2 : Int) (a3 : Int) : Option (Int) := bd1 (gd (inI a3) <| if a3 = 0 then (gd (inI a2) <| some (((a1 + a2) - 1))) else (some (a1))) fun z_1 => gd (inI a2) <| if a2 = 0 then (some (1)) else (gd (inL a1) <| if a1 = 0 then (some (0)) else (gd ((inL z_1) ∧ (inL a2)) <| if a2 ≤ z_1 then (bd2 (mX12_chosen_44 z_1 a2 FU 1 1) fun t_12 y_13 => if t_12 = 0 then (some (1000000000000)) else (gd (inL y_13) <| some ((min 1000000000000 y_13)))) else (some (0))))
set_option maxHeartbeats 4000000 in
set_option maxRecDepth 100000 in
theorem vX12_chosen (l : Launch) {D : va_G} {cy : Nat → ClassId} {b n : Nat} (hn : 102 ≤ n) {X : Nat → va_E} {S0 : St} (a1 : Int) (a2 : Int) (a3 : Int) {o1 : Int} (hM : mX12_chosen a1 a2 a3 = some o1) : gL l yX12_chosen cX12_chosen 11 1 0 0 D cy b n (enc b cy X S0) [.long (jJ a1), .int (iI a2), .int (iI a3)] (fun r u => r = jJ o1 ∧ u = (n, enc b cy X S0)) := by
  refine gL_of (by decide) (Nat.le_of_ble_eq_true rfl) ?_
  intro p e s m args below meth c S hr hlk hin hsz ls hl hG
  have hx := S.1
  have hb := S.2.1
  have hl : lv_has ls 11 [(0, .long (jJ a1)), (2, .int (iI a2)), (3, .int (iI a3))] := hl
  replace hG : gW D cy b n s s.heap [] (enc b cy X S0) := hG
  obtain ⟨H, eH⟩ : ∃ H, H = s.heap := ⟨_, rfl⟩
  obtain ⟨locs, elocs⟩ : ∃ locs : List Loc, locs = [] := ⟨_, rfl⟩
  rw [← eH, ← elocs] at hG
  rw [← eH, ← elocs]
  clear eH elocs
  unfold mX12_chosen at hM
  refine lv_iload_n hx hb dX12_chosen_0 rfl (lv_at hl 2 rfl) ?_
  obtain ⟨z_1, hc_2, hM⟩ := bd1_some hM
  have hK_3 : ∀ (H : Heap) (locs : List Loc) (ls : Array Slot), gW D cy b n s H locs (enc b cy X S0) → lv_has ls 11 [(0, .long (jJ a1)), (2, .int (iI a2))] → W p l e (gRm 1 0 0) s m args below meth c H locs 0 0 (gQL D cy b s args below 0 0 (fun r u => r = jJ o1 ∧ u = (n, enc b cy X S0))) (F0 m 14 ls [.long (jJ z_1)]) := by
    intro H locs ls hG hl
    refine lv_lstore (lv' := [(4, .long (jJ z_1)), (0, .long (jJ a1)), (2, .int (iI a2))]) hx hb dX12_chosen_14 hl (by decide) rfl (fun ls hl => ?_)
    refine lv_iload_n hx hb dX12_chosen_16 rfl (lv_at hl 2 rfl) ?_
    obtain ⟨hg_4, hM⟩ := gd_some hM
    refine gi_if_ne (tgt := 22) hx hb dX12_chosen_17 (by decide) hg_4 (fun c_5 => ?_) (fun c_5 => ?_)
    · replace hM := ifn hM c_5
      refine lv_lload_n hx hb dX12_chosen_22 rfl (lv_at hl 1 rfl) ?_
      refine lv_lconst (v := jJ 0) hx hb dX12_chosen_23 (by decide) ?_
      obtain ⟨hg_6, hM⟩ := gd_some hM
      refine gj_cmp_eq (tgt := 36) hx hb dX12_chosen_24 dX12_chosen_25 (by decide) hg_6 (by decide) (fun c_7 => ?_) (fun c_7 => ?_)
      · replace hM := ifp hM c_7
        refine lv_lconst (v := jJ 0) hx hb dX12_chosen_36 (by decide) ?_
        cases hM
        exact g_lret S hr hlk hG hsz dX12_chosen_37 ⟨Nat.le_of_ble_eq_true rfl, Nat.le_of_ble_eq_true rfl⟩ ⟨rfl, rfl⟩
      · replace hM := ifn hM c_7
        refine lv_lload hx hb dX12_chosen_28 (lv_at hl 0 rfl) ?_
        refine lv_iload_n hx hb dX12_chosen_30 rfl (lv_at hl 2 rfl) ?_
        refine gi_i2l hx hb dX12_chosen_31 hg_4 ?_
        obtain ⟨hg_8, hM⟩ := gd_some hM
        refine gj_cmp_ge (tgt := 38) hx hb dX12_chosen_32 dX12_chosen_33 (by decide) hg_8.1 hg_8.2 (fun c_9 => ?_) (fun c_9 => ?_)
        · replace hM := ifp hM c_9
          refine lv_lconst (v := jJ 1) hx hb dX12_chosen_38 (by decide) ?_
          refine lv_lstore (lv' := [(6, .long (jJ 1)), (4, .long (jJ z_1)), (0, .long (jJ a1)), (2, .int (iI a2))]) hx hb dX12_chosen_39 hl (by decide) rfl (fun ls hl => ?_)
          refine lv_iconst (v := iI 1) hx hb dX12_chosen_41 (by decide) ?_
          refine lv_istore (lv' := [(8, .int (iI 1)), (6, .long (jJ 1)), (4, .long (jJ z_1)), (0, .long (jJ a1)), (2, .int (iI a2))]) hx hb dX12_chosen_42 hl (by decide) rfl (fun ls hl => ?_)
          obtain ⟨t_12, y_13, hc_14, hM⟩ := bd2_some hM
          have hK_15 : ∀ (H : Heap) (locs : List Loc) (ls : Array Slot), t_12 = 0 → gW D cy b n s H locs (enc b cy X S0) → lv_has ls 11 [] → W p l e (gRm 1 0 0) s m args below meth c H locs 0 0 (gQL D cy b s args below 0 0 (fun r u => r = jJ o1 ∧ u = (n, enc b cy X S0))) (F0 m 82 ls []) := by
            intro H locs ls ht hG hl
            subst ht
            replace hM := ifp hM rfl
            refine lv_ldc2 (v := 1000000000000) hx hb S.2.2.2.1 (S.2.2.2.2 _ wm_2044) dX12_chosen_82 ?_
            refine gj_as 1000000000000 (by decide) ?_
            cases hM
            exact g_lret S hr hlk hG hsz dX12_chosen_85 ⟨Nat.le_of_ble_eq_true rfl, Nat.le_of_ble_eq_true rfl⟩ ⟨rfl, rfl⟩
          have hK_16 : ∀ (H : Heap) (locs : List Loc) (ls : Array Slot), t_12 = 1 → gW D cy b n s H locs (enc b cy X S0) → lv_has ls 11 [(6, .long (jJ y_13))] → W p l e (gRm 1 0 0) s m args below meth c H locs 0 0 (gQL D cy b s args below 0 0 (fun r u => r = jJ o1 ∧ u = (n, enc b cy X S0))) (F0 m 103 ls []) := by
            intro H locs ls ht hG hl
            subst ht
            replace hM := ifn hM (by decide)
            refine lv_ldc2 (v := 1000000000000) hx hb S.2.2.2.1 (S.2.2.2.2 _ wm_2044) dX12_chosen_103 ?_
            refine gj_as 1000000000000 (by decide) ?_
            refine lv_lload hx hb dX12_chosen_106 (lv_at hl 0 rfl) ?_
            obtain ⟨hg_17, hM⟩ := gd_some hM
            refine gj_min S wm_2046 wm_1149 wm_190 wm_1150 hl.1 dX12_chosen_108 ⟨Nat.le_of_ble_eq_true rfl, Nat.le_of_ble_eq_true rfl, Nat.le_of_ble_eq_true rfl, Nat.le_of_ble_eq_true rfl⟩ (by decide) hg_17 ?_
            cases hM
            exact g_lret S hr hlk hG hsz dX12_chosen_111 ⟨Nat.le_of_ble_eq_true rfl, Nat.le_of_ble_eq_true rfl⟩ ⟨rfl, rfl⟩
          have loop_18 : ∀ (f : Nat) (v_10 : Int) (v_11 : Int) (H : Heap) (locs : List Loc) (ls : Array Slot), mX12_chosen_44 z_1 a2 f v_10 v_11 = some (t_12, y_13) → gW D cy b n s H locs (enc b cy X S0) → lv_has ls 11 [(8, .int (iI v_10)), (6, .long (jJ v_11)), (4, .long (jJ z_1)), (2, .int (iI a2))] → W p l e (gRm 1 0 0) s m args below meth c H locs 0 0 (gQL D cy b s args below 0 0 (fun r u => r = jJ o1 ∧ u = (n, enc b cy X S0))) (F0 m 44 ls []) := by
            clear hM
            intro f
            induction f with
            | zero => intro v_10 v_11 H locs ls hM; rw [mX12_chosen_44] at hM; cases hM
            | succ f_20 ih_19 =>
              intro v_10 v_11 H locs ls hM hG hl
              rw [mX12_chosen_44] at hM
              refine lv_iload hx hb dX12_chosen_44 (lv_at hl 0 rfl) ?_
              refine lv_iload_n hx hb dX12_chosen_46 rfl (lv_at hl 3 rfl) ?_
              obtain ⟨hg_21, hM⟩ := gd_some hM
              refine gi_icmp_gt (tgt := 103) hx hb dX12_chosen_47 (by decide) hg_21 hg_4 (fun c_22 => ?_) (fun c_22 => ?_)
              · replace hM := ifp hM c_22
                cases hM
                exact hK_16 H locs ls rfl hG (lv_sub hl [1] rfl)
              · replace hM := ifn hM c_22
                refine lv_lload hx hb dX12_chosen_50 (lv_at hl 2 rfl) ?_
                refine lv_iload_n hx hb dX12_chosen_52 rfl (lv_at hl 3 rfl) ?_
                refine gi_i2l hx hb dX12_chosen_53 hg_4 ?_
                refine gj_sub hx hb dX12_chosen_54 ?_
                refine lv_iload hx hb dX12_chosen_55 (lv_at hl 0 rfl) ?_
                refine gi_i2l hx hb dX12_chosen_57 hg_21 ?_
                refine gj_add hx hb dX12_chosen_58 ?_
                refine gj_nm (fun x_23 ex_23 => ?_)
                replace hM := nx_at hM ex_23
                clear ex_23
                refine lv_lstore (lv' := [(9, .long (jJ x_23)), (8, .int (iI v_10)), (6, .long (jJ v_11)), (4, .long (jJ z_1)), (2, .int (iI a2))]) hx hb dX12_chosen_59 hl (by decide) rfl (fun ls hl => ?_)
                refine lv_lload hx hb dX12_chosen_61 (lv_at hl 2 rfl) ?_
                refine lv_ldc2 (v := 1000000000000) hx hb S.2.2.2.1 (S.2.2.2.2 _ wm_2044) dX12_chosen_63 ?_
                refine gj_as 1000000000000 (by decide) ?_
                obtain ⟨hg_24, hM⟩ := gd_some hM
                refine gj_cmp_gt (tgt := 82) hx hb dX12_chosen_66 dX12_chosen_67 (by decide) hg_24 (by decide) (fun c_25 => ?_) (fun c_25 => ?_)
                · replace hM := ifp hM c_25
                  cases hM
                  exact hK_15 H locs ls rfl hG (lv_sub hl [] rfl)
                · replace hM := ifn hM c_25
                  refine lv_lload hx hb dX12_chosen_70 (lv_at hl 2 rfl) ?_
                  refine lv_ldc2 (v := 9223372036854775807) hx hb S.2.2.2.1 (S.2.2.2.2 _ wm_2045) dX12_chosen_72 ?_
                  refine gj_as 9223372036854775807 (by decide) ?_
                  refine lv_lload hx hb dX12_chosen_75 (lv_at hl 0 rfl) ?_
                  obtain ⟨hg_26, hM⟩ := gd_some hM
                  refine gj_div hx hb dX12_chosen_77 (by decide) hg_26 ?_
                  obtain ⟨hg_27, hM⟩ := gd_some hM
                  refine gj_cmp_le (tgt := 86) hx hb dX12_chosen_78 dX12_chosen_79 (by decide) hg_24 hg_27 (fun c_28 => ?_) (fun c_28 => ?_)
                  · replace hM := ifp hM c_28
                    refine lv_lload hx hb dX12_chosen_86 (lv_at hl 2 rfl) ?_
                    refine lv_lload hx hb dX12_chosen_88 (lv_at hl 0 rfl) ?_
                    refine gj_mul hx hb dX12_chosen_90 ?_
                    refine lv_iload hx hb dX12_chosen_91 (lv_at hl 1 rfl) ?_
                    refine gi_i2l hx hb dX12_chosen_93 hg_21 ?_
                    obtain ⟨hg_29, hM⟩ := gd_some hM
                    refine gj_div hx hb dX12_chosen_94 hg_29.1 hg_29.2 ?_
                    refine gj_nm (fun x_30 ex_30 => ?_)
                    replace hM := nx_at hM ex_30
                    clear ex_30
                    refine lv_lstore (lv' := [(6, .long (jJ x_30)), (9, .long (jJ x_23)), (8, .int (iI v_10)), (4, .long (jJ z_1)), (2, .int (iI a2))]) hx hb dX12_chosen_95 hl (by decide) rfl (fun ls hl => ?_)
                    refine lv_iinc (v := iI (v_10 + 1)) (lv' := [(8, .int (iI (v_10 + 1))), (6, .long (jJ x_30)), (9, .long (jJ x_23)), (4, .long (jJ z_1)), (2, .int (iI a2))]) hx hb dX12_chosen_97 hl (k := 2) rfl ((iI_add v_10 (1)).trans (congrArg iI (by omega))) (by decide) rfl (fun ls hl => ?_)
                    refine lv_goto (tgt := 44) hx hb dX12_chosen_100 (by decide) ?_
                    exact ih_19 (v_10 + 1) x_30 H locs ls hM hG (lv_sub hl [0, 1, 3, 4] rfl)
                  · replace hM := ifn hM c_28
                    cases hM
                    exact hK_15 H locs ls rfl hG (lv_sub hl [] rfl)
          exact loop_18 FU 1 1 H locs ls hc_14 hG (lv_sub hl [0, 1, 2, 4] rfl)
        · replace hM := ifn hM c_9
          refine lv_lconst (v := jJ 0) hx hb dX12_chosen_36 (by decide) ?_
          cases hM
          exact g_lret S hr hlk hG hsz dX12_chosen_37 ⟨Nat.le_of_ble_eq_true rfl, Nat.le_of_ble_eq_true rfl⟩ ⟨rfl, rfl⟩
    · replace hM := ifp hM c_5
      refine lv_lconst (v := jJ 1) hx hb dX12_chosen_20 (by decide) ?_
      cases hM
      exact g_lret S hr hlk hG hsz dX12_chosen_21 ⟨Nat.le_of_ble_eq_true rfl, Nat.le_of_ble_eq_true rfl⟩ ⟨rfl, rfl⟩
  clear hM
  replace hM := hc_2
  obtain ⟨hg_31, hM⟩ := gd_some hM
  refine gi_if_eq (tgt := 8) hx hb dX12_chosen_1 (by decide) hg_31 (fun c_32 => ?_) (fun c_32 => ?_)
  · replace hM := ifp hM c_32
    refine lv_lload_n hx hb dX12_chosen_8 rfl (lv_at hl 0 rfl) ?_
    refine lv_iload_n hx hb dX12_chosen_9 rfl (lv_at hl 1 rfl) ?_
    obtain ⟨hg_33, hM⟩ := gd_some hM
    refine gi_i2l hx hb dX12_chosen_10 hg_33 ?_
    refine gj_add hx hb dX12_chosen_11 ?_
    refine lv_lconst (v := jJ 1) hx hb dX12_chosen_12 (by decide) ?_
    refine gj_sub hx hb dX12_chosen_13 ?_
    cases hM
    exact hK_3 H locs ls hG (lv_sub hl [0, 1] rfl)
  · replace hM := ifn hM c_32
    refine lv_lload_n hx hb dX12_chosen_4 rfl (lv_at hl 0 rfl) ?_
    refine lv_goto (tgt := 14) hx hb dX12_chosen_5 (by decide) ?_
    cases hM
    exact hK_3 H locs ls hG (lv_sub hl [0, 1] rfl)
def mX12_ofAll_5 (a1 : Int) (a2 : Int) : Nat → Int → Int → Option (Int)
  | 0, _, _ => none
  | f + 1, v_1, v_2 => gd ((inI v_1) ∧ (inI a2)) <| if a2 < v_1 then (some (v_2)) else (gd (inI ((a1 - a2) + v_1)) <| gd ((0 ≤ (v_2 * ((a1 - a2) + v_1)) ∧ (v_2 * ((a1 - a2) + v_1)) ≤ 9223372036854775807) ∧ (0 < v_1 ∧ v_1 ≤ 9223372036854775807)) <| nx ((v_2 * ((a1 - a2) + v_1)) / v_1) fun x_13 => mX12_ofAll_5 a1 a2 f (v_1 + 1) x_13)
def mX12_ofAll (a1 : Int) (a2 : Int) : Option (Int) := bd1 (mX12_ofAll_5 a1 a2 FU 1 1) fun y_3 => some (y_3)
set_option maxHeartbeats 4000000 in
set_option maxRecDepth 100000 in
theorem vX12_ofAll (l : Launch) {D : va_G} {cy : Nat → ClassId} {b n : Nat} (hn : 102 ≤ n) {X : Nat → va_E} {S0 : St} (a1 : Int) (a2 : Int) {o1 : Int} (hM : mX12_ofAll a1 a2 = some o1) : gL l yX12_ofAll cX12_ofAll 5 0 0 0 D cy b n (enc b cy X S0) [.int (iI a1), .int (iI a2)] (fun r u => r = jJ o1 ∧ u = (n, enc b cy X S0)) := by
  refine gL_of (by decide) (Nat.le_of_ble_eq_true rfl) ?_
  intro p e s m args below meth c S hr hlk hin hsz ls hl hG
  have hx := S.1
  have hb := S.2.1
  have hl : lv_has ls 5 [(0, .int (iI a1)), (1, .int (iI a2))] := hl
  replace hG : gW D cy b n s s.heap [] (enc b cy X S0) := hG
  obtain ⟨H, eH⟩ : ∃ H, H = s.heap := ⟨_, rfl⟩
  obtain ⟨locs, elocs⟩ : ∃ locs : List Loc, locs = [] := ⟨_, rfl⟩
  rw [← eH, ← elocs] at hG
  rw [← eH, ← elocs]
  clear eH elocs
  unfold mX12_ofAll at hM
  refine lv_lconst (v := jJ 1) hx hb dX12_ofAll_0 (by decide) ?_
  refine lv_lstore_n (lv' := [(2, .long (jJ 1)), (0, .int (iI a1)), (1, .int (iI a2))]) hx hb dX12_ofAll_1 rfl hl (by decide) rfl (fun ls hl => ?_)
  refine lv_iconst (v := iI 1) hx hb dX12_ofAll_2 (by decide) ?_
  refine lv_istore (lv' := [(4, .int (iI 1)), (2, .long (jJ 1)), (0, .int (iI a1)), (1, .int (iI a2))]) hx hb dX12_ofAll_3 hl (by decide) rfl (fun ls hl => ?_)
  obtain ⟨y_3, hc_4, hM⟩ := bd1_some hM
  have hK_5 : ∀ (H : Heap) (locs : List Loc) (ls : Array Slot), gW D cy b n s H locs (enc b cy X S0) → lv_has ls 5 [(2, .long (jJ y_3))] → W p l e (gRm 0 0 0) s m args below meth c H locs 0 0 (gQL D cy b s args below 0 0 (fun r u => r = jJ o1 ∧ u = (n, enc b cy X S0))) (F0 m 31 ls []) := by
    intro H locs ls hG hl
    refine lv_lload_n hx hb dX12_ofAll_31 rfl (lv_at hl 0 rfl) ?_
    cases hM
    exact g_lret S hr hlk hG hsz dX12_ofAll_32 ⟨Nat.le_of_ble_eq_true rfl, Nat.le_of_ble_eq_true rfl⟩ ⟨rfl, rfl⟩
  have loop_6 : ∀ (f : Nat) (v_1 : Int) (v_2 : Int) (H : Heap) (locs : List Loc) (ls : Array Slot), mX12_ofAll_5 a1 a2 f v_1 v_2 = some y_3 → gW D cy b n s H locs (enc b cy X S0) → lv_has ls 5 [(4, .int (iI v_1)), (2, .long (jJ v_2)), (0, .int (iI a1)), (1, .int (iI a2))] → W p l e (gRm 0 0 0) s m args below meth c H locs 0 0 (gQL D cy b s args below 0 0 (fun r u => r = jJ o1 ∧ u = (n, enc b cy X S0))) (F0 m 5 ls []) := by
    clear hM
    intro f
    induction f with
    | zero => intro v_1 v_2 H locs ls hM; rw [mX12_ofAll_5] at hM; cases hM
    | succ f_8 ih_7 =>
      intro v_1 v_2 H locs ls hM hG hl
      rw [mX12_ofAll_5] at hM
      refine lv_iload hx hb dX12_ofAll_5 (lv_at hl 0 rfl) ?_
      refine lv_iload_n hx hb dX12_ofAll_7 rfl (lv_at hl 3 rfl) ?_
      obtain ⟨hg_9, hM⟩ := gd_some hM
      refine gi_icmp_gt (tgt := 31) hx hb dX12_ofAll_8 (by decide) hg_9.1 hg_9.2 (fun c_10 => ?_) (fun c_10 => ?_)
      · replace hM := ifp hM c_10
        cases hM
        exact hK_5 H locs ls hG (lv_sub hl [1] rfl)
      · replace hM := ifn hM c_10
        refine lv_lload_n hx hb dX12_ofAll_11 rfl (lv_at hl 1 rfl) ?_
        refine lv_iload_n hx hb dX12_ofAll_12 rfl (lv_at hl 2 rfl) ?_
        refine lv_iload_n hx hb dX12_ofAll_13 rfl (lv_at hl 3 rfl) ?_
        refine gi_sub hx hb dX12_ofAll_14 ?_
        refine lv_iload hx hb dX12_ofAll_15 (lv_at hl 0 rfl) ?_
        refine gi_add hx hb dX12_ofAll_17 ?_
        obtain ⟨hg_11, hM⟩ := gd_some hM
        refine gi_i2l hx hb dX12_ofAll_18 hg_11 ?_
        refine gj_mul hx hb dX12_ofAll_19 ?_
        refine lv_iload hx hb dX12_ofAll_20 (lv_at hl 0 rfl) ?_
        refine gi_i2l hx hb dX12_ofAll_22 hg_9.1 ?_
        obtain ⟨hg_12, hM⟩ := gd_some hM
        refine gj_div hx hb dX12_ofAll_23 hg_12.1 hg_12.2 ?_
        refine gj_nm (fun x_13 ex_13 => ?_)
        replace hM := nx_at hM ex_13
        clear ex_13
        refine lv_lstore_n (lv' := [(2, .long (jJ x_13)), (4, .int (iI v_1)), (0, .int (iI a1)), (1, .int (iI a2))]) hx hb dX12_ofAll_24 rfl hl (by decide) rfl (fun ls hl => ?_)
        refine lv_iinc (v := iI (v_1 + 1)) (lv' := [(4, .int (iI (v_1 + 1))), (2, .long (jJ x_13)), (0, .int (iI a1)), (1, .int (iI a2))]) hx hb dX12_ofAll_25 hl (k := 1) rfl ((iI_add v_1 (1)).trans (congrArg iI (by omega))) (by decide) rfl (fun ls hl => ?_)
        refine lv_goto (tgt := 5) hx hb dX12_ofAll_28 (by decide) ?_
        exact ih_7 (v_1 + 1) x_13 H locs ls hM hG (lv_sub hl [0, 1, 2, 3] rfl)
  exact loop_6 FU 1 1 H locs ls hc_4 hG (lv_sub hl [0, 1, 2, 3] rfl)
def mX12_factorial_4 (a1 : Int) : Nat → Int → Int → Option (Int)
  | 0, _, _ => none
  | f + 1, v_1, v_2 => gd ((inI v_1) ∧ (inI a1)) <| if a1 < v_1 then (some (v_2)) else (nx (v_2 * v_1) fun x_11 => mX12_factorial_4 a1 f (v_1 + 1) x_11)
def mX12_factorial (a1 : Int) : Option (Int) := bd1 (mX12_factorial_4 a1 FU 2 1) fun y_3 => some (y_3)
set_option maxHeartbeats 4000000 in
set_option maxRecDepth 100000 in
theorem vX12_factorial (l : Launch) {D : va_G} {cy : Nat → ClassId} {b n : Nat} (hn : 102 ≤ n) {X : Nat → va_E} {S0 : St} (a1 : Int) {o1 : Int} (hM : mX12_factorial a1 = some o1) : gL l yX12_factorial cX12_factorial 4 0 0 0 D cy b n (enc b cy X S0) [.int (iI a1)] (fun r u => r = jJ o1 ∧ u = (n, enc b cy X S0)) := by
  refine gL_of (by decide) (Nat.le_of_ble_eq_true rfl) ?_
  intro p e s m args below meth c S hr hlk hin hsz ls hl hG
  have hx := S.1
  have hb := S.2.1
  have hl : lv_has ls 4 [(0, .int (iI a1))] := hl
  replace hG : gW D cy b n s s.heap [] (enc b cy X S0) := hG
  obtain ⟨H, eH⟩ : ∃ H, H = s.heap := ⟨_, rfl⟩
  obtain ⟨locs, elocs⟩ : ∃ locs : List Loc, locs = [] := ⟨_, rfl⟩
  rw [← eH, ← elocs] at hG
  rw [← eH, ← elocs]
  clear eH elocs
  unfold mX12_factorial at hM
  refine lv_lconst (v := jJ 1) hx hb dX12_factorial_0 (by decide) ?_
  refine lv_lstore_n (lv' := [(1, .long (jJ 1)), (0, .int (iI a1))]) hx hb dX12_factorial_1 rfl hl (by decide) rfl (fun ls hl => ?_)
  refine lv_iconst (v := iI 2) hx hb dX12_factorial_2 (by decide) ?_
  refine lv_istore_n (lv' := [(3, .int (iI 2)), (1, .long (jJ 1)), (0, .int (iI a1))]) hx hb dX12_factorial_3 rfl hl (by decide) rfl (fun ls hl => ?_)
  obtain ⟨y_3, hc_4, hM⟩ := bd1_some hM
  have hK_5 : ∀ (H : Heap) (locs : List Loc) (ls : Array Slot), gW D cy b n s H locs (enc b cy X S0) → lv_has ls 4 [(1, .long (jJ y_3))] → W p l e (gRm 0 0 0) s m args below meth c H locs 0 0 (gQL D cy b s args below 0 0 (fun r u => r = jJ o1 ∧ u = (n, enc b cy X S0))) (F0 m 20 ls []) := by
    intro H locs ls hG hl
    refine lv_lload_n hx hb dX12_factorial_20 rfl (lv_at hl 0 rfl) ?_
    cases hM
    exact g_lret S hr hlk hG hsz dX12_factorial_21 ⟨Nat.le_of_ble_eq_true rfl, Nat.le_of_ble_eq_true rfl⟩ ⟨rfl, rfl⟩
  have loop_6 : ∀ (f : Nat) (v_1 : Int) (v_2 : Int) (H : Heap) (locs : List Loc) (ls : Array Slot), mX12_factorial_4 a1 f v_1 v_2 = some y_3 → gW D cy b n s H locs (enc b cy X S0) → lv_has ls 4 [(3, .int (iI v_1)), (1, .long (jJ v_2)), (0, .int (iI a1))] → W p l e (gRm 0 0 0) s m args below meth c H locs 0 0 (gQL D cy b s args below 0 0 (fun r u => r = jJ o1 ∧ u = (n, enc b cy X S0))) (F0 m 4 ls []) := by
    clear hM
    intro f
    induction f with
    | zero => intro v_1 v_2 H locs ls hM; rw [mX12_factorial_4] at hM; cases hM
    | succ f_8 ih_7 =>
      intro v_1 v_2 H locs ls hM hG hl
      rw [mX12_factorial_4] at hM
      refine lv_iload_n hx hb dX12_factorial_4 rfl (lv_at hl 0 rfl) ?_
      refine lv_iload_n hx hb dX12_factorial_5 rfl (lv_at hl 2 rfl) ?_
      obtain ⟨hg_9, hM⟩ := gd_some hM
      refine gi_icmp_gt (tgt := 20) hx hb dX12_factorial_6 (by decide) hg_9.1 hg_9.2 (fun c_10 => ?_) (fun c_10 => ?_)
      · replace hM := ifp hM c_10
        cases hM
        exact hK_5 H locs ls hG (lv_sub hl [1] rfl)
      · replace hM := ifn hM c_10
        refine lv_lload_n hx hb dX12_factorial_9 rfl (lv_at hl 1 rfl) ?_
        refine lv_iload_n hx hb dX12_factorial_10 rfl (lv_at hl 0 rfl) ?_
        refine gi_i2l hx hb dX12_factorial_11 hg_9.1 ?_
        refine gj_mul hx hb dX12_factorial_12 ?_
        refine gj_nm (fun x_11 ex_11 => ?_)
        replace hM := nx_at hM ex_11
        clear ex_11
        refine lv_lstore_n (lv' := [(1, .long (jJ x_11)), (3, .int (iI v_1)), (0, .int (iI a1))]) hx hb dX12_factorial_13 rfl hl (by decide) rfl (fun ls hl => ?_)
        refine lv_iinc (v := iI (v_1 + 1)) (lv' := [(3, .int (iI (v_1 + 1))), (1, .long (jJ x_11)), (0, .int (iI a1))]) hx hb dX12_factorial_14 hl (k := 1) rfl ((iI_add v_1 (1)).trans (congrArg iI (by omega))) (by decide) rfl (fun ls hl => ?_)
        refine lv_goto (tgt := 4) hx hb dX12_factorial_17 (by decide) ?_
        exact ih_7 (v_1 + 1) x_11 H locs ls hM hG (lv_sub hl [0, 1, 2] rfl)
  exact loop_6 FU 2 1 H locs ls hc_4 hG (lv_sub hl [0, 1, 2] rfl)
theorem wS_12_97 : gWS "GrownKindsModel" 97 yX12_in cX12_in 6 (some .boolean) := ⟨wm_1839, wm_1840, wm_188, wm_1841, by decide +kernel, by decide +kernel⟩
def mX12_end (S0 : St) (a1 : Int) : Option (Int × St) := gd (inI a1) <| gd (inI (S0 83 3)) <| bd1 (mX12_in a1 0 (S0 83 3)) fun r_4 => gd (inI r_4) <| if r_4 = 0 then (some ((-1), S0)) else (nx (up S0 83 3 a1) fun S_7 => some (a1, S_7))
set_option maxHeartbeats 4000000 in
set_option maxRecDepth 100000 in
theorem vX12_end (l : Launch) {D : va_G} {cy : Nat → ClassId} {b n : Nat} (hn : 102 ≤ n) {X : Nat → va_E} {S0 : St} (a1 : Int) {o1 : Int} {o2 : St} (hM : mX12_end S0 a1 = some (o1, o2)) : gI l yX12_end cX12_end 2 (some .int) 1 0 0 D cy b n (enc b cy X S0) [.ref (b + 80), .int (iI a1)] (fun r u => r = iI o1 ∧ u = (n, enc b cy X o2)) := by
  refine gI_of (by decide) (Nat.le_of_ble_eq_true rfl) ?_
  intro p e s m args below meth c S hr hlk hin hsz ls hl hG
  have hx := S.1
  have hb := S.2.1
  have hl : lv_has ls 2 [(0, .ref (b + 80)), (1, .int (iI a1))] := hl
  replace hG : gW D cy b n s s.heap [] (enc b cy X S0) := hG
  obtain ⟨H, eH⟩ : ∃ H, H = s.heap := ⟨_, rfl⟩
  obtain ⟨locs, elocs⟩ : ∃ locs : List Loc, locs = [] := ⟨_, rfl⟩
  rw [← eH, ← elocs] at hG
  rw [← eH, ← elocs]
  clear eH elocs
  unfold mX12_end at hM
  refine lv_iload_n hx hb dX12_end_0 rfl (lv_at hl 1 rfl) ?_
  obtain ⟨hg_1, hM⟩ := gd_some hM
  refine gi_i2l hx hb dX12_end_1 hg_1 ?_
  refine lv_lconst (v := jJ 0) hx hb dX12_end_2 (by decide) ?_
  refine lv_aload_n hx hb dX12_end_3 rfl (lv_at hl 0 rfl) ?_
  refine m_get S hG 80 83 3 rfl ec_83 cpX12 wm_1676 dX12_end_4 rfl (Nat.lt_of_lt_of_le (Nat.le_of_ble_eq_true rfl) hn) (by decide) ?_
  obtain ⟨hg_2, hM⟩ := gd_some hM
  refine gi_i2l hx hb dX12_end_7 hg_2 ?_
  obtain ⟨r_4, hc_3, hM⟩ := bd1_some hM
  refine g_si (As := [.long (jJ a1), .long (jJ 0), .long (jJ (S0 83 3))]) (rest := []) S hG hsz (vX12_in l hn a1 0 (S0 83 3) hc_3) wS_12_97 dX12_end_8 rfl hl.1 (ar := 3) (by decide +kernel) rfl ⟨Nat.le_of_ble_eq_true rfl, Nat.le_of_ble_eq_true rfl, Nat.le_of_ble_eq_true rfl, Nat.le_of_ble_eq_true rfl⟩ (Nat.le_of_ble_eq_true rfl) (fun rv uu H locs hp hG => ?_)
  obtain ⟨rfl, rfl⟩ := hp
  replace hG : gW D cy b n s H locs (enc b cy X S0) := hG
  obtain ⟨hg_5, hM⟩ := gd_some hM
  refine gi_if_ne (tgt := 16) hx hb dX12_end_11 (by decide) hg_5 (fun c_6 => ?_) (fun c_6 => ?_)
  · replace hM := ifn hM c_6
    refine lv_aload_n hx hb dX12_end_16 rfl (lv_at hl 0 rfl) ?_
    refine lv_iload_n hx hb dX12_end_17 rfl (lv_at hl 1 rfl) ?_
    refine m_put S hG 80 83 3 rfl 3 a1 ec_83 cpX12 wm_1676 dX12_end_18 (pf_83_3) (Nat.lt_of_lt_of_le (Nat.le_of_ble_eq_true rfl) hn) (by decide) (Nat.le_of_ble_eq_true rfl) rfl rfl rfl (fun H locs S_7 eS_7 hG => ?_)
    replace hM := nx_at hM eS_7
    clear eS_7
    refine lv_iload_n hx hb dX12_end_21 rfl (lv_at hl 1 rfl) ?_
    cases hM
    exact g_iret S hr hlk hG hsz dX12_end_22 ⟨Nat.le_of_ble_eq_true rfl, Nat.le_of_ble_eq_true rfl⟩ ⟨rfl, rfl⟩
  · replace hM := ifp hM c_6
    refine lv_iconst (v := iI (-1)) hx hb dX12_end_14 (by decide) ?_
    cases hM
    exact g_iret S hr hlk hG hsz dX12_end_15 ⟨Nat.le_of_ble_eq_true rfl, Nat.le_of_ble_eq_true rfl⟩ ⟨rfl, rfl⟩
def mX12_isKind (S0 : St) (a1 : Int) : Option (Int) := gd (inI a1) <| gd (inI ((S0 84 0) - 1)) <| bd1 (mX12_in a1 0 ((S0 84 0) - 1)) fun r_4 => gd (r_4 = 0 ∨ r_4 = 1) <| some (r_4)
set_option maxHeartbeats 4000000 in
set_option maxRecDepth 100000 in
theorem vX12_isKind (l : Launch) {D : va_G} {cy : Nat → ClassId} {b n : Nat} (hn : 102 ≤ n) {X : Nat → va_E} {S0 : St} (a1 : Int) {o1 : Int} (hM : mX12_isKind S0 a1 = some o1) : gI l yX12_isKind cX12_isKind 2 (some .boolean) 1 0 0 D cy b n (enc b cy X S0) [.ref (b + 80), .int (iI a1)] (fun r u => r = iI o1 ∧ u = (n, enc b cy X S0)) := by
  refine gI_of (by decide) (Nat.le_of_ble_eq_true rfl) ?_
  intro p e s m args below meth c S hr hlk hin hsz ls hl hG
  have hx := S.1
  have hb := S.2.1
  have hl : lv_has ls 2 [(0, .ref (b + 80)), (1, .int (iI a1))] := hl
  replace hG : gW D cy b n s s.heap [] (enc b cy X S0) := hG
  obtain ⟨H, eH⟩ : ∃ H, H = s.heap := ⟨_, rfl⟩
  obtain ⟨locs, elocs⟩ : ∃ locs : List Loc, locs = [] := ⟨_, rfl⟩
  rw [← eH, ← elocs] at hG
  rw [← eH, ← elocs]
  clear eH elocs
  unfold mX12_isKind at hM
  refine lv_iload_n hx hb dX12_isKind_0 rfl (lv_at hl 1 rfl) ?_
  obtain ⟨hg_1, hM⟩ := gd_some hM
  refine gi_i2l hx hb dX12_isKind_1 hg_1 ?_
  refine lv_lconst (v := jJ 0) hx hb dX12_isKind_2 (by decide) ?_
  refine lv_aload_n hx hb dX12_isKind_3 rfl (lv_at hl 0 rfl) ?_
  refine m_get S hG 80 83 0 rfl ec_83 cpX12 wm_1673 dX12_isKind_4 rfl (Nat.lt_of_lt_of_le (Nat.le_of_ble_eq_true rfl) hn) (by decide) ?_
  refine lv_iconst (v := iI 0) hx hb dX12_isKind_7 (by decide) ?_
  refine mi_ald S hG 81 84 rfl ec_84 (Nat.lt_of_lt_of_le (Nat.le_of_ble_eq_true rfl) hn) dX12_isKind_8 (by decide) (by decide) ?_
  refine lv_iconst (v := iI 1) hx hb dX12_isKind_9 (by decide) ?_
  refine gi_sub hx hb dX12_isKind_10 ?_
  obtain ⟨hg_2, hM⟩ := gd_some hM
  refine gi_i2l hx hb dX12_isKind_11 hg_2 ?_
  obtain ⟨r_4, hc_3, hM⟩ := bd1_some hM
  refine g_si (As := [.long (jJ a1), .long (jJ 0), .long (jJ ((S0 84 0) - 1))]) (rest := []) S hG hsz (vX12_in l hn a1 0 ((S0 84 0) - 1) hc_3) wS_12_97 dX12_isKind_12 rfl hl.1 (ar := 3) (by decide +kernel) rfl ⟨Nat.le_of_ble_eq_true rfl, Nat.le_of_ble_eq_true rfl, Nat.le_of_ble_eq_true rfl, Nat.le_of_ble_eq_true rfl⟩ (Nat.le_of_ble_eq_true rfl) (fun rv uu H locs hp hG => ?_)
  obtain ⟨rfl, rfl⟩ := hp
  replace hG : gW D cy b n s H locs (enc b cy X S0) := hG
  obtain ⟨hg_5, hM⟩ := gd_some hM
  cases hM
  exact g_zret S hr hlk hG hsz dX12_isKind_15 ⟨Nat.le_of_ble_eq_true rfl, Nat.le_of_ble_eq_true rfl⟩ (nar_z hg_5) ⟨rfl, rfl⟩
def mX12_isSize (S0 : St) (a1 : Int) : Option (Int) := gd (inI a1) <| gd (inI (S0 84 1)) <| bd1 (mX12_in a1 0 (S0 84 1)) fun r_4 => gd (r_4 = 0 ∨ r_4 = 1) <| some (r_4)
set_option maxHeartbeats 4000000 in
set_option maxRecDepth 100000 in
theorem vX12_isSize (l : Launch) {D : va_G} {cy : Nat → ClassId} {b n : Nat} (hn : 102 ≤ n) {X : Nat → va_E} {S0 : St} (a1 : Int) {o1 : Int} (hM : mX12_isSize S0 a1 = some o1) : gI l yX12_isSize cX12_isSize 2 (some .boolean) 1 0 0 D cy b n (enc b cy X S0) [.ref (b + 80), .int (iI a1)] (fun r u => r = iI o1 ∧ u = (n, enc b cy X S0)) := by
  refine gI_of (by decide) (Nat.le_of_ble_eq_true rfl) ?_
  intro p e s m args below meth c S hr hlk hin hsz ls hl hG
  have hx := S.1
  have hb := S.2.1
  have hl : lv_has ls 2 [(0, .ref (b + 80)), (1, .int (iI a1))] := hl
  replace hG : gW D cy b n s s.heap [] (enc b cy X S0) := hG
  obtain ⟨H, eH⟩ : ∃ H, H = s.heap := ⟨_, rfl⟩
  obtain ⟨locs, elocs⟩ : ∃ locs : List Loc, locs = [] := ⟨_, rfl⟩
  rw [← eH, ← elocs] at hG
  rw [← eH, ← elocs]
  clear eH elocs
  unfold mX12_isSize at hM
  refine lv_iload_n hx hb dX12_isSize_0 rfl (lv_at hl 1 rfl) ?_
  obtain ⟨hg_1, hM⟩ := gd_some hM
  refine gi_i2l hx hb dX12_isSize_1 hg_1 ?_
  refine lv_lconst (v := jJ 0) hx hb dX12_isSize_2 (by decide) ?_
  refine lv_aload_n hx hb dX12_isSize_3 rfl (lv_at hl 0 rfl) ?_
  refine m_get S hG 80 83 0 rfl ec_83 cpX12 wm_1673 dX12_isSize_4 rfl (Nat.lt_of_lt_of_le (Nat.le_of_ble_eq_true rfl) hn) (by decide) ?_
  refine lv_iconst (v := iI 1) hx hb dX12_isSize_7 (by decide) ?_
  refine mi_ald S hG 81 84 rfl ec_84 (Nat.lt_of_lt_of_le (Nat.le_of_ble_eq_true rfl) hn) dX12_isSize_8 (by decide) (by decide) ?_
  obtain ⟨hg_2, hM⟩ := gd_some hM
  refine gi_i2l hx hb dX12_isSize_9 hg_2 ?_
  obtain ⟨r_4, hc_3, hM⟩ := bd1_some hM
  refine g_si (As := [.long (jJ a1), .long (jJ 0), .long (jJ (S0 84 1))]) (rest := []) S hG hsz (vX12_in l hn a1 0 (S0 84 1) hc_3) wS_12_97 dX12_isSize_10 rfl hl.1 (ar := 3) (by decide +kernel) rfl ⟨Nat.le_of_ble_eq_true rfl, Nat.le_of_ble_eq_true rfl, Nat.le_of_ble_eq_true rfl, Nat.le_of_ble_eq_true rfl⟩ (Nat.le_of_ble_eq_true rfl) (fun rv uu H locs hp hG => ?_)
  obtain ⟨rfl, rfl⟩ := hp
  replace hG : gW D cy b n s H locs (enc b cy X S0) := hG
  obtain ⟨hg_5, hM⟩ := gd_some hM
  cases hM
  exact g_zret S hr hlk hG hsz dX12_isSize_13 ⟨Nat.le_of_ble_eq_true rfl, Nat.le_of_ble_eq_true rfl⟩ (nar_z hg_5) ⟨rfl, rfl⟩
theorem wV_12_225 : gWV "GrownKindsModel" 225 yX12_isKind cX12_isKind 2 (some .boolean) := ⟨wm_1982, wm_1984, wm_113, wm_188, wm_1985, by decide +kernel, by decide +kernel⟩
def mX12_isTerm (S0 : St) (a1 : Int) (a2 : Int) : Option (Int) := bd1 (mX12_isKind S0 a1) fun r_2 => gd (inI r_2) <| if r_2 = 0 then (some (0)) else (gd (inI a2) <| gd (0 ≤ (198 + a1) ∧ (198 + a1) < 228) <| gd (inI ((S0 84 (198 + a1)) - 1)) <| bd1 (mX12_in a2 0 ((S0 84 (198 + a1)) - 1)) fun r_9 => gd (inI r_9) <| if r_9 = 0 then (some (0)) else (some (1)))
set_option maxHeartbeats 4000000 in
set_option maxRecDepth 100000 in
theorem vX12_isTerm (l : Launch) {D : va_G} {cy : Nat → ClassId} {b n : Nat} (hn : 102 ≤ n) {X : Nat → va_E} {S0 : St} (a1 : Int) (a2 : Int) {o1 : Int} (hM : mX12_isTerm S0 a1 a2 = some o1) : gI l yX12_isTerm cX12_isTerm 3 (some .boolean) 2 0 0 D cy b n (enc b cy X S0) [.ref (b + 80), .int (iI a1), .int (iI a2)] (fun r u => r = iI o1 ∧ u = (n, enc b cy X S0)) := by
  refine gI_of (by decide) (Nat.le_of_ble_eq_true rfl) ?_
  intro p e s m args below meth c S hr hlk hin hsz ls hl hG
  have hx := S.1
  have hb := S.2.1
  have hl : lv_has ls 3 [(0, .ref (b + 80)), (1, .int (iI a1)), (2, .int (iI a2))] := hl
  replace hG : gW D cy b n s s.heap [] (enc b cy X S0) := hG
  obtain ⟨H, eH⟩ : ∃ H, H = s.heap := ⟨_, rfl⟩
  obtain ⟨locs, elocs⟩ : ∃ locs : List Loc, locs = [] := ⟨_, rfl⟩
  rw [← eH, ← elocs] at hG
  rw [← eH, ← elocs]
  clear eH elocs
  unfold mX12_isTerm at hM
  refine lv_aload_n hx hb dX12_isTerm_0 rfl (lv_at hl 0 rfl) ?_
  refine lv_iload_n hx hb dX12_isTerm_1 rfl (lv_at hl 1 rfl) ?_
  obtain ⟨r_2, hc_1, hM⟩ := bd1_some hM
  refine g_vi (As := [.int (iI a1)]) (rest := []) S hG hsz (vX12_isKind l hn a1 hc_1) wV_12_225 (ec_83 _) cpX12 (Nat.lt_of_lt_of_le (Nat.le_of_ble_eq_true rfl) hn) dX12_isTerm_2 rfl hl.1 (ar := 1) (by decide +kernel) rfl ⟨Nat.le_of_ble_eq_true rfl, Nat.le_of_ble_eq_true rfl, Nat.le_of_ble_eq_true rfl, Nat.le_of_ble_eq_true rfl⟩ (Nat.le_of_ble_eq_true rfl) (fun rv uu H locs hp hG => ?_)
  obtain ⟨rfl, rfl⟩ := hp
  replace hG : gW D cy b n s H locs (enc b cy X S0) := hG
  obtain ⟨hg_3, hM⟩ := gd_some hM
  refine gi_if_eq (tgt := 34) hx hb dX12_isTerm_5 (by decide) hg_3 (fun c_4 => ?_) (fun c_4 => ?_)
  · replace hM := ifp hM c_4
    refine lv_iconst (v := iI 0) hx hb dX12_isTerm_34 (by decide) ?_
    cases hM
    exact g_zret S hr hlk hG hsz dX12_isTerm_35 ⟨Nat.le_of_ble_eq_true rfl, Nat.le_of_ble_eq_true rfl⟩ (nar_z (by decide)) ⟨rfl, rfl⟩
  · replace hM := ifn hM c_4
    refine lv_iload_n hx hb dX12_isTerm_8 rfl (lv_at hl 2 rfl) ?_
    obtain ⟨hg_5, hM⟩ := gd_some hM
    refine gi_i2l hx hb dX12_isTerm_9 hg_5 ?_
    refine lv_lconst (v := jJ 0) hx hb dX12_isTerm_10 (by decide) ?_
    refine lv_aload_n hx hb dX12_isTerm_11 rfl (lv_at hl 0 rfl) ?_
    refine m_get S hG 80 83 0 rfl ec_83 cpX12 wm_1673 dX12_isTerm_12 rfl (Nat.lt_of_lt_of_le (Nat.le_of_ble_eq_true rfl) hn) (by decide) ?_
    refine lv_sipush (v := iI 198) hx hb dX12_isTerm_15 (by decide) ?_
    refine lv_iload_n hx hb dX12_isTerm_18 rfl (lv_at hl 1 rfl) ?_
    refine gi_add hx hb dX12_isTerm_19 ?_
    obtain ⟨hg_6, hM⟩ := gd_some hM
    refine mi_ald S hG 81 84 rfl ec_84 (Nat.lt_of_lt_of_le (Nat.le_of_ble_eq_true rfl) hn) dX12_isTerm_20 hg_6 (by decide) ?_
    refine lv_iconst (v := iI 1) hx hb dX12_isTerm_21 (by decide) ?_
    refine gi_sub hx hb dX12_isTerm_22 ?_
    obtain ⟨hg_7, hM⟩ := gd_some hM
    refine gi_i2l hx hb dX12_isTerm_23 hg_7 ?_
    obtain ⟨r_9, hc_8, hM⟩ := bd1_some hM
    refine g_si (As := [.long (jJ a2), .long (jJ 0), .long (jJ ((S0 84 (198 + a1)) - 1))]) (rest := []) S hG hsz (vX12_in l hn a2 0 ((S0 84 (198 + a1)) - 1) hc_8) wS_12_97 dX12_isTerm_24 rfl hl.1 (ar := 3) (by decide +kernel) rfl ⟨Nat.le_of_ble_eq_true rfl, Nat.le_of_ble_eq_true rfl, Nat.le_of_ble_eq_true rfl, Nat.le_of_ble_eq_true rfl⟩ (Nat.le_of_ble_eq_true rfl) (fun rv uu H locs hp hG => ?_)
    obtain ⟨rfl, rfl⟩ := hp
    replace hG : gW D cy b n s H locs (enc b cy X S0) := hG
    obtain ⟨hg_10, hM⟩ := gd_some hM
    refine gi_if_eq (tgt := 34) hx hb dX12_isTerm_27 (by decide) hg_10 (fun c_11 => ?_) (fun c_11 => ?_)
    · replace hM := ifp hM c_11
      refine lv_iconst (v := iI 0) hx hb dX12_isTerm_34 (by decide) ?_
      cases hM
      exact g_zret S hr hlk hG hsz dX12_isTerm_35 ⟨Nat.le_of_ble_eq_true rfl, Nat.le_of_ble_eq_true rfl⟩ (nar_z (by decide)) ⟨rfl, rfl⟩
    · replace hM := ifn hM c_11
      refine lv_iconst (v := iI 1) hx hb dX12_isTerm_30 (by decide) ?_
      refine lv_goto (tgt := 35) hx hb dX12_isTerm_31 (by decide) ?_
      cases hM
      exact g_zret S hr hlk hG hsz dX12_isTerm_35 ⟨Nat.le_of_ble_eq_true rfl, Nat.le_of_ble_eq_true rfl⟩ (nar_z (by decide)) ⟨rfl, rfl⟩
theorem wS_12_228 : gWS "GrownKindsModel" 228 yX12_has cX12_has 2 (some .boolean) := ⟨wm_1949, wm_1950, wm_188, wm_1951, by decide +kernel, by decide +kernel⟩
def mX12_isOff (S0 : St) (a1 : Int) (a2 : Int) : Option (Int) := gd (inI a1) <| if 6 ≤ a1 then (some (0)) else (gd (0 ≤ (6 + a1) ∧ (6 + a1) < 228) <| bd1 (mX12_has (S0 84 (6 + a1)) a2) fun r_5 => gd (inI r_5) <| if r_5 = 0 then (some (0)) else (some (1)))
set_option maxHeartbeats 4000000 in
set_option maxRecDepth 100000 in
theorem vX12_isOff (l : Launch) {D : va_G} {cy : Nat → ClassId} {b n : Nat} (hn : 102 ≤ n) {X : Nat → va_E} {S0 : St} (a1 : Int) (a2 : Int) {o1 : Int} (hM : mX12_isOff S0 a1 a2 = some o1) : gI l yX12_isOff cX12_isOff 3 (some .boolean) 1 0 0 D cy b n (enc b cy X S0) [.ref (b + 80), .int (iI a1), .int (iI a2)] (fun r u => r = iI o1 ∧ u = (n, enc b cy X S0)) := by
  refine gI_of (by decide) (Nat.le_of_ble_eq_true rfl) ?_
  intro p e s m args below meth c S hr hlk hin hsz ls hl hG
  have hx := S.1
  have hb := S.2.1
  have hl : lv_has ls 3 [(0, .ref (b + 80)), (1, .int (iI a1)), (2, .int (iI a2))] := hl
  replace hG : gW D cy b n s s.heap [] (enc b cy X S0) := hG
  obtain ⟨H, eH⟩ : ∃ H, H = s.heap := ⟨_, rfl⟩
  obtain ⟨locs, elocs⟩ : ∃ locs : List Loc, locs = [] := ⟨_, rfl⟩
  rw [← eH, ← elocs] at hG
  rw [← eH, ← elocs]
  clear eH elocs
  unfold mX12_isOff at hM
  refine lv_iload_n hx hb dX12_isOff_0 rfl (lv_at hl 1 rfl) ?_
  refine lv_bipush (v := iI 6) hx hb dX12_isOff_1 (by decide) ?_
  obtain ⟨hg_1, hM⟩ := gd_some hM
  refine gi_icmp_ge (tgt := 26) hx hb dX12_isOff_3 (by decide) hg_1 (by decide) (fun c_2 => ?_) (fun c_2 => ?_)
  · replace hM := ifp hM c_2
    refine lv_iconst (v := iI 0) hx hb dX12_isOff_26 (by decide) ?_
    cases hM
    exact g_zret S hr hlk hG hsz dX12_isOff_27 ⟨Nat.le_of_ble_eq_true rfl, Nat.le_of_ble_eq_true rfl⟩ (nar_z (by decide)) ⟨rfl, rfl⟩
  · replace hM := ifn hM c_2
    refine lv_aload_n hx hb dX12_isOff_6 rfl (lv_at hl 0 rfl) ?_
    refine m_get S hG 80 83 0 rfl ec_83 cpX12 wm_1673 dX12_isOff_7 rfl (Nat.lt_of_lt_of_le (Nat.le_of_ble_eq_true rfl) hn) (by decide) ?_
    refine lv_bipush (v := iI 6) hx hb dX12_isOff_10 (by decide) ?_
    refine lv_iload_n hx hb dX12_isOff_12 rfl (lv_at hl 1 rfl) ?_
    refine gi_add hx hb dX12_isOff_13 ?_
    obtain ⟨hg_3, hM⟩ := gd_some hM
    refine mi_ald S hG 81 84 rfl ec_84 (Nat.lt_of_lt_of_le (Nat.le_of_ble_eq_true rfl) hn) dX12_isOff_14 hg_3 (by decide) ?_
    refine lv_iload_n hx hb dX12_isOff_15 rfl (lv_at hl 2 rfl) ?_
    obtain ⟨r_5, hc_4, hM⟩ := bd1_some hM
    refine g_si (As := [.int (iI (S0 84 (6 + a1))), .int (iI a2)]) (rest := []) S hG hsz (vX12_has l hn (S0 84 (6 + a1)) a2 hc_4) wS_12_228 dX12_isOff_16 rfl hl.1 (ar := 2) (by decide +kernel) rfl ⟨Nat.le_of_ble_eq_true rfl, Nat.le_of_ble_eq_true rfl, Nat.le_of_ble_eq_true rfl, Nat.le_of_ble_eq_true rfl⟩ (Nat.le_of_ble_eq_true rfl) (fun rv uu H locs hp hG => ?_)
    obtain ⟨rfl, rfl⟩ := hp
    replace hG : gW D cy b n s H locs (enc b cy X S0) := hG
    obtain ⟨hg_6, hM⟩ := gd_some hM
    refine gi_if_eq (tgt := 26) hx hb dX12_isOff_19 (by decide) hg_6 (fun c_7 => ?_) (fun c_7 => ?_)
    · replace hM := ifp hM c_7
      refine lv_iconst (v := iI 0) hx hb dX12_isOff_26 (by decide) ?_
      cases hM
      exact g_zret S hr hlk hG hsz dX12_isOff_27 ⟨Nat.le_of_ble_eq_true rfl, Nat.le_of_ble_eq_true rfl⟩ (nar_z (by decide)) ⟨rfl, rfl⟩
    · replace hM := ifn hM c_7
      refine lv_iconst (v := iI 1) hx hb dX12_isOff_22 (by decide) ?_
      refine lv_goto (tgt := 27) hx hb dX12_isOff_23 (by decide) ?_
      cases hM
      exact g_zret S hr hlk hG hsz dX12_isOff_27 ⟨Nat.le_of_ble_eq_true rfl, Nat.le_of_ble_eq_true rfl⟩ (nar_z (by decide)) ⟨rfl, rfl⟩
def mX12_terms (S0 : St) (a1 : Int) : Option (Int) := bd1 (mX12_isKind S0 a1) fun r_2 => gd (inI r_2) <| if r_2 = 0 then (some ((-2))) else (gd (0 ≤ (198 + a1) ∧ (198 + a1) < 228) <| some ((S0 84 (198 + a1))))
set_option maxHeartbeats 4000000 in
set_option maxRecDepth 100000 in
theorem vX12_terms (l : Launch) {D : va_G} {cy : Nat → ClassId} {b n : Nat} (hn : 102 ≤ n) {X : Nat → va_E} {S0 : St} (a1 : Int) {o1 : Int} (hM : mX12_terms S0 a1 = some o1) : gI l yX12_terms cX12_terms 2 (some .int) 2 0 0 D cy b n (enc b cy X S0) [.ref (b + 80), .int (iI a1)] (fun r u => r = iI o1 ∧ u = (n, enc b cy X S0)) := by
  refine gI_of (by decide) (Nat.le_of_ble_eq_true rfl) ?_
  intro p e s m args below meth c S hr hlk hin hsz ls hl hG
  have hx := S.1
  have hb := S.2.1
  have hl : lv_has ls 2 [(0, .ref (b + 80)), (1, .int (iI a1))] := hl
  replace hG : gW D cy b n s s.heap [] (enc b cy X S0) := hG
  obtain ⟨H, eH⟩ : ∃ H, H = s.heap := ⟨_, rfl⟩
  obtain ⟨locs, elocs⟩ : ∃ locs : List Loc, locs = [] := ⟨_, rfl⟩
  rw [← eH, ← elocs] at hG
  rw [← eH, ← elocs]
  clear eH elocs
  unfold mX12_terms at hM
  refine lv_aload_n hx hb dX12_terms_0 rfl (lv_at hl 0 rfl) ?_
  refine lv_iload_n hx hb dX12_terms_1 rfl (lv_at hl 1 rfl) ?_
  obtain ⟨r_2, hc_1, hM⟩ := bd1_some hM
  refine g_vi (As := [.int (iI a1)]) (rest := []) S hG hsz (vX12_isKind l hn a1 hc_1) wV_12_225 (ec_83 _) cpX12 (Nat.lt_of_lt_of_le (Nat.le_of_ble_eq_true rfl) hn) dX12_terms_2 rfl hl.1 (ar := 1) (by decide +kernel) rfl ⟨Nat.le_of_ble_eq_true rfl, Nat.le_of_ble_eq_true rfl, Nat.le_of_ble_eq_true rfl, Nat.le_of_ble_eq_true rfl⟩ (Nat.le_of_ble_eq_true rfl) (fun rv uu H locs hp hG => ?_)
  obtain ⟨rfl, rfl⟩ := hp
  replace hG : gW D cy b n s H locs (enc b cy X S0) := hG
  obtain ⟨hg_3, hM⟩ := gd_some hM
  refine gi_if_eq (tgt := 21) hx hb dX12_terms_5 (by decide) hg_3 (fun c_4 => ?_) (fun c_4 => ?_)
  · replace hM := ifp hM c_4
    refine lv_bipush (v := iI (-2)) hx hb dX12_terms_21 (by decide) ?_
    cases hM
    exact g_iret S hr hlk hG hsz dX12_terms_23 ⟨Nat.le_of_ble_eq_true rfl, Nat.le_of_ble_eq_true rfl⟩ ⟨rfl, rfl⟩
  · replace hM := ifn hM c_4
    refine lv_aload_n hx hb dX12_terms_8 rfl (lv_at hl 0 rfl) ?_
    refine m_get S hG 80 83 0 rfl ec_83 cpX12 wm_1673 dX12_terms_9 rfl (Nat.lt_of_lt_of_le (Nat.le_of_ble_eq_true rfl) hn) (by decide) ?_
    refine lv_sipush (v := iI 198) hx hb dX12_terms_12 (by decide) ?_
    refine lv_iload_n hx hb dX12_terms_15 rfl (lv_at hl 1 rfl) ?_
    refine gi_add hx hb dX12_terms_16 ?_
    obtain ⟨hg_5, hM⟩ := gd_some hM
    refine mi_ald S hG 81 84 rfl ec_84 (Nat.lt_of_lt_of_le (Nat.le_of_ble_eq_true rfl) hn) dX12_terms_17 hg_5 (by decide) ?_
    refine lv_goto (tgt := 23) hx hb dX12_terms_18 (by decide) ?_
    cases hM
    exact g_iret S hr hlk hG hsz dX12_terms_23 ⟨Nat.le_of_ble_eq_true rfl, Nat.le_of_ble_eq_true rfl⟩ ⟨rfl, rfl⟩
def mX12_off (S0 : St) (a1 : Int) : Option (Int) := bd1 (mX12_isKind S0 a1) fun r_2 => gd (inI r_2) <| if r_2 = 0 then (some ((-2))) else (gd (0 ≤ (6 + a1) ∧ (6 + a1) < 228) <| some ((S0 84 (6 + a1))))
set_option maxHeartbeats 4000000 in
set_option maxRecDepth 100000 in
theorem vX12_off (l : Launch) {D : va_G} {cy : Nat → ClassId} {b n : Nat} (hn : 102 ≤ n) {X : Nat → va_E} {S0 : St} (a1 : Int) {o1 : Int} (hM : mX12_off S0 a1 = some o1) : gI l yX12_off cX12_off 2 (some .int) 2 0 0 D cy b n (enc b cy X S0) [.ref (b + 80), .int (iI a1)] (fun r u => r = iI o1 ∧ u = (n, enc b cy X S0)) := by
  refine gI_of (by decide) (Nat.le_of_ble_eq_true rfl) ?_
  intro p e s m args below meth c S hr hlk hin hsz ls hl hG
  have hx := S.1
  have hb := S.2.1
  have hl : lv_has ls 2 [(0, .ref (b + 80)), (1, .int (iI a1))] := hl
  replace hG : gW D cy b n s s.heap [] (enc b cy X S0) := hG
  obtain ⟨H, eH⟩ : ∃ H, H = s.heap := ⟨_, rfl⟩
  obtain ⟨locs, elocs⟩ : ∃ locs : List Loc, locs = [] := ⟨_, rfl⟩
  rw [← eH, ← elocs] at hG
  rw [← eH, ← elocs]
  clear eH elocs
  unfold mX12_off at hM
  refine lv_aload_n hx hb dX12_off_0 rfl (lv_at hl 0 rfl) ?_
  refine lv_iload_n hx hb dX12_off_1 rfl (lv_at hl 1 rfl) ?_
  obtain ⟨r_2, hc_1, hM⟩ := bd1_some hM
  refine g_vi (As := [.int (iI a1)]) (rest := []) S hG hsz (vX12_isKind l hn a1 hc_1) wV_12_225 (ec_83 _) cpX12 (Nat.lt_of_lt_of_le (Nat.le_of_ble_eq_true rfl) hn) dX12_off_2 rfl hl.1 (ar := 1) (by decide +kernel) rfl ⟨Nat.le_of_ble_eq_true rfl, Nat.le_of_ble_eq_true rfl, Nat.le_of_ble_eq_true rfl, Nat.le_of_ble_eq_true rfl⟩ (Nat.le_of_ble_eq_true rfl) (fun rv uu H locs hp hG => ?_)
  obtain ⟨rfl, rfl⟩ := hp
  replace hG : gW D cy b n s H locs (enc b cy X S0) := hG
  obtain ⟨hg_3, hM⟩ := gd_some hM
  refine gi_if_eq (tgt := 20) hx hb dX12_off_5 (by decide) hg_3 (fun c_4 => ?_) (fun c_4 => ?_)
  · replace hM := ifp hM c_4
    refine lv_bipush (v := iI (-2)) hx hb dX12_off_20 (by decide) ?_
    cases hM
    exact g_iret S hr hlk hG hsz dX12_off_22 ⟨Nat.le_of_ble_eq_true rfl, Nat.le_of_ble_eq_true rfl⟩ ⟨rfl, rfl⟩
  · replace hM := ifn hM c_4
    refine lv_aload_n hx hb dX12_off_8 rfl (lv_at hl 0 rfl) ?_
    refine m_get S hG 80 83 0 rfl ec_83 cpX12 wm_1673 dX12_off_9 rfl (Nat.lt_of_lt_of_le (Nat.le_of_ble_eq_true rfl) hn) (by decide) ?_
    refine lv_bipush (v := iI 6) hx hb dX12_off_12 (by decide) ?_
    refine lv_iload_n hx hb dX12_off_14 rfl (lv_at hl 1 rfl) ?_
    refine gi_add hx hb dX12_off_15 ?_
    obtain ⟨hg_5, hM⟩ := gd_some hM
    refine mi_ald S hG 81 84 rfl ec_84 (Nat.lt_of_lt_of_le (Nat.le_of_ble_eq_true rfl) hn) dX12_off_16 hg_5 (by decide) ?_
    refine lv_goto (tgt := 22) hx hb dX12_off_17 (by decide) ?_
    cases hM
    exact g_iret S hr hlk hG hsz dX12_off_22 ⟨Nat.le_of_ble_eq_true rfl, Nat.le_of_ble_eq_true rfl⟩ ⟨rfl, rfl⟩
def mX12_fault (S0 : St) (a1 : Int) : Option (Int) := gd (inI a1) <| if a1 = 0 then (some ((S0 83 4))) else (if a1 = 1 then (some ((S0 83 5))) else (some ((-1))))
set_option maxHeartbeats 4000000 in
set_option maxRecDepth 100000 in
theorem vX12_fault (l : Launch) {D : va_G} {cy : Nat → ClassId} {b n : Nat} (hn : 102 ≤ n) {X : Nat → va_E} {S0 : St} (a1 : Int) {o1 : Int} (hM : mX12_fault S0 a1 = some o1) : gI l yX12_fault cX12_fault 2 (some .int) 0 0 0 D cy b n (enc b cy X S0) [.ref (b + 80), .int (iI a1)] (fun r u => r = iI o1 ∧ u = (n, enc b cy X S0)) := by
  refine gI_of (by decide) (Nat.le_of_ble_eq_true rfl) ?_
  intro p e s m args below meth c S hr hlk hin hsz ls hl hG
  have hx := S.1
  have hb := S.2.1
  have hl : lv_has ls 2 [(0, .ref (b + 80)), (1, .int (iI a1))] := hl
  replace hG : gW D cy b n s s.heap [] (enc b cy X S0) := hG
  obtain ⟨H, eH⟩ : ∃ H, H = s.heap := ⟨_, rfl⟩
  obtain ⟨locs, elocs⟩ : ∃ locs : List Loc, locs = [] := ⟨_, rfl⟩
  rw [← eH, ← elocs] at hG
  rw [← eH, ← elocs]
  clear eH elocs
  unfold mX12_fault at hM
  refine lv_iload_n hx hb dX12_fault_0 rfl (lv_at hl 1 rfl) ?_
  obtain ⟨hg_1, hM⟩ := gd_some hM
  refine gi_if_ne (tgt := 11) hx hb dX12_fault_1 (by decide) hg_1 (fun c_2 => ?_) (fun c_2 => ?_)
  · replace hM := ifn hM c_2
    refine lv_iload_n hx hb dX12_fault_11 rfl (lv_at hl 1 rfl) ?_
    refine lv_iconst (v := iI 1) hx hb dX12_fault_12 (by decide) ?_
    refine gi_icmp_ne (tgt := 23) hx hb dX12_fault_13 (by decide) hg_1 (by decide) (fun c_3 => ?_) (fun c_3 => ?_)
    · replace hM := ifn hM c_3
      refine lv_iconst (v := iI (-1)) hx hb dX12_fault_23 (by decide) ?_
      cases hM
      exact g_iret S hr hlk hG hsz dX12_fault_24 ⟨Nat.le_of_ble_eq_true rfl, Nat.le_of_ble_eq_true rfl⟩ ⟨rfl, rfl⟩
    · replace hM := ifp hM c_3
      refine lv_aload_n hx hb dX12_fault_16 rfl (lv_at hl 0 rfl) ?_
      refine m_get S hG 80 83 5 rfl ec_83 cpX12 wm_1678 dX12_fault_17 rfl (Nat.lt_of_lt_of_le (Nat.le_of_ble_eq_true rfl) hn) (by decide) ?_
      refine lv_goto (tgt := 24) hx hb dX12_fault_20 (by decide) ?_
      cases hM
      exact g_iret S hr hlk hG hsz dX12_fault_24 ⟨Nat.le_of_ble_eq_true rfl, Nat.le_of_ble_eq_true rfl⟩ ⟨rfl, rfl⟩
  · replace hM := ifp hM c_2
    refine lv_aload_n hx hb dX12_fault_4 rfl (lv_at hl 0 rfl) ?_
    refine m_get S hG 80 83 4 rfl ec_83 cpX12 wm_1677 dX12_fault_5 rfl (Nat.lt_of_lt_of_le (Nat.le_of_ble_eq_true rfl) hn) (by decide) ?_
    refine lv_goto (tgt := 24) hx hb dX12_fault_8 (by decide) ?_
    cases hM
    exact g_iret S hr hlk hG hsz dX12_fault_24 ⟨Nat.le_of_ble_eq_true rfl, Nat.le_of_ble_eq_true rfl⟩ ⟨rfl, rfl⟩
def mX12_count (S0 : St) (a1 : Int) : Option (Int) := gd (inI a1) <| if a1 = 0 then (some ((S0 84 0))) else (if a1 = 1 then (some ((S0 84 1))) else (if a1 = 2 then (some ((S0 84 2))) else (if a1 = 3 then (some ((S0 84 3))) else (if a1 = 4 then (some ((S0 84 4))) else (if a1 = 5 then (some ((S0 83 3))) else (some ((-1))))))))
set_option maxHeartbeats 4000000 in
set_option maxRecDepth 100000 in
theorem vX12_count (l : Launch) {D : va_G} {cy : Nat → ClassId} {b n : Nat} (hn : 102 ≤ n) {X : Nat → va_E} {S0 : St} (a1 : Int) {o1 : Int} (hM : mX12_count S0 a1 = some o1) : gI l yX12_count cX12_count 2 (some .int) 0 0 0 D cy b n (enc b cy X S0) [.ref (b + 80), .int (iI a1)] (fun r u => r = iI o1 ∧ u = (n, enc b cy X S0)) := by
  refine gI_of (by decide) (Nat.le_of_ble_eq_true rfl) ?_
  intro p e s m args below meth c S hr hlk hin hsz ls hl hG
  have hx := S.1
  have hb := S.2.1
  have hl : lv_has ls 2 [(0, .ref (b + 80)), (1, .int (iI a1))] := hl
  replace hG : gW D cy b n s s.heap [] (enc b cy X S0) := hG
  obtain ⟨H, eH⟩ : ∃ H, H = s.heap := ⟨_, rfl⟩
  obtain ⟨locs, elocs⟩ : ∃ locs : List Loc, locs = [] := ⟨_, rfl⟩
  rw [← eH, ← elocs] at hG
  rw [← eH, ← elocs]
  clear eH elocs
  unfold mX12_count at hM
  refine lv_iload_n hx hb dX12_count_0 rfl (lv_at hl 1 rfl) ?_
  obtain ⟨hg_1, hM⟩ := gd_some hM
  rcases (show a1 = 0 ∨ a1 = 1 ∨ a1 = 2 ∨ a1 = 3 ∨ a1 = 4 ∨ a1 = 5 ∨ (a1 < 0 ∨ 5 < a1) by omega) with hs_2 | hs_2 | hs_2 | hs_2 | hs_2 | hs_2 | hs_2
  · replace hM := ifp hM hs_2
    refine gi_tsI (off := 39) (tgt := 40) hx hb 0 dX12_count_1 hg_1 (by omega) (by omega) (by rfl) (by decide) ?_
    refine lv_aload_n hx hb dX12_count_40 rfl (lv_at hl 0 rfl) ?_
    refine m_get S hG 80 83 0 rfl ec_83 cpX12 wm_1673 dX12_count_41 rfl (Nat.lt_of_lt_of_le (Nat.le_of_ble_eq_true rfl) hn) (by decide) ?_
    refine lv_iconst (v := iI 0) hx hb dX12_count_44 (by decide) ?_
    refine mi_ald S hG 81 84 rfl ec_84 (Nat.lt_of_lt_of_le (Nat.le_of_ble_eq_true rfl) hn) dX12_count_45 (by decide) (by decide) ?_
    cases hM
    exact g_iret S hr hlk hG hsz dX12_count_46 ⟨Nat.le_of_ble_eq_true rfl, Nat.le_of_ble_eq_true rfl⟩ ⟨rfl, rfl⟩
  · replace hM := ifn hM (by omega)
    replace hM := ifp hM hs_2
    refine gi_tsI (off := 46) (tgt := 47) hx hb 1 dX12_count_1 hg_1 (by omega) (by omega) (by rfl) (by decide) ?_
    refine lv_aload_n hx hb dX12_count_47 rfl (lv_at hl 0 rfl) ?_
    refine m_get S hG 80 83 0 rfl ec_83 cpX12 wm_1673 dX12_count_48 rfl (Nat.lt_of_lt_of_le (Nat.le_of_ble_eq_true rfl) hn) (by decide) ?_
    refine lv_iconst (v := iI 1) hx hb dX12_count_51 (by decide) ?_
    refine mi_ald S hG 81 84 rfl ec_84 (Nat.lt_of_lt_of_le (Nat.le_of_ble_eq_true rfl) hn) dX12_count_52 (by decide) (by decide) ?_
    cases hM
    exact g_iret S hr hlk hG hsz dX12_count_53 ⟨Nat.le_of_ble_eq_true rfl, Nat.le_of_ble_eq_true rfl⟩ ⟨rfl, rfl⟩
  · replace hM := ifn hM (by omega)
    replace hM := ifn hM (by omega)
    replace hM := ifp hM hs_2
    refine gi_tsI (off := 53) (tgt := 54) hx hb 2 dX12_count_1 hg_1 (by omega) (by omega) (by rfl) (by decide) ?_
    refine lv_aload_n hx hb dX12_count_54 rfl (lv_at hl 0 rfl) ?_
    refine m_get S hG 80 83 0 rfl ec_83 cpX12 wm_1673 dX12_count_55 rfl (Nat.lt_of_lt_of_le (Nat.le_of_ble_eq_true rfl) hn) (by decide) ?_
    refine lv_iconst (v := iI 2) hx hb dX12_count_58 (by decide) ?_
    refine mi_ald S hG 81 84 rfl ec_84 (Nat.lt_of_lt_of_le (Nat.le_of_ble_eq_true rfl) hn) dX12_count_59 (by decide) (by decide) ?_
    cases hM
    exact g_iret S hr hlk hG hsz dX12_count_60 ⟨Nat.le_of_ble_eq_true rfl, Nat.le_of_ble_eq_true rfl⟩ ⟨rfl, rfl⟩
  · replace hM := ifn hM (by omega)
    replace hM := ifn hM (by omega)
    replace hM := ifn hM (by omega)
    replace hM := ifp hM hs_2
    refine gi_tsI (off := 60) (tgt := 61) hx hb 3 dX12_count_1 hg_1 (by omega) (by omega) (by rfl) (by decide) ?_
    refine lv_aload_n hx hb dX12_count_61 rfl (lv_at hl 0 rfl) ?_
    refine m_get S hG 80 83 0 rfl ec_83 cpX12 wm_1673 dX12_count_62 rfl (Nat.lt_of_lt_of_le (Nat.le_of_ble_eq_true rfl) hn) (by decide) ?_
    refine lv_iconst (v := iI 3) hx hb dX12_count_65 (by decide) ?_
    refine mi_ald S hG 81 84 rfl ec_84 (Nat.lt_of_lt_of_le (Nat.le_of_ble_eq_true rfl) hn) dX12_count_66 (by decide) (by decide) ?_
    cases hM
    exact g_iret S hr hlk hG hsz dX12_count_67 ⟨Nat.le_of_ble_eq_true rfl, Nat.le_of_ble_eq_true rfl⟩ ⟨rfl, rfl⟩
  · replace hM := ifn hM (by omega)
    replace hM := ifn hM (by omega)
    replace hM := ifn hM (by omega)
    replace hM := ifn hM (by omega)
    replace hM := ifp hM hs_2
    refine gi_tsI (off := 67) (tgt := 68) hx hb 4 dX12_count_1 hg_1 (by omega) (by omega) (by rfl) (by decide) ?_
    refine lv_aload_n hx hb dX12_count_68 rfl (lv_at hl 0 rfl) ?_
    refine m_get S hG 80 83 0 rfl ec_83 cpX12 wm_1673 dX12_count_69 rfl (Nat.lt_of_lt_of_le (Nat.le_of_ble_eq_true rfl) hn) (by decide) ?_
    refine lv_iconst (v := iI 4) hx hb dX12_count_72 (by decide) ?_
    refine mi_ald S hG 81 84 rfl ec_84 (Nat.lt_of_lt_of_le (Nat.le_of_ble_eq_true rfl) hn) dX12_count_73 (by decide) (by decide) ?_
    cases hM
    exact g_iret S hr hlk hG hsz dX12_count_74 ⟨Nat.le_of_ble_eq_true rfl, Nat.le_of_ble_eq_true rfl⟩ ⟨rfl, rfl⟩
  · replace hM := ifn hM (by omega)
    replace hM := ifn hM (by omega)
    replace hM := ifn hM (by omega)
    replace hM := ifn hM (by omega)
    replace hM := ifn hM (by omega)
    replace hM := ifp hM hs_2
    refine gi_tsI (off := 74) (tgt := 75) hx hb 5 dX12_count_1 hg_1 (by omega) (by omega) (by rfl) (by decide) ?_
    refine lv_aload_n hx hb dX12_count_75 rfl (lv_at hl 0 rfl) ?_
    refine m_get S hG 80 83 3 rfl ec_83 cpX12 wm_1676 dX12_count_76 rfl (Nat.lt_of_lt_of_le (Nat.le_of_ble_eq_true rfl) hn) (by decide) ?_
    cases hM
    exact g_iret S hr hlk hG hsz dX12_count_79 ⟨Nat.le_of_ble_eq_true rfl, Nat.le_of_ble_eq_true rfl⟩ ⟨rfl, rfl⟩
  · replace hM := ifn hM (by omega)
    replace hM := ifn hM (by omega)
    replace hM := ifn hM (by omega)
    replace hM := ifn hM (by omega)
    replace hM := ifn hM (by omega)
    replace hM := ifn hM (by omega)
    refine gi_tsO (tgt := 80) hx hb dX12_count_1 hg_1 hs_2 (by decide) ?_
    refine lv_iconst (v := iI (-1)) hx hb dX12_count_80 (by decide) ?_
    cases hM
    exact g_iret S hr hlk hG hsz dX12_count_81 ⟨Nat.le_of_ble_eq_true rfl, Nat.le_of_ble_eq_true rfl⟩ ⟨rfl, rfl⟩
theorem wS_12_276 : gWS "GrownKindsModel" 276 yX12_place cX12_place 3 (some .int) := ⟨wm_2034, wm_2035, wm_188, wm_2036, by decide +kernel, by decide +kernel⟩
def mX12_kindMany (S0 : St) (a1 : Int) (a2 : Int) : Option (Int) := bd1 (mX12_place (24 + a1) a2 0) fun r_2 => gd (0 ≤ r_2 ∧ r_2 < 1920) <| some ((S0 90 r_2))
set_option maxHeartbeats 4000000 in
set_option maxRecDepth 100000 in
theorem vX12_kindMany (l : Launch) {D : va_G} {cy : Nat → ClassId} {b n : Nat} (hn : 102 ≤ n) {X : Nat → va_E} {S0 : St} (a1 : Int) (a2 : Int) {o1 : Int} (hM : mX12_kindMany S0 a1 a2 = some o1) : gL l yX12_kindMany cX12_kindMany 3 1 0 0 D cy b n (enc b cy X S0) [.ref (b + 80), .int (iI a1), .int (iI a2)] (fun r u => r = jJ o1 ∧ u = (n, enc b cy X S0)) := by
  refine gL_of (by decide) (Nat.le_of_ble_eq_true rfl) ?_
  intro p e s m args below meth c S hr hlk hin hsz ls hl hG
  have hx := S.1
  have hb := S.2.1
  have hl : lv_has ls 3 [(0, .ref (b + 80)), (1, .int (iI a1)), (2, .int (iI a2))] := hl
  replace hG : gW D cy b n s s.heap [] (enc b cy X S0) := hG
  obtain ⟨H, eH⟩ : ∃ H, H = s.heap := ⟨_, rfl⟩
  obtain ⟨locs, elocs⟩ : ∃ locs : List Loc, locs = [] := ⟨_, rfl⟩
  rw [← eH, ← elocs] at hG
  rw [← eH, ← elocs]
  clear eH elocs
  unfold mX12_kindMany at hM
  refine lv_aload_n hx hb dX12_kindMany_0 rfl (lv_at hl 0 rfl) ?_
  refine m_get S hG 80 83 14 rfl ec_83 cpX12 wm_1687 dX12_kindMany_1 rfl (Nat.lt_of_lt_of_le (Nat.le_of_ble_eq_true rfl) hn) (by decide) ?_
  refine lv_bipush (v := iI 24) hx hb dX12_kindMany_4 (by decide) ?_
  refine lv_iload_n hx hb dX12_kindMany_6 rfl (lv_at hl 1 rfl) ?_
  refine gi_add hx hb dX12_kindMany_7 ?_
  refine lv_iload_n hx hb dX12_kindMany_8 rfl (lv_at hl 2 rfl) ?_
  refine lv_iconst (v := iI 0) hx hb dX12_kindMany_9 (by decide) ?_
  obtain ⟨r_2, hc_1, hM⟩ := bd1_some hM
  refine g_si (As := [.int (iI (24 + a1)), .int (iI a2), .int (iI 0)]) (rest := [.ref (b + 87)]) S hG hsz (vX12_place l hn (24 + a1) a2 0 hc_1) wS_12_276 dX12_kindMany_10 rfl hl.1 (ar := 3) (by decide +kernel) rfl ⟨Nat.le_of_ble_eq_true rfl, Nat.le_of_ble_eq_true rfl, Nat.le_of_ble_eq_true rfl, Nat.le_of_ble_eq_true rfl⟩ (Nat.le_of_ble_eq_true rfl) (fun rv uu H locs hp hG => ?_)
  obtain ⟨rfl, rfl⟩ := hp
  replace hG : gW D cy b n s H locs (enc b cy X S0) := hG
  obtain ⟨hg_3, hM⟩ := gd_some hM
  refine mj_ald S hG 87 90 rfl ec_90 (Nat.lt_of_lt_of_le (Nat.le_of_ble_eq_true rfl) hn) dX12_kindMany_13 hg_3 (by decide) ?_
  cases hM
  exact g_lret S hr hlk hG hsz dX12_kindMany_14 ⟨Nat.le_of_ble_eq_true rfl, Nat.le_of_ble_eq_true rfl⟩ ⟨rfl, rfl⟩
theorem wV_12_320 : gWV "GrownKindsModel" 320 yX12_kindMany cX12_kindMany 3 (some .long) := ⟨wm_2081, wm_2083, wm_126, wm_188, wm_2084, by decide +kernel, by decide +kernel⟩
theorem wS_12_282 : gWS "GrownKindsModel" 282 yX12_add cX12_add 6 (some .long) := ⟨wm_2050, wm_2051, wm_188, wm_2052, by decide +kernel, by decide +kernel⟩
def mX12_upTo_6 (S0 : St) (a1 : Int) (a3 : Int) : Nat → Int → Int → Option (Int)
  | 0, _, _ => none
  | f + 1, v_1, v_2 => gd ((inI v_1) ∧ (inI a3)) <| if a3 < v_1 then (some (v_2)) else (bd1 (mX12_kindMany S0 a1 v_1) fun r_12 => bd1 (mX12_add v_2 r_12 1000000000000) fun r_14 => mX12_upTo_6 S0 a1 a3 f (v_1 + 1) r_14)
def mX12_upTo (S0 : St) (a1 : Int) (a2 : Int) (a3 : Int) : Option (Int) := bd1 (mX12_upTo_6 S0 a1 a3 FU a2 0) fun y_3 => some (y_3)
set_option maxHeartbeats 4000000 in
set_option maxRecDepth 100000 in
theorem vX12_upTo (l : Launch) {D : va_G} {cy : Nat → ClassId} {b n : Nat} (hn : 102 ≤ n) {X : Nat → va_E} {S0 : St} (a1 : Int) (a2 : Int) (a3 : Int) {o1 : Int} (hM : mX12_upTo S0 a1 a2 a3 = some o1) : gL l yX12_upTo cX12_upTo 7 2 0 0 D cy b n (enc b cy X S0) [.ref (b + 80), .int (iI a1), .int (iI a2), .int (iI a3)] (fun r u => r = jJ o1 ∧ u = (n, enc b cy X S0)) := by
  refine gL_of (by decide) (Nat.le_of_ble_eq_true rfl) ?_
  intro p e s m args below meth c S hr hlk hin hsz ls hl hG
  have hx := S.1
  have hb := S.2.1
  have hl : lv_has ls 7 [(0, .ref (b + 80)), (1, .int (iI a1)), (2, .int (iI a2)), (3, .int (iI a3))] := hl
  replace hG : gW D cy b n s s.heap [] (enc b cy X S0) := hG
  obtain ⟨H, eH⟩ : ∃ H, H = s.heap := ⟨_, rfl⟩
  obtain ⟨locs, elocs⟩ : ∃ locs : List Loc, locs = [] := ⟨_, rfl⟩
  rw [← eH, ← elocs] at hG
  rw [← eH, ← elocs]
  clear eH elocs
  unfold mX12_upTo at hM
  refine lv_lconst (v := jJ 0) hx hb dX12_upTo_0 (by decide) ?_
  refine lv_lstore (lv' := [(4, .long (jJ 0)), (0, .ref (b + 80)), (1, .int (iI a1)), (2, .int (iI a2)), (3, .int (iI a3))]) hx hb dX12_upTo_1 hl (by decide) rfl (fun ls hl => ?_)
  refine lv_iload_n hx hb dX12_upTo_3 rfl (lv_at hl 3 rfl) ?_
  refine lv_istore (lv' := [(6, .int (iI a2)), (4, .long (jJ 0)), (0, .ref (b + 80)), (1, .int (iI a1)), (2, .int (iI a2)), (3, .int (iI a3))]) hx hb dX12_upTo_4 hl (by decide) rfl (fun ls hl => ?_)
  obtain ⟨y_3, hc_4, hM⟩ := bd1_some hM
  have hK_5 : ∀ (H : Heap) (locs : List Loc) (ls : Array Slot), gW D cy b n s H locs (enc b cy X S0) → lv_has ls 7 [(4, .long (jJ y_3))] → W p l e (gRm 2 0 0) s m args below meth c H locs 0 0 (gQL D cy b s args below 0 0 (fun r u => r = jJ o1 ∧ u = (n, enc b cy X S0))) (F0 m 35 ls []) := by
    intro H locs ls hG hl
    refine lv_lload hx hb dX12_upTo_35 (lv_at hl 0 rfl) ?_
    cases hM
    exact g_lret S hr hlk hG hsz dX12_upTo_37 ⟨Nat.le_of_ble_eq_true rfl, Nat.le_of_ble_eq_true rfl⟩ ⟨rfl, rfl⟩
  have loop_6 : ∀ (f : Nat) (v_1 : Int) (v_2 : Int) (H : Heap) (locs : List Loc) (ls : Array Slot), mX12_upTo_6 S0 a1 a3 f v_1 v_2 = some y_3 → gW D cy b n s H locs (enc b cy X S0) → lv_has ls 7 [(6, .int (iI v_1)), (4, .long (jJ v_2)), (0, .ref (b + 80)), (1, .int (iI a1)), (3, .int (iI a3))] → W p l e (gRm 2 0 0) s m args below meth c H locs 0 0 (gQL D cy b s args below 0 0 (fun r u => r = jJ o1 ∧ u = (n, enc b cy X S0))) (F0 m 6 ls []) := by
    clear hM
    intro f
    induction f with
    | zero => intro v_1 v_2 H locs ls hM; rw [mX12_upTo_6] at hM; cases hM
    | succ f_8 ih_7 =>
      intro v_1 v_2 H locs ls hM hG hl
      rw [mX12_upTo_6] at hM
      refine lv_iload hx hb dX12_upTo_6 (lv_at hl 0 rfl) ?_
      refine lv_iload_n hx hb dX12_upTo_8 rfl (lv_at hl 4 rfl) ?_
      obtain ⟨hg_9, hM⟩ := gd_some hM
      refine gi_icmp_gt (tgt := 35) hx hb dX12_upTo_9 (by decide) hg_9.1 hg_9.2 (fun c_10 => ?_) (fun c_10 => ?_)
      · replace hM := ifp hM c_10
        cases hM
        exact hK_5 H locs ls hG (lv_sub hl [1] rfl)
      · replace hM := ifn hM c_10
        refine lv_lload hx hb dX12_upTo_12 (lv_at hl 1 rfl) ?_
        refine lv_aload_n hx hb dX12_upTo_14 rfl (lv_at hl 2 rfl) ?_
        refine lv_iload_n hx hb dX12_upTo_15 rfl (lv_at hl 3 rfl) ?_
        refine lv_iload hx hb dX12_upTo_16 (lv_at hl 0 rfl) ?_
        obtain ⟨r_12, hc_11, hM⟩ := bd1_some hM
        refine g_vl (As := [.int (iI a1), .int (iI v_1)]) (rest := [.long (jJ v_2)]) S hG hsz (vX12_kindMany l hn a1 v_1 hc_11) wV_12_320 (ec_83 _) cpX12 (Nat.lt_of_lt_of_le (Nat.le_of_ble_eq_true rfl) hn) dX12_upTo_18 rfl hl.1 (ar := 2) (by decide +kernel) rfl ⟨Nat.le_of_ble_eq_true rfl, Nat.le_of_ble_eq_true rfl, Nat.le_of_ble_eq_true rfl, Nat.le_of_ble_eq_true rfl⟩ (Nat.le_of_ble_eq_true rfl) (fun rv uu H locs hp hG => ?_)
        obtain ⟨rfl, rfl⟩ := hp
        replace hG : gW D cy b n s H locs (enc b cy X S0) := hG
        refine lv_ldc2 (v := 1000000000000) hx hb S.2.2.2.1 (S.2.2.2.2 _ wm_2044) dX12_upTo_21 ?_
        refine gj_as 1000000000000 (by decide) ?_
        obtain ⟨r_14, hc_13, hM⟩ := bd1_some hM
        refine g_sl (As := [.long (jJ v_2), .long (jJ r_12), .long (jJ 1000000000000)]) (rest := []) S hG hsz (vX12_add l hn v_2 r_12 1000000000000 hc_13) wS_12_282 dX12_upTo_24 rfl hl.1 (ar := 3) (by decide +kernel) rfl ⟨Nat.le_of_ble_eq_true rfl, Nat.le_of_ble_eq_true rfl, Nat.le_of_ble_eq_true rfl, Nat.le_of_ble_eq_true rfl⟩ (Nat.le_of_ble_eq_true rfl) (fun rv uu H locs hp hG => ?_)
        obtain ⟨rfl, rfl⟩ := hp
        replace hG : gW D cy b n s H locs (enc b cy X S0) := hG
        refine lv_lstore (lv' := [(4, .long (jJ r_14)), (6, .int (iI v_1)), (0, .ref (b + 80)), (1, .int (iI a1)), (3, .int (iI a3))]) hx hb dX12_upTo_27 hl (by decide) rfl (fun ls hl => ?_)
        refine lv_iinc (v := iI (v_1 + 1)) (lv' := [(6, .int (iI (v_1 + 1))), (4, .long (jJ r_14)), (0, .ref (b + 80)), (1, .int (iI a1)), (3, .int (iI a3))]) hx hb dX12_upTo_29 hl (k := 1) rfl ((iI_add v_1 (1)).trans (congrArg iI (by omega))) (by decide) rfl (fun ls hl => ?_)
        refine lv_goto (tgt := 6) hx hb dX12_upTo_32 (by decide) ?_
        exact ih_7 (v_1 + 1) r_14 H locs ls hM hG (lv_sub hl [0, 1, 2, 3, 4] rfl)
  exact loop_6 FU a2 0 H locs ls hc_4 hG (lv_sub hl [0, 1, 2, 3, 5] rfl)
theorem wV_12_334 : gWV "GrownKindsModel" 334 yX12_isSize cX12_isSize 2 (some .boolean) := ⟨wm_2097, wm_2099, wm_127, wm_188, wm_2100, by decide +kernel, by decide +kernel⟩
def mX12_isBox (S0 : St) (a1 : Int) (a2 : Int) (a3 : Int) : Option (Int) := bd1 (mX12_isKind S0 a1) fun r_2 => gd (inI r_2) <| if r_2 = 0 then (some (0)) else (bd1 (mX12_isSize S0 a2) fun r_6 => gd (inI r_6) <| if r_6 = 0 then (some (0)) else (bd1 (mX12_isSize S0 a3) fun r_10 => gd (inI r_10) <| if r_10 = 0 then (some (0)) else (gd ((inI a2) ∧ (inI a3)) <| if a3 < a2 then (some (0)) else (some (1)))))
set_option maxHeartbeats 4000000 in
set_option maxRecDepth 100000 in
theorem vX12_isBox (l : Launch) {D : va_G} {cy : Nat → ClassId} {b n : Nat} (hn : 102 ≤ n) {X : Nat → va_E} {S0 : St} (a1 : Int) (a2 : Int) (a3 : Int) {o1 : Int} (hM : mX12_isBox S0 a1 a2 a3 = some o1) : gI l yX12_isBox cX12_isBox 4 (some .boolean) 2 0 0 D cy b n (enc b cy X S0) [.ref (b + 80), .int (iI a1), .int (iI a2), .int (iI a3)] (fun r u => r = iI o1 ∧ u = (n, enc b cy X S0)) := by
  refine gI_of (by decide) (Nat.le_of_ble_eq_true rfl) ?_
  intro p e s m args below meth c S hr hlk hin hsz ls hl hG
  have hx := S.1
  have hb := S.2.1
  have hl : lv_has ls 4 [(0, .ref (b + 80)), (1, .int (iI a1)), (2, .int (iI a2)), (3, .int (iI a3))] := hl
  replace hG : gW D cy b n s s.heap [] (enc b cy X S0) := hG
  obtain ⟨H, eH⟩ : ∃ H, H = s.heap := ⟨_, rfl⟩
  obtain ⟨locs, elocs⟩ : ∃ locs : List Loc, locs = [] := ⟨_, rfl⟩
  rw [← eH, ← elocs] at hG
  rw [← eH, ← elocs]
  clear eH elocs
  unfold mX12_isBox at hM
  refine lv_aload_n hx hb dX12_isBox_0 rfl (lv_at hl 0 rfl) ?_
  refine lv_iload_n hx hb dX12_isBox_1 rfl (lv_at hl 1 rfl) ?_
  obtain ⟨r_2, hc_1, hM⟩ := bd1_some hM
  refine g_vi (As := [.int (iI a1)]) (rest := []) S hG hsz (vX12_isKind l hn a1 hc_1) wV_12_225 (ec_83 _) cpX12 (Nat.lt_of_lt_of_le (Nat.le_of_ble_eq_true rfl) hn) dX12_isBox_2 rfl hl.1 (ar := 1) (by decide +kernel) rfl ⟨Nat.le_of_ble_eq_true rfl, Nat.le_of_ble_eq_true rfl, Nat.le_of_ble_eq_true rfl, Nat.le_of_ble_eq_true rfl⟩ (Nat.le_of_ble_eq_true rfl) (fun rv uu H locs hp hG => ?_)
  obtain ⟨rfl, rfl⟩ := hp
  replace hG : gW D cy b n s H locs (enc b cy X S0) := hG
  obtain ⟨hg_3, hM⟩ := gd_some hM
  refine gi_if_eq (tgt := 33) hx hb dX12_isBox_5 (by decide) hg_3 (fun c_4 => ?_) (fun c_4 => ?_)
  · replace hM := ifp hM c_4
    refine lv_iconst (v := iI 0) hx hb dX12_isBox_33 (by decide) ?_
    cases hM
    exact g_zret S hr hlk hG hsz dX12_isBox_34 ⟨Nat.le_of_ble_eq_true rfl, Nat.le_of_ble_eq_true rfl⟩ (nar_z (by decide)) ⟨rfl, rfl⟩
  · replace hM := ifn hM c_4
    refine lv_aload_n hx hb dX12_isBox_8 rfl (lv_at hl 0 rfl) ?_
    refine lv_iload_n hx hb dX12_isBox_9 rfl (lv_at hl 2 rfl) ?_
    obtain ⟨r_6, hc_5, hM⟩ := bd1_some hM
    refine g_vi (As := [.int (iI a2)]) (rest := []) S hG hsz (vX12_isSize l hn a2 hc_5) wV_12_334 (ec_83 _) cpX12 (Nat.lt_of_lt_of_le (Nat.le_of_ble_eq_true rfl) hn) dX12_isBox_10 rfl hl.1 (ar := 1) (by decide +kernel) rfl ⟨Nat.le_of_ble_eq_true rfl, Nat.le_of_ble_eq_true rfl, Nat.le_of_ble_eq_true rfl, Nat.le_of_ble_eq_true rfl⟩ (Nat.le_of_ble_eq_true rfl) (fun rv uu H locs hp hG => ?_)
    obtain ⟨rfl, rfl⟩ := hp
    replace hG : gW D cy b n s H locs (enc b cy X S0) := hG
    obtain ⟨hg_7, hM⟩ := gd_some hM
    refine gi_if_eq (tgt := 33) hx hb dX12_isBox_13 (by decide) hg_7 (fun c_8 => ?_) (fun c_8 => ?_)
    · replace hM := ifp hM c_8
      refine lv_iconst (v := iI 0) hx hb dX12_isBox_33 (by decide) ?_
      cases hM
      exact g_zret S hr hlk hG hsz dX12_isBox_34 ⟨Nat.le_of_ble_eq_true rfl, Nat.le_of_ble_eq_true rfl⟩ (nar_z (by decide)) ⟨rfl, rfl⟩
    · replace hM := ifn hM c_8
      refine lv_aload_n hx hb dX12_isBox_16 rfl (lv_at hl 0 rfl) ?_
      refine lv_iload_n hx hb dX12_isBox_17 rfl (lv_at hl 3 rfl) ?_
      obtain ⟨r_10, hc_9, hM⟩ := bd1_some hM
      refine g_vi (As := [.int (iI a3)]) (rest := []) S hG hsz (vX12_isSize l hn a3 hc_9) wV_12_334 (ec_83 _) cpX12 (Nat.lt_of_lt_of_le (Nat.le_of_ble_eq_true rfl) hn) dX12_isBox_18 rfl hl.1 (ar := 1) (by decide +kernel) rfl ⟨Nat.le_of_ble_eq_true rfl, Nat.le_of_ble_eq_true rfl, Nat.le_of_ble_eq_true rfl, Nat.le_of_ble_eq_true rfl⟩ (Nat.le_of_ble_eq_true rfl) (fun rv uu H locs hp hG => ?_)
      obtain ⟨rfl, rfl⟩ := hp
      replace hG : gW D cy b n s H locs (enc b cy X S0) := hG
      obtain ⟨hg_11, hM⟩ := gd_some hM
      refine gi_if_eq (tgt := 33) hx hb dX12_isBox_21 (by decide) hg_11 (fun c_12 => ?_) (fun c_12 => ?_)
      · replace hM := ifp hM c_12
        refine lv_iconst (v := iI 0) hx hb dX12_isBox_33 (by decide) ?_
        cases hM
        exact g_zret S hr hlk hG hsz dX12_isBox_34 ⟨Nat.le_of_ble_eq_true rfl, Nat.le_of_ble_eq_true rfl⟩ (nar_z (by decide)) ⟨rfl, rfl⟩
      · replace hM := ifn hM c_12
        refine lv_iload_n hx hb dX12_isBox_24 rfl (lv_at hl 2 rfl) ?_
        refine lv_iload_n hx hb dX12_isBox_25 rfl (lv_at hl 3 rfl) ?_
        obtain ⟨hg_13, hM⟩ := gd_some hM
        refine gi_icmp_gt (tgt := 33) hx hb dX12_isBox_26 (by decide) hg_13.1 hg_13.2 (fun c_14 => ?_) (fun c_14 => ?_)
        · replace hM := ifp hM c_14
          refine lv_iconst (v := iI 0) hx hb dX12_isBox_33 (by decide) ?_
          cases hM
          exact g_zret S hr hlk hG hsz dX12_isBox_34 ⟨Nat.le_of_ble_eq_true rfl, Nat.le_of_ble_eq_true rfl⟩ (nar_z (by decide)) ⟨rfl, rfl⟩
        · replace hM := ifn hM c_14
          refine lv_iconst (v := iI 1) hx hb dX12_isBox_29 (by decide) ?_
          refine lv_goto (tgt := 34) hx hb dX12_isBox_30 (by decide) ?_
          cases hM
          exact g_zret S hr hlk hG hsz dX12_isBox_34 ⟨Nat.le_of_ble_eq_true rfl, Nat.le_of_ble_eq_true rfl⟩ (nar_z (by decide)) ⟨rfl, rfl⟩
theorem wS_12_286 : gWS "GrownKindsModel" 286 yX12_mul cX12_mul 6 (some .long) := ⟨wm_2047, wm_2048, wm_188, wm_2049, by decide +kernel, by decide +kernel⟩
def mX12_laysRows_88 (S_28 : St) (v_38 : Int) (v_27 : Int) (v_17 : Int) (v_7 : Int) (a1 : Int) (a2 : Int) (a3 : Int) : Nat → Int → Int → Option (Int)
  | 0, _, _ => none
  | f + 1, v_52, v_53 => gd ((inI v_52) ∧ (inI (min v_38 v_27))) <| if (min v_38 v_27) < v_52 then (some (v_53)) else (bd1 (mX12_place a1 v_38 v_52) fun r_63 => gd (0 ≤ r_63 ∧ r_63 < 1920) <| bd1 (mX12_place (v_7 - 1) (v_17 - v_38) (v_27 - v_52)) fun r_66 => gd (0 ≤ r_66 ∧ r_66 < 512) <| bd1 (mX12_mul (S_28 90 r_63) (S_28 92 r_66) 100000000000000000) fun r_69 => bd1 (mX12_add v_53 r_69 100000000000000000) fun r_71 => mX12_laysRows_88 S_28 v_38 v_27 v_17 v_7 a1 a2 a3 f (v_52 + 1) r_71)
def mX12_laysRows_73 (S_28 : St) (v_27 : Int) (v_17 : Int) (v_7 : Int) (a1 : Int) (a2 : Int) (a3 : Int) : Nat → Int → Int → Option (Int)
  | 0, _, _ => none
  | f + 1, v_38, v_39 => gd ((inI v_38) ∧ (inI ((v_17 - v_7) + 1))) <| if ((v_17 - v_7) + 1) < v_38 then (some (v_39)) else (bd1 (mX12_laysRows_88 S_28 v_38 v_27 v_17 v_7 a1 a2 a3 FU 0 v_39) fun y_54 => mX12_laysRows_73 S_28 v_27 v_17 v_7 a1 a2 a3 f (v_38 + 1) y_54)
def mX12_laysRows_56 (v_17 : Int) (v_7 : Int) (a1 : Int) (a2 : Int) (a3 : Int) : Nat → Int → St → Option (St)
  | 0, _, _ => none
  | f + 1, v_27, S_28 => gd (inI a3) <| gd ((inI v_27) ∧ (inI (min v_17 a3))) <| if (min v_17 a3) < v_27 then (some (S_28)) else (bd1 (mX12_laysRows_73 S_28 v_27 v_17 v_7 a1 a2 a3 FU 1 0) fun y_40 => bd1 (mX12_place v_7 v_17 v_27) fun r_44 => gd (0 ≤ r_44 ∧ r_44 < 512) <| nx (up S_28 92 r_44 y_40) fun S_46 => mX12_laysRows_56 v_17 v_7 a1 a2 a3 f (v_27 + 1) S_46)
def mX12_laysRows_47 (v_7 : Int) (a1 : Int) (a2 : Int) (a3 : Int) : Nat → Int → St → Option (St)
  | 0, _, _ => none
  | f + 1, v_17, S_18 => gd (inI v_17) <| if a2 < v_17 then (some (S_18)) else (bd1 (mX12_laysRows_56 v_17 v_7 a1 a2 a3 FU 0 S_18) fun S_29 => mX12_laysRows_47 v_7 a1 a2 a3 f (v_17 + 1) S_29)
def mX12_laysRows_37 (a1 : Int) (a2 : Int) (a3 : Int) : Nat → Int → St → Option (St)
  | 0, _, _ => none
  | f + 1, v_7, S_8 => gd ((inI v_7) ∧ (inI a2)) <| if a2 < v_7 then (some (S_8)) else (bd1 (mX12_laysRows_47 v_7 a1 a2 a3 FU v_7 S_8) fun S_19 => mX12_laysRows_37 a1 a2 a3 f (v_7 + 1) S_19)
def mX12_laysRows_3 (a1 : Int) (a2 : Int) (a3 : Int) : Nat → Int → St → Option (St)
  | 0, _, _ => none
  | f + 1, v_1, S_2 => gd (inI v_1) <| if 512 ≤ v_1 then (some (S_2)) else (gd (0 ≤ v_1 ∧ v_1 < 512) <| nx (up S_2 92 v_1 0) fun S_78 => mX12_laysRows_3 a1 a2 a3 f (v_1 + 1) S_78)
def mX12_laysRows (S0 : St) (a1 : Int) (a2 : Int) (a3 : Int) : Option (St) := bd1 (mX12_laysRows_3 a1 a2 a3 FU 0 S0) fun S_3 => nx (up S_3 92 0 1) fun S_6 => bd1 (mX12_laysRows_37 a1 a2 a3 FU 1 S_6) fun S_9 => some (S_9)
set_option maxHeartbeats 4000000 in
set_option maxRecDepth 100000 in
theorem vX12_laysRows (l : Launch) {D : va_G} {cy : Nat → ClassId} {b n : Nat} (hn : 102 ≤ n) {X : Nat → va_E} {S0 : St} (a1 : Int) (a2 : Int) (a3 : Int) {o1 : St} (hM : mX12_laysRows S0 a1 a2 a3 = some o1) : gV l yX12_laysRows cX12_laysRows 11 2 0 0 D cy b n (enc b cy X S0) [.ref (b + 80), .int (iI a1), .int (iI a2), .int (iI a3)] (fun u => u = (n, enc b cy X o1)) := by
  refine gV_of (by decide) (Nat.le_of_ble_eq_true rfl) ?_
  intro p e s m args below meth c S hr hlk hin hsz ls hl hG
  have hx := S.1
  have hb := S.2.1
  have hl : lv_has ls 11 [(0, .ref (b + 80)), (1, .int (iI a1)), (2, .int (iI a2)), (3, .int (iI a3))] := hl
  replace hG : gW D cy b n s s.heap [] (enc b cy X S0) := hG
  obtain ⟨H, eH⟩ : ∃ H, H = s.heap := ⟨_, rfl⟩
  obtain ⟨locs, elocs⟩ : ∃ locs : List Loc, locs = [] := ⟨_, rfl⟩
  rw [← eH, ← elocs] at hG
  rw [← eH, ← elocs]
  clear eH elocs
  unfold mX12_laysRows at hM
  refine lv_iconst (v := iI 0) hx hb dX12_laysRows_0 (by decide) ?_
  refine lv_istore (lv' := [(4, .int (iI 0)), (0, .ref (b + 80)), (1, .int (iI a1)), (2, .int (iI a2)), (3, .int (iI a3))]) hx hb dX12_laysRows_1 hl (by decide) rfl (fun ls hl => ?_)
  obtain ⟨S_3, hc_4, hM⟩ := bd1_some hM
  have hK_5 : ∀ (H : Heap) (locs : List Loc) (ls : Array Slot), gW D cy b n s H locs (enc b cy X S_3) → lv_has ls 11 [(0, .ref (b + 80)), (1, .int (iI a1)), (2, .int (iI a2)), (3, .int (iI a3))] → W p l e (gRm 2 0 0) s m args below meth c H locs 0 0 (gQV D cy b s args below 0 0 (fun u => u = (n, enc b cy X o1))) (F0 m 27 ls []) := by
    intro H locs ls hG hl
    refine lv_aload_n hx hb dX12_laysRows_27 rfl (lv_at hl 0 rfl) ?_
    refine m_get S hG 80 83 16 rfl ec_83 cpX12 wm_1689 dX12_laysRows_28 rfl (Nat.lt_of_lt_of_le (Nat.le_of_ble_eq_true rfl) hn) (by decide) ?_
    refine lv_iconst (v := iI 0) hx hb dX12_laysRows_31 (by decide) ?_
    refine lv_lconst (v := jJ 1) hx hb dX12_laysRows_32 (by decide) ?_
    refine mj_ast S hG 89 92 rfl ec_92 (Nat.lt_of_lt_of_le (Nat.le_of_ble_eq_true rfl) hn) dX12_laysRows_33 (by decide) (by decide) (fun H locs S_6 eS_6 hG => ?_)
    replace hM := nx_at hM eS_6
    clear eS_6
    refine lv_iconst (v := iI 1) hx hb dX12_laysRows_34 (by decide) ?_
    refine lv_istore (lv' := [(4, .int (iI 1)), (0, .ref (b + 80)), (1, .int (iI a1)), (2, .int (iI a2)), (3, .int (iI a3))]) hx hb dX12_laysRows_35 hl (by decide) rfl (fun ls hl => ?_)
    obtain ⟨S_9, hc_10, hM⟩ := bd1_some hM
    have hK_11 : ∀ (H : Heap) (locs : List Loc) (ls : Array Slot), gW D cy b n s H locs (enc b cy X S_9) → lv_has ls 11 [] → W p l e (gRm 2 0 0) s m args below meth c H locs 0 0 (gQV D cy b s args below 0 0 (fun u => u = (n, enc b cy X o1))) (F0 m 197 ls []) := by
      intro H locs ls hG hl
      cases hM
      exact g_vret S hr hlk hG hsz dX12_laysRows_197 ⟨Nat.le_of_ble_eq_true rfl, Nat.le_of_ble_eq_true rfl⟩ rfl
    have loop_12 : ∀ (f : Nat) (v_7 : Int) (S_8 : St) (H : Heap) (locs : List Loc) (ls : Array Slot), mX12_laysRows_37 a1 a2 a3 f v_7 S_8 = some S_9 → gW D cy b n s H locs (enc b cy X S_8) → lv_has ls 11 [(4, .int (iI v_7)), (0, .ref (b + 80)), (1, .int (iI a1)), (2, .int (iI a2)), (3, .int (iI a3))] → W p l e (gRm 2 0 0) s m args below meth c H locs 0 0 (gQV D cy b s args below 0 0 (fun u => u = (n, enc b cy X o1))) (F0 m 37 ls []) := by
      clear hM
      intro f
      induction f with
      | zero => intro v_7 S_8 H locs ls hM; rw [mX12_laysRows_37] at hM; cases hM
      | succ f_14 ih_13 =>
        intro v_7 S_8 H locs ls hM hG hl
        rw [mX12_laysRows_37] at hM
        refine lv_iload hx hb dX12_laysRows_37 (lv_at hl 0 rfl) ?_
        refine lv_iload_n hx hb dX12_laysRows_39 rfl (lv_at hl 3 rfl) ?_
        obtain ⟨hg_15, hM⟩ := gd_some hM
        refine gi_icmp_gt (tgt := 197) hx hb dX12_laysRows_40 (by decide) hg_15.1 hg_15.2 (fun c_16 => ?_) (fun c_16 => ?_)
        · replace hM := ifp hM c_16
          cases hM
          exact hK_11 H locs ls hG (lv_sub hl [] rfl)
        · replace hM := ifn hM c_16
          refine lv_iload hx hb dX12_laysRows_43 (lv_at hl 0 rfl) ?_
          refine lv_istore (lv' := [(5, .int (iI v_7)), (4, .int (iI v_7)), (0, .ref (b + 80)), (1, .int (iI a1)), (2, .int (iI a2)), (3, .int (iI a3))]) hx hb dX12_laysRows_45 hl (by decide) rfl (fun ls hl => ?_)
          obtain ⟨S_19, hc_20, hM⟩ := bd1_some hM
          have hK_21 : ∀ (H : Heap) (locs : List Loc) (ls : Array Slot), gW D cy b n s H locs (enc b cy X S_19) → lv_has ls 11 [(4, .int (iI v_7)), (0, .ref (b + 80)), (1, .int (iI a1)), (2, .int (iI a2)), (3, .int (iI a3))] → W p l e (gRm 2 0 0) s m args below meth c H locs 0 0 (gQV D cy b s args below 0 0 (fun u => u = (n, enc b cy X o1))) (F0 m 191 ls []) := by
            intro H locs ls hG hl
            refine lv_iinc (v := iI (v_7 + 1)) (lv' := [(4, .int (iI (v_7 + 1))), (0, .ref (b + 80)), (1, .int (iI a1)), (2, .int (iI a2)), (3, .int (iI a3))]) hx hb dX12_laysRows_191 hl (k := 0) rfl ((iI_add v_7 (1)).trans (congrArg iI (by omega))) (by decide) rfl (fun ls hl => ?_)
            refine lv_goto (tgt := 37) hx hb dX12_laysRows_194 (by decide) ?_
            exact ih_13 (v_7 + 1) S_19 H locs ls hM hG (lv_sub hl [0, 1, 2, 3, 4] rfl)
          have loop_22 : ∀ (f : Nat) (v_17 : Int) (S_18 : St) (H : Heap) (locs : List Loc) (ls : Array Slot), mX12_laysRows_47 v_7 a1 a2 a3 f v_17 S_18 = some S_19 → gW D cy b n s H locs (enc b cy X S_18) → lv_has ls 11 [(5, .int (iI v_17)), (4, .int (iI v_7)), (0, .ref (b + 80)), (1, .int (iI a1)), (2, .int (iI a2)), (3, .int (iI a3))] → W p l e (gRm 2 0 0) s m args below meth c H locs 0 0 (gQV D cy b s args below 0 0 (fun u => u = (n, enc b cy X o1))) (F0 m 47 ls []) := by
            clear hM
            intro f
            induction f with
            | zero => intro v_17 S_18 H locs ls hM; rw [mX12_laysRows_47] at hM; cases hM
            | succ f_24 ih_23 =>
              intro v_17 S_18 H locs ls hM hG hl
              rw [mX12_laysRows_47] at hM
              refine lv_iload hx hb dX12_laysRows_47 (lv_at hl 0 rfl) ?_
              refine lv_iload_n hx hb dX12_laysRows_49 rfl (lv_at hl 4 rfl) ?_
              obtain ⟨hg_25, hM⟩ := gd_some hM
              refine gi_icmp_gt (tgt := 191) hx hb dX12_laysRows_50 (by decide) hg_25 hg_15.2 (fun c_26 => ?_) (fun c_26 => ?_)
              · replace hM := ifp hM c_26
                cases hM
                exact hK_21 H locs ls hG (lv_sub hl [1, 2, 3, 4, 5] rfl)
              · replace hM := ifn hM c_26
                refine lv_iconst (v := iI 0) hx hb dX12_laysRows_53 (by decide) ?_
                refine lv_istore (lv' := [(6, .int (iI 0)), (5, .int (iI v_17)), (4, .int (iI v_7)), (0, .ref (b + 80)), (1, .int (iI a1)), (2, .int (iI a2)), (3, .int (iI a3))]) hx hb dX12_laysRows_54 hl (by decide) rfl (fun ls hl => ?_)
                obtain ⟨S_29, hc_30, hM⟩ := bd1_some hM
                have hK_31 : ∀ (H : Heap) (locs : List Loc) (ls : Array Slot), gW D cy b n s H locs (enc b cy X S_29) → lv_has ls 11 [(5, .int (iI v_17)), (4, .int (iI v_7)), (0, .ref (b + 80)), (1, .int (iI a1)), (2, .int (iI a2)), (3, .int (iI a3))] → W p l e (gRm 2 0 0) s m args below meth c H locs 0 0 (gQV D cy b s args below 0 0 (fun u => u = (n, enc b cy X o1))) (F0 m 185 ls []) := by
                  intro H locs ls hG hl
                  refine lv_iinc (v := iI (v_17 + 1)) (lv' := [(5, .int (iI (v_17 + 1))), (4, .int (iI v_7)), (0, .ref (b + 80)), (1, .int (iI a1)), (2, .int (iI a2)), (3, .int (iI a3))]) hx hb dX12_laysRows_185 hl (k := 0) rfl ((iI_add v_17 (1)).trans (congrArg iI (by omega))) (by decide) rfl (fun ls hl => ?_)
                  refine lv_goto (tgt := 47) hx hb dX12_laysRows_188 (by decide) ?_
                  exact ih_23 (v_17 + 1) S_29 H locs ls hM hG (lv_sub hl [0, 1, 2, 3, 4, 5] rfl)
                have loop_32 : ∀ (f : Nat) (v_27 : Int) (S_28 : St) (H : Heap) (locs : List Loc) (ls : Array Slot), mX12_laysRows_56 v_17 v_7 a1 a2 a3 f v_27 S_28 = some S_29 → gW D cy b n s H locs (enc b cy X S_28) → lv_has ls 11 [(6, .int (iI v_27)), (5, .int (iI v_17)), (4, .int (iI v_7)), (0, .ref (b + 80)), (1, .int (iI a1)), (2, .int (iI a2)), (3, .int (iI a3))] → W p l e (gRm 2 0 0) s m args below meth c H locs 0 0 (gQV D cy b s args below 0 0 (fun u => u = (n, enc b cy X o1))) (F0 m 56 ls []) := by
                  clear hM
                  intro f
                  induction f with
                  | zero => intro v_27 S_28 H locs ls hM; rw [mX12_laysRows_56] at hM; cases hM
                  | succ f_34 ih_33 =>
                    intro v_27 S_28 H locs ls hM hG hl
                    rw [mX12_laysRows_56] at hM
                    refine lv_iload hx hb dX12_laysRows_56 (lv_at hl 0 rfl) ?_
                    refine lv_iload hx hb dX12_laysRows_58 (lv_at hl 1 rfl) ?_
                    refine lv_iload_n hx hb dX12_laysRows_60 rfl (lv_at hl 6 rfl) ?_
                    obtain ⟨hg_35, hM⟩ := gd_some hM
                    refine gi_min S wm_1854 wm_761 wm_190 wm_762 hl.1 dX12_laysRows_61 ⟨Nat.le_of_ble_eq_true rfl, Nat.le_of_ble_eq_true rfl, Nat.le_of_ble_eq_true rfl, Nat.le_of_ble_eq_true rfl⟩ hg_25 hg_35 ?_
                    obtain ⟨hg_36, hM⟩ := gd_some hM
                    refine gi_icmp_gt (tgt := 185) hx hb dX12_laysRows_64 (by decide) hg_36.1 hg_36.2 (fun c_37 => ?_) (fun c_37 => ?_)
                    · replace hM := ifp hM c_37
                      cases hM
                      exact hK_31 H locs ls hG (lv_sub hl [1, 2, 3, 4, 5, 6] rfl)
                    · replace hM := ifn hM c_37
                      refine lv_lconst (v := jJ 0) hx hb dX12_laysRows_67 (by decide) ?_
                      refine lv_lstore (lv' := [(7, .long (jJ 0)), (6, .int (iI v_27)), (5, .int (iI v_17)), (4, .int (iI v_7)), (0, .ref (b + 80)), (1, .int (iI a1)), (2, .int (iI a2)), (3, .int (iI a3))]) hx hb dX12_laysRows_68 hl (by decide) rfl (fun ls hl => ?_)
                      refine lv_iconst (v := iI 1) hx hb dX12_laysRows_70 (by decide) ?_
                      refine lv_istore (lv' := [(9, .int (iI 1)), (7, .long (jJ 0)), (6, .int (iI v_27)), (5, .int (iI v_17)), (4, .int (iI v_7)), (0, .ref (b + 80)), (1, .int (iI a1)), (2, .int (iI a2)), (3, .int (iI a3))]) hx hb dX12_laysRows_71 hl (by decide) rfl (fun ls hl => ?_)
                      obtain ⟨y_40, hc_41, hM⟩ := bd1_some hM
                      have hK_42 : ∀ (H : Heap) (locs : List Loc) (ls : Array Slot), gW D cy b n s H locs (enc b cy X S_28) → lv_has ls 11 [(6, .int (iI v_27)), (5, .int (iI v_17)), (4, .int (iI v_7)), (0, .ref (b + 80)), (1, .int (iI a1)), (2, .int (iI a2)), (3, .int (iI a3)), (7, .long (jJ y_40))] → W p l e (gRm 2 0 0) s m args below meth c H locs 0 0 (gQV D cy b s args below 0 0 (fun u => u = (n, enc b cy X o1))) (F0 m 163 ls []) := by
                        intro H locs ls hG hl
                        refine lv_aload_n hx hb dX12_laysRows_163 rfl (lv_at hl 3 rfl) ?_
                        refine m_get S hG 80 83 16 rfl ec_83 cpX12 wm_1689 dX12_laysRows_164 rfl (Nat.lt_of_lt_of_le (Nat.le_of_ble_eq_true rfl) hn) (by decide) ?_
                        refine lv_iload hx hb dX12_laysRows_167 (lv_at hl 2 rfl) ?_
                        refine lv_iload hx hb dX12_laysRows_169 (lv_at hl 1 rfl) ?_
                        refine lv_iload hx hb dX12_laysRows_171 (lv_at hl 0 rfl) ?_
                        obtain ⟨r_44, hc_43, hM⟩ := bd1_some hM
                        refine g_si (As := [.int (iI v_7), .int (iI v_17), .int (iI v_27)]) (rest := [.ref (b + 89)]) S hG hsz (vX12_place l hn v_7 v_17 v_27 hc_43) wS_12_276 dX12_laysRows_173 rfl hl.1 (ar := 3) (by decide +kernel) rfl ⟨Nat.le_of_ble_eq_true rfl, Nat.le_of_ble_eq_true rfl, Nat.le_of_ble_eq_true rfl, Nat.le_of_ble_eq_true rfl⟩ (Nat.le_of_ble_eq_true rfl) (fun rv uu H locs hp hG => ?_)
                        obtain ⟨rfl, rfl⟩ := hp
                        replace hG : gW D cy b n s H locs (enc b cy X S_28) := hG
                        refine lv_lload hx hb dX12_laysRows_176 (lv_at hl 7 rfl) ?_
                        obtain ⟨hg_45, hM⟩ := gd_some hM
                        refine mj_ast S hG 89 92 rfl ec_92 (Nat.lt_of_lt_of_le (Nat.le_of_ble_eq_true rfl) hn) dX12_laysRows_178 hg_45 (by decide) (fun H locs S_46 eS_46 hG => ?_)
                        replace hM := nx_at hM eS_46
                        clear eS_46
                        refine lv_iinc (v := iI (v_27 + 1)) (lv' := [(6, .int (iI (v_27 + 1))), (5, .int (iI v_17)), (4, .int (iI v_7)), (0, .ref (b + 80)), (1, .int (iI a1)), (2, .int (iI a2)), (3, .int (iI a3)), (7, .long (jJ y_40))]) hx hb dX12_laysRows_179 hl (k := 0) rfl ((iI_add v_27 (1)).trans (congrArg iI (by omega))) (by decide) rfl (fun ls hl => ?_)
                        refine lv_goto (tgt := 56) hx hb dX12_laysRows_182 (by decide) ?_
                        exact ih_33 (v_27 + 1) S_46 H locs ls hM hG (lv_sub hl [0, 1, 2, 3, 4, 5, 6] rfl)
                      have loop_47 : ∀ (f : Nat) (v_38 : Int) (v_39 : Int) (H : Heap) (locs : List Loc) (ls : Array Slot), mX12_laysRows_73 S_28 v_27 v_17 v_7 a1 a2 a3 f v_38 v_39 = some y_40 → gW D cy b n s H locs (enc b cy X S_28) → lv_has ls 11 [(9, .int (iI v_38)), (7, .long (jJ v_39)), (6, .int (iI v_27)), (5, .int (iI v_17)), (4, .int (iI v_7)), (0, .ref (b + 80)), (1, .int (iI a1)), (2, .int (iI a2)), (3, .int (iI a3))] → W p l e (gRm 2 0 0) s m args below meth c H locs 0 0 (gQV D cy b s args below 0 0 (fun u => u = (n, enc b cy X o1))) (F0 m 73 ls []) := by
                        clear hM
                        intro f
                        induction f with
                        | zero => intro v_38 v_39 H locs ls hM; rw [mX12_laysRows_73] at hM; cases hM
                        | succ f_49 ih_48 =>
                          intro v_38 v_39 H locs ls hM hG hl
                          rw [mX12_laysRows_73] at hM
                          refine lv_iload hx hb dX12_laysRows_73 (lv_at hl 0 rfl) ?_
                          refine lv_iload hx hb dX12_laysRows_75 (lv_at hl 3 rfl) ?_
                          refine lv_iload hx hb dX12_laysRows_77 (lv_at hl 4 rfl) ?_
                          refine gi_sub hx hb dX12_laysRows_79 ?_
                          refine lv_iconst (v := iI 1) hx hb dX12_laysRows_80 (by decide) ?_
                          refine gi_add hx hb dX12_laysRows_81 ?_
                          obtain ⟨hg_50, hM⟩ := gd_some hM
                          refine gi_icmp_gt (tgt := 163) hx hb dX12_laysRows_82 (by decide) hg_50.1 hg_50.2 (fun c_51 => ?_) (fun c_51 => ?_)
                          · replace hM := ifp hM c_51
                            cases hM
                            exact hK_42 H locs ls hG (lv_sub hl [2, 3, 4, 5, 6, 7, 8, 1] rfl)
                          · replace hM := ifn hM c_51
                            refine lv_iconst (v := iI 0) hx hb dX12_laysRows_85 (by decide) ?_
                            refine lv_istore (lv' := [(10, .int (iI 0)), (9, .int (iI v_38)), (7, .long (jJ v_39)), (6, .int (iI v_27)), (5, .int (iI v_17)), (4, .int (iI v_7)), (0, .ref (b + 80)), (1, .int (iI a1)), (2, .int (iI a2)), (3, .int (iI a3))]) hx hb dX12_laysRows_86 hl (by decide) rfl (fun ls hl => ?_)
                            obtain ⟨y_54, hc_55, hM⟩ := bd1_some hM
                            have hK_56 : ∀ (H : Heap) (locs : List Loc) (ls : Array Slot), gW D cy b n s H locs (enc b cy X S_28) → lv_has ls 11 [(9, .int (iI v_38)), (6, .int (iI v_27)), (5, .int (iI v_17)), (4, .int (iI v_7)), (0, .ref (b + 80)), (1, .int (iI a1)), (2, .int (iI a2)), (3, .int (iI a3)), (7, .long (jJ y_54))] → W p l e (gRm 2 0 0) s m args below meth c H locs 0 0 (gQV D cy b s args below 0 0 (fun u => u = (n, enc b cy X o1))) (F0 m 157 ls []) := by
                              intro H locs ls hG hl
                              refine lv_iinc (v := iI (v_38 + 1)) (lv' := [(9, .int (iI (v_38 + 1))), (6, .int (iI v_27)), (5, .int (iI v_17)), (4, .int (iI v_7)), (0, .ref (b + 80)), (1, .int (iI a1)), (2, .int (iI a2)), (3, .int (iI a3)), (7, .long (jJ y_54))]) hx hb dX12_laysRows_157 hl (k := 0) rfl ((iI_add v_38 (1)).trans (congrArg iI (by omega))) (by decide) rfl (fun ls hl => ?_)
                              refine lv_goto (tgt := 73) hx hb dX12_laysRows_160 (by decide) ?_
                              exact ih_48 (v_38 + 1) y_54 H locs ls hM hG (lv_sub hl [0, 8, 1, 2, 3, 4, 5, 6, 7] rfl)
                            have loop_57 : ∀ (f : Nat) (v_52 : Int) (v_53 : Int) (H : Heap) (locs : List Loc) (ls : Array Slot), mX12_laysRows_88 S_28 v_38 v_27 v_17 v_7 a1 a2 a3 f v_52 v_53 = some y_54 → gW D cy b n s H locs (enc b cy X S_28) → lv_has ls 11 [(10, .int (iI v_52)), (9, .int (iI v_38)), (7, .long (jJ v_53)), (6, .int (iI v_27)), (5, .int (iI v_17)), (4, .int (iI v_7)), (0, .ref (b + 80)), (1, .int (iI a1)), (2, .int (iI a2)), (3, .int (iI a3))] → W p l e (gRm 2 0 0) s m args below meth c H locs 0 0 (gQV D cy b s args below 0 0 (fun u => u = (n, enc b cy X o1))) (F0 m 88 ls []) := by
                              clear hM
                              intro f
                              induction f with
                              | zero => intro v_52 v_53 H locs ls hM; rw [mX12_laysRows_88] at hM; cases hM
                              | succ f_59 ih_58 =>
                                intro v_52 v_53 H locs ls hM hG hl
                                rw [mX12_laysRows_88] at hM
                                refine lv_iload hx hb dX12_laysRows_88 (lv_at hl 0 rfl) ?_
                                refine lv_iload hx hb dX12_laysRows_90 (lv_at hl 1 rfl) ?_
                                refine lv_iload hx hb dX12_laysRows_92 (lv_at hl 3 rfl) ?_
                                refine gi_min S wm_1854 wm_761 wm_190 wm_762 hl.1 dX12_laysRows_94 ⟨Nat.le_of_ble_eq_true rfl, Nat.le_of_ble_eq_true rfl, Nat.le_of_ble_eq_true rfl, Nat.le_of_ble_eq_true rfl⟩ hg_50.1 hg_36.1 ?_
                                obtain ⟨hg_60, hM⟩ := gd_some hM
                                refine gi_icmp_gt (tgt := 157) hx hb dX12_laysRows_97 (by decide) hg_60.1 hg_60.2 (fun c_61 => ?_) (fun c_61 => ?_)
                                · replace hM := ifp hM c_61
                                  cases hM
                                  exact hK_56 H locs ls hG (lv_sub hl [1, 3, 4, 5, 6, 7, 8, 9, 2] rfl)
                                · replace hM := ifn hM c_61
                                  refine lv_lload hx hb dX12_laysRows_100 (lv_at hl 2 rfl) ?_
                                  refine lv_aload_n hx hb dX12_laysRows_102 rfl (lv_at hl 6 rfl) ?_
                                  refine m_get S hG 80 83 14 rfl ec_83 cpX12 wm_1687 dX12_laysRows_103 rfl (Nat.lt_of_lt_of_le (Nat.le_of_ble_eq_true rfl) hn) (by decide) ?_
                                  refine lv_iload_n hx hb dX12_laysRows_106 rfl (lv_at hl 7 rfl) ?_
                                  refine lv_iload hx hb dX12_laysRows_107 (lv_at hl 1 rfl) ?_
                                  refine lv_iload hx hb dX12_laysRows_109 (lv_at hl 0 rfl) ?_
                                  obtain ⟨r_63, hc_62, hM⟩ := bd1_some hM
                                  refine g_si (As := [.int (iI a1), .int (iI v_38), .int (iI v_52)]) (rest := [.ref (b + 87), .long (jJ v_53)]) S hG hsz (vX12_place l hn a1 v_38 v_52 hc_62) wS_12_276 dX12_laysRows_111 rfl hl.1 (ar := 3) (by decide +kernel) rfl ⟨Nat.le_of_ble_eq_true rfl, Nat.le_of_ble_eq_true rfl, Nat.le_of_ble_eq_true rfl, Nat.le_of_ble_eq_true rfl⟩ (Nat.le_of_ble_eq_true rfl) (fun rv uu H locs hp hG => ?_)
                                  obtain ⟨rfl, rfl⟩ := hp
                                  replace hG : gW D cy b n s H locs (enc b cy X S_28) := hG
                                  obtain ⟨hg_64, hM⟩ := gd_some hM
                                  refine mj_ald S hG 87 90 rfl ec_90 (Nat.lt_of_lt_of_le (Nat.le_of_ble_eq_true rfl) hn) dX12_laysRows_114 hg_64 (by decide) ?_
                                  refine lv_aload_n hx hb dX12_laysRows_115 rfl (lv_at hl 6 rfl) ?_
                                  refine m_get S hG 80 83 16 rfl ec_83 cpX12 wm_1689 dX12_laysRows_116 rfl (Nat.lt_of_lt_of_le (Nat.le_of_ble_eq_true rfl) hn) (by decide) ?_
                                  refine lv_iload hx hb dX12_laysRows_119 (lv_at hl 5 rfl) ?_
                                  refine lv_iconst (v := iI 1) hx hb dX12_laysRows_121 (by decide) ?_
                                  refine gi_sub hx hb dX12_laysRows_122 ?_
                                  refine lv_iload hx hb dX12_laysRows_123 (lv_at hl 4 rfl) ?_
                                  refine lv_iload hx hb dX12_laysRows_125 (lv_at hl 1 rfl) ?_
                                  refine gi_sub hx hb dX12_laysRows_127 ?_
                                  refine lv_iload hx hb dX12_laysRows_128 (lv_at hl 3 rfl) ?_
                                  refine lv_iload hx hb dX12_laysRows_130 (lv_at hl 0 rfl) ?_
                                  refine gi_sub hx hb dX12_laysRows_132 ?_
                                  obtain ⟨r_66, hc_65, hM⟩ := bd1_some hM
                                  refine g_si (As := [.int (iI (v_7 - 1)), .int (iI (v_17 - v_38)), .int (iI (v_27 - v_52))]) (rest := [.ref (b + 89), .long (jJ (S_28 90 r_63)), .long (jJ v_53)]) S hG hsz (vX12_place l hn (v_7 - 1) (v_17 - v_38) (v_27 - v_52) hc_65) wS_12_276 dX12_laysRows_133 rfl hl.1 (ar := 3) (by decide +kernel) rfl ⟨Nat.le_of_ble_eq_true rfl, Nat.le_of_ble_eq_true rfl, Nat.le_of_ble_eq_true rfl, Nat.le_of_ble_eq_true rfl⟩ (Nat.le_of_ble_eq_true rfl) (fun rv uu H locs hp hG => ?_)
                                  obtain ⟨rfl, rfl⟩ := hp
                                  replace hG : gW D cy b n s H locs (enc b cy X S_28) := hG
                                  obtain ⟨hg_67, hM⟩ := gd_some hM
                                  refine mj_ald S hG 89 92 rfl ec_92 (Nat.lt_of_lt_of_le (Nat.le_of_ble_eq_true rfl) hn) dX12_laysRows_136 hg_67 (by decide) ?_
                                  refine lv_ldc2 (v := 100000000000000000) hx hb S.2.2.2.1 (S.2.2.2.2 _ wm_2057) dX12_laysRows_137 ?_
                                  refine gj_as 100000000000000000 (by decide) ?_
                                  obtain ⟨r_69, hc_68, hM⟩ := bd1_some hM
                                  refine g_sl (As := [.long (jJ (S_28 90 r_63)), .long (jJ (S_28 92 r_66)), .long (jJ 100000000000000000)]) (rest := [.long (jJ v_53)]) S hG hsz (vX12_mul l hn (S_28 90 r_63) (S_28 92 r_66) 100000000000000000 hc_68) wS_12_286 dX12_laysRows_140 rfl hl.1 (ar := 3) (by decide +kernel) rfl ⟨Nat.le_of_ble_eq_true rfl, Nat.le_of_ble_eq_true rfl, Nat.le_of_ble_eq_true rfl, Nat.le_of_ble_eq_true rfl⟩ (Nat.le_of_ble_eq_true rfl) (fun rv uu H locs hp hG => ?_)
                                  obtain ⟨rfl, rfl⟩ := hp
                                  replace hG : gW D cy b n s H locs (enc b cy X S_28) := hG
                                  refine lv_ldc2 (v := 100000000000000000) hx hb S.2.2.2.1 (S.2.2.2.2 _ wm_2057) dX12_laysRows_143 ?_
                                  refine gj_as 100000000000000000 (by decide) ?_
                                  obtain ⟨r_71, hc_70, hM⟩ := bd1_some hM
                                  refine g_sl (As := [.long (jJ v_53), .long (jJ r_69), .long (jJ 100000000000000000)]) (rest := []) S hG hsz (vX12_add l hn v_53 r_69 100000000000000000 hc_70) wS_12_282 dX12_laysRows_146 rfl hl.1 (ar := 3) (by decide +kernel) rfl ⟨Nat.le_of_ble_eq_true rfl, Nat.le_of_ble_eq_true rfl, Nat.le_of_ble_eq_true rfl, Nat.le_of_ble_eq_true rfl⟩ (Nat.le_of_ble_eq_true rfl) (fun rv uu H locs hp hG => ?_)
                                  obtain ⟨rfl, rfl⟩ := hp
                                  replace hG : gW D cy b n s H locs (enc b cy X S_28) := hG
                                  refine lv_lstore (lv' := [(7, .long (jJ r_71)), (10, .int (iI v_52)), (9, .int (iI v_38)), (6, .int (iI v_27)), (5, .int (iI v_17)), (4, .int (iI v_7)), (0, .ref (b + 80)), (1, .int (iI a1)), (2, .int (iI a2)), (3, .int (iI a3))]) hx hb dX12_laysRows_149 hl (by decide) rfl (fun ls hl => ?_)
                                  refine lv_iinc (v := iI (v_52 + 1)) (lv' := [(10, .int (iI (v_52 + 1))), (7, .long (jJ r_71)), (9, .int (iI v_38)), (6, .int (iI v_27)), (5, .int (iI v_17)), (4, .int (iI v_7)), (0, .ref (b + 80)), (1, .int (iI a1)), (2, .int (iI a2)), (3, .int (iI a3))]) hx hb dX12_laysRows_151 hl (k := 1) rfl ((iI_add v_52 (1)).trans (congrArg iI (by omega))) (by decide) rfl (fun ls hl => ?_)
                                  refine lv_goto (tgt := 88) hx hb dX12_laysRows_154 (by decide) ?_
                                  exact ih_58 (v_52 + 1) r_71 H locs ls hM hG (lv_sub hl [0, 2, 1, 3, 4, 5, 6, 7, 8, 9] rfl)
                            exact loop_57 FU 0 v_39 H locs ls hc_55 hG (lv_sub hl [0, 1, 2, 3, 4, 5, 6, 7, 8, 9] rfl)
                      exact loop_47 FU 1 0 H locs ls hc_41 hG (lv_sub hl [0, 1, 2, 3, 4, 5, 6, 7, 8] rfl)
                exact loop_32 FU 0 S_18 H locs ls hc_30 hG (lv_sub hl [0, 1, 2, 3, 4, 5, 6] rfl)
          exact loop_22 FU v_7 S_8 H locs ls hc_20 hG (lv_sub hl [0, 1, 2, 3, 4, 5] rfl)
    exact loop_12 FU 1 S_6 H locs ls hc_10 hG (lv_sub hl [0, 1, 2, 3, 4] rfl)
  have loop_72 : ∀ (f : Nat) (v_1 : Int) (S_2 : St) (H : Heap) (locs : List Loc) (ls : Array Slot), mX12_laysRows_3 a1 a2 a3 f v_1 S_2 = some S_3 → gW D cy b n s H locs (enc b cy X S_2) → lv_has ls 11 [(4, .int (iI v_1)), (0, .ref (b + 80)), (1, .int (iI a1)), (2, .int (iI a2)), (3, .int (iI a3))] → W p l e (gRm 2 0 0) s m args below meth c H locs 0 0 (gQV D cy b s args below 0 0 (fun u => u = (n, enc b cy X o1))) (F0 m 3 ls []) := by
    clear hM
    intro f
    induction f with
    | zero => intro v_1 S_2 H locs ls hM; rw [mX12_laysRows_3] at hM; cases hM
    | succ f_74 ih_73 =>
      intro v_1 S_2 H locs ls hM hG hl
      rw [mX12_laysRows_3] at hM
      refine lv_iload hx hb dX12_laysRows_3 (lv_at hl 0 rfl) ?_
      refine lv_aload_n hx hb dX12_laysRows_5 rfl (lv_at hl 1 rfl) ?_
      refine m_get S hG 80 83 16 rfl ec_83 cpX12 wm_1689 dX12_laysRows_6 rfl (Nat.lt_of_lt_of_le (Nat.le_of_ble_eq_true rfl) hn) (by decide) ?_
      refine m_alen S hG 89 2 ec_92 rfl (Nat.lt_of_lt_of_le (Nat.le_of_ble_eq_true rfl) hn) dX12_laysRows_9 (N := 512) (show Int32.ofNat 512 = iI 512 by decide) ?_
      obtain ⟨hg_75, hM⟩ := gd_some hM
      refine gi_icmp_ge (tgt := 27) hx hb dX12_laysRows_10 (by decide) hg_75 (by decide) (fun c_76 => ?_) (fun c_76 => ?_)
      · replace hM := ifp hM c_76
        cases hM
        exact hK_5 H locs ls hG (lv_sub hl [1, 2, 3, 4] rfl)
      · replace hM := ifn hM c_76
        refine lv_aload_n hx hb dX12_laysRows_13 rfl (lv_at hl 1 rfl) ?_
        refine m_get S hG 80 83 16 rfl ec_83 cpX12 wm_1689 dX12_laysRows_14 rfl (Nat.lt_of_lt_of_le (Nat.le_of_ble_eq_true rfl) hn) (by decide) ?_
        refine lv_iload hx hb dX12_laysRows_17 (lv_at hl 0 rfl) ?_
        refine lv_lconst (v := jJ 0) hx hb dX12_laysRows_19 (by decide) ?_
        obtain ⟨hg_77, hM⟩ := gd_some hM
        refine mj_ast S hG 89 92 rfl ec_92 (Nat.lt_of_lt_of_le (Nat.le_of_ble_eq_true rfl) hn) dX12_laysRows_20 hg_77 (by decide) (fun H locs S_78 eS_78 hG => ?_)
        replace hM := nx_at hM eS_78
        clear eS_78
        refine lv_iinc (v := iI (v_1 + 1)) (lv' := [(4, .int (iI (v_1 + 1))), (0, .ref (b + 80)), (1, .int (iI a1)), (2, .int (iI a2)), (3, .int (iI a3))]) hx hb dX12_laysRows_21 hl (k := 0) rfl ((iI_add v_1 (1)).trans (congrArg iI (by omega))) (by decide) rfl (fun ls hl => ?_)
        refine lv_goto (tgt := 3) hx hb dX12_laysRows_24 (by decide) ?_
        exact ih_73 (v_1 + 1) S_78 H locs ls hM hG (lv_sub hl [0, 1, 2, 3, 4] rfl)
  exact loop_72 FU 0 S0 H locs ls hc_4 hG (lv_sub hl [0, 1, 2, 3, 4] rfl)
theorem wS_12_316 : gWS "GrownKindsModel" 316 yX12_chosen cX12_chosen 11 (some .long) := ⟨wm_2041, wm_2042, wm_188, wm_2043, by decide +kernel, by decide +kernel⟩
def mX12_addsBags_49 (S_22 : St) (v_21 : Int) (v_11 : Int) (v_1 : Int) (a1 : Int) (a2 : Int) (a3 : Int) (a4 : Int) (a5 : Int) (a6 : Int) : Nat → Int → Int → Option (Int)
  | 0, _, _ => none
  | f + 1, v_35, v_36 => gd (inI (v_35 * a2)) <| if v_1 < (v_35 * a2) then (some (v_36)) else (gd (inI v_35) <| if v_11 < v_35 then (some (v_36)) else (gd (inI (v_35 * a3)) <| if v_21 < (v_35 * a3) then (some (v_36)) else (bd1 (mX12_chosen a1 v_35 a6) fun r_54 => bd1 (mX12_place (v_11 - v_35) (v_1 - (v_35 * a2)) (v_21 - (v_35 * a3))) fun r_56 => gd (0 ≤ r_56 ∧ r_56 < 512) <| bd1 (mX12_mul r_54 (S_22 92 r_56) 1000000000000) fun r_59 => bd1 (mX12_add v_36 r_59 1000000000000) fun r_61 => mX12_addsBags_49 S_22 v_21 v_11 v_1 a1 a2 a3 a4 a5 a6 f (v_35 + 1) r_61)))
def mX12_addsBags_23 (v_11 : Int) (v_1 : Int) (a1 : Int) (a2 : Int) (a3 : Int) (a4 : Int) (a5 : Int) (a6 : Int) : Nat → Int → St → Option (St)
  | 0, _, _ => none
  | f + 1, v_21, S_22 => gd ((inI v_21) ∧ (inI a5)) <| if a5 < v_21 then (some (S_22)) else (bd1 (mX12_place v_11 v_1 v_21) fun r_32 => gd (0 ≤ r_32 ∧ r_32 < 512) <| nx (S_22 92 r_32) fun x_34 => bd1 (mX12_addsBags_49 S_22 v_21 v_11 v_1 a1 a2 a3 a4 a5 a6 FU 1 x_34) fun y_37 => bd1 (mX12_place v_11 v_1 v_21) fun r_41 => gd (0 ≤ r_41 ∧ r_41 < 512) <| nx (up S_22 92 r_41 y_37) fun S_43 => mX12_addsBags_23 v_11 v_1 a1 a2 a3 a4 a5 a6 f (v_21 + 1) S_43)
def mX12_addsBags_13 (v_1 : Int) (a1 : Int) (a2 : Int) (a3 : Int) (a4 : Int) (a5 : Int) (a6 : Int) : Nat → Int → St → Option (St)
  | 0, _, _ => none
  | f + 1, v_11, S_12 => gd ((inI v_11) ∧ (inI a4)) <| if a4 < v_11 then (some (S_12)) else (bd1 (mX12_addsBags_23 v_11 v_1 a1 a2 a3 a4 a5 a6 FU 0 S_12) fun S_23 => mX12_addsBags_13 v_1 a1 a2 a3 a4 a5 a6 f (v_11 + 1) S_23)
def mX12_addsBags_4 (a1 : Int) (a2 : Int) (a3 : Int) (a4 : Int) (a5 : Int) (a6 : Int) : Nat → Int → St → Option (St)
  | 0, _, _ => none
  | f + 1, v_1, S_2 => gd ((inI v_1) ∧ (inI a2)) <| if v_1 < a2 then (some (S_2)) else (bd1 (mX12_addsBags_13 v_1 a1 a2 a3 a4 a5 a6 FU 1 S_2) fun S_13 => mX12_addsBags_4 a1 a2 a3 a4 a5 a6 f (v_1 - 1) S_13)
def mX12_addsBags (S0 : St) (a1 : Int) (a2 : Int) (a3 : Int) (a4 : Int) (a5 : Int) (a6 : Int) : Option (St) := bd1 (mX12_addsBags_4 a1 a2 a3 a4 a5 a6 FU a4 S0) fun S_3 => some (S_3)
set_option maxHeartbeats 4000000 in
set_option maxRecDepth 100000 in
theorem vX12_addsBags (l : Launch) {D : va_G} {cy : Nat → ClassId} {b n : Nat} (hn : 102 ≤ n) {X : Nat → va_E} {S0 : St} (a1 : Int) (a2 : Int) (a3 : Int) (a4 : Int) (a5 : Int) (a6 : Int) {o1 : St} (hM : mX12_addsBags S0 a1 a2 a3 a4 a5 a6 = some o1) : gV l yX12_addsBags cX12_addsBags 14 2 0 0 D cy b n (enc b cy X S0) [.ref (b + 80), .long (jJ a1), .int (iI a2), .int (iI a3), .int (iI a4), .int (iI a5), .int (iI a6)] (fun u => u = (n, enc b cy X o1)) := by
  refine gV_of (by decide) (Nat.le_of_ble_eq_true rfl) ?_
  intro p e s m args below meth c S hr hlk hin hsz ls hl hG
  have hx := S.1
  have hb := S.2.1
  have hl : lv_has ls 14 [(0, .ref (b + 80)), (1, .long (jJ a1)), (3, .int (iI a2)), (4, .int (iI a3)), (5, .int (iI a4)), (6, .int (iI a5)), (7, .int (iI a6))] := hl
  replace hG : gW D cy b n s s.heap [] (enc b cy X S0) := hG
  obtain ⟨H, eH⟩ : ∃ H, H = s.heap := ⟨_, rfl⟩
  obtain ⟨locs, elocs⟩ : ∃ locs : List Loc, locs = [] := ⟨_, rfl⟩
  rw [← eH, ← elocs] at hG
  rw [← eH, ← elocs]
  clear eH elocs
  unfold mX12_addsBags at hM
  refine lv_iload hx hb dX12_addsBags_0 (lv_at hl 4 rfl) ?_
  refine lv_istore (lv' := [(8, .int (iI a4)), (0, .ref (b + 80)), (1, .long (jJ a1)), (3, .int (iI a2)), (4, .int (iI a3)), (5, .int (iI a4)), (6, .int (iI a5)), (7, .int (iI a6))]) hx hb dX12_addsBags_2 hl (by decide) rfl (fun ls hl => ?_)
  obtain ⟨S_3, hc_4, hM⟩ := bd1_some hM
  have hK_5 : ∀ (H : Heap) (locs : List Loc) (ls : Array Slot), gW D cy b n s H locs (enc b cy X S_3) → lv_has ls 14 [] → W p l e (gRm 2 0 0) s m args below meth c H locs 0 0 (gQV D cy b s args below 0 0 (fun u => u = (n, enc b cy X o1))) (F0 m 167 ls []) := by
    intro H locs ls hG hl
    cases hM
    exact g_vret S hr hlk hG hsz dX12_addsBags_167 ⟨Nat.le_of_ble_eq_true rfl, Nat.le_of_ble_eq_true rfl⟩ rfl
  have loop_6 : ∀ (f : Nat) (v_1 : Int) (S_2 : St) (H : Heap) (locs : List Loc) (ls : Array Slot), mX12_addsBags_4 a1 a2 a3 a4 a5 a6 f v_1 S_2 = some S_3 → gW D cy b n s H locs (enc b cy X S_2) → lv_has ls 14 [(8, .int (iI v_1)), (0, .ref (b + 80)), (1, .long (jJ a1)), (3, .int (iI a2)), (4, .int (iI a3)), (5, .int (iI a4)), (6, .int (iI a5)), (7, .int (iI a6))] → W p l e (gRm 2 0 0) s m args below meth c H locs 0 0 (gQV D cy b s args below 0 0 (fun u => u = (n, enc b cy X o1))) (F0 m 4 ls []) := by
    clear hM
    intro f
    induction f with
    | zero => intro v_1 S_2 H locs ls hM; rw [mX12_addsBags_4] at hM; cases hM
    | succ f_8 ih_7 =>
      intro v_1 S_2 H locs ls hM hG hl
      rw [mX12_addsBags_4] at hM
      refine lv_iload hx hb dX12_addsBags_4 (lv_at hl 0 rfl) ?_
      refine lv_iload_n hx hb dX12_addsBags_6 rfl (lv_at hl 3 rfl) ?_
      obtain ⟨hg_9, hM⟩ := gd_some hM
      refine gi_icmp_lt (tgt := 167) hx hb dX12_addsBags_7 (by decide) hg_9.1 hg_9.2 (fun c_10 => ?_) (fun c_10 => ?_)
      · replace hM := ifp hM c_10
        cases hM
        exact hK_5 H locs ls hG (lv_sub hl [] rfl)
      · replace hM := ifn hM c_10
        refine lv_iconst (v := iI 1) hx hb dX12_addsBags_10 (by decide) ?_
        refine lv_istore (lv' := [(9, .int (iI 1)), (8, .int (iI v_1)), (0, .ref (b + 80)), (1, .long (jJ a1)), (3, .int (iI a2)), (4, .int (iI a3)), (5, .int (iI a4)), (6, .int (iI a5)), (7, .int (iI a6))]) hx hb dX12_addsBags_11 hl (by decide) rfl (fun ls hl => ?_)
        obtain ⟨S_13, hc_14, hM⟩ := bd1_some hM
        have hK_15 : ∀ (H : Heap) (locs : List Loc) (ls : Array Slot), gW D cy b n s H locs (enc b cy X S_13) → lv_has ls 14 [(8, .int (iI v_1)), (0, .ref (b + 80)), (1, .long (jJ a1)), (3, .int (iI a2)), (4, .int (iI a3)), (5, .int (iI a4)), (6, .int (iI a5)), (7, .int (iI a6))] → W p l e (gRm 2 0 0) s m args below meth c H locs 0 0 (gQV D cy b s args below 0 0 (fun u => u = (n, enc b cy X o1))) (F0 m 161 ls []) := by
          intro H locs ls hG hl
          refine lv_iinc (v := iI (v_1 - 1)) (lv' := [(8, .int (iI (v_1 - 1))), (0, .ref (b + 80)), (1, .long (jJ a1)), (3, .int (iI a2)), (4, .int (iI a3)), (5, .int (iI a4)), (6, .int (iI a5)), (7, .int (iI a6))]) hx hb dX12_addsBags_161 hl (k := 0) rfl ((iI_add v_1 (-1)).trans (congrArg iI (by omega))) (by decide) rfl (fun ls hl => ?_)
          refine lv_goto (tgt := 4) hx hb dX12_addsBags_164 (by decide) ?_
          exact ih_7 (v_1 - 1) S_13 H locs ls hM hG (lv_sub hl [0, 1, 2, 3, 4, 5, 6, 7] rfl)
        have loop_16 : ∀ (f : Nat) (v_11 : Int) (S_12 : St) (H : Heap) (locs : List Loc) (ls : Array Slot), mX12_addsBags_13 v_1 a1 a2 a3 a4 a5 a6 f v_11 S_12 = some S_13 → gW D cy b n s H locs (enc b cy X S_12) → lv_has ls 14 [(9, .int (iI v_11)), (8, .int (iI v_1)), (0, .ref (b + 80)), (1, .long (jJ a1)), (3, .int (iI a2)), (4, .int (iI a3)), (5, .int (iI a4)), (6, .int (iI a5)), (7, .int (iI a6))] → W p l e (gRm 2 0 0) s m args below meth c H locs 0 0 (gQV D cy b s args below 0 0 (fun u => u = (n, enc b cy X o1))) (F0 m 13 ls []) := by
          clear hM
          intro f
          induction f with
          | zero => intro v_11 S_12 H locs ls hM; rw [mX12_addsBags_13] at hM; cases hM
          | succ f_18 ih_17 =>
            intro v_11 S_12 H locs ls hM hG hl
            rw [mX12_addsBags_13] at hM
            refine lv_iload hx hb dX12_addsBags_13 (lv_at hl 0 rfl) ?_
            refine lv_iload hx hb dX12_addsBags_15 (lv_at hl 6 rfl) ?_
            obtain ⟨hg_19, hM⟩ := gd_some hM
            refine gi_icmp_gt (tgt := 161) hx hb dX12_addsBags_17 (by decide) hg_19.1 hg_19.2 (fun c_20 => ?_) (fun c_20 => ?_)
            · replace hM := ifp hM c_20
              cases hM
              exact hK_15 H locs ls hG (lv_sub hl [1, 2, 3, 4, 5, 6, 7, 8] rfl)
            · replace hM := ifn hM c_20
              refine lv_iconst (v := iI 0) hx hb dX12_addsBags_20 (by decide) ?_
              refine lv_istore (lv' := [(10, .int (iI 0)), (9, .int (iI v_11)), (8, .int (iI v_1)), (0, .ref (b + 80)), (1, .long (jJ a1)), (3, .int (iI a2)), (4, .int (iI a3)), (5, .int (iI a4)), (6, .int (iI a5)), (7, .int (iI a6))]) hx hb dX12_addsBags_21 hl (by decide) rfl (fun ls hl => ?_)
              obtain ⟨S_23, hc_24, hM⟩ := bd1_some hM
              have hK_25 : ∀ (H : Heap) (locs : List Loc) (ls : Array Slot), gW D cy b n s H locs (enc b cy X S_23) → lv_has ls 14 [(9, .int (iI v_11)), (8, .int (iI v_1)), (0, .ref (b + 80)), (1, .long (jJ a1)), (3, .int (iI a2)), (4, .int (iI a3)), (5, .int (iI a4)), (6, .int (iI a5)), (7, .int (iI a6))] → W p l e (gRm 2 0 0) s m args below meth c H locs 0 0 (gQV D cy b s args below 0 0 (fun u => u = (n, enc b cy X o1))) (F0 m 155 ls []) := by
                intro H locs ls hG hl
                refine lv_iinc (v := iI (v_11 + 1)) (lv' := [(9, .int (iI (v_11 + 1))), (8, .int (iI v_1)), (0, .ref (b + 80)), (1, .long (jJ a1)), (3, .int (iI a2)), (4, .int (iI a3)), (5, .int (iI a4)), (6, .int (iI a5)), (7, .int (iI a6))]) hx hb dX12_addsBags_155 hl (k := 0) rfl ((iI_add v_11 (1)).trans (congrArg iI (by omega))) (by decide) rfl (fun ls hl => ?_)
                refine lv_goto (tgt := 13) hx hb dX12_addsBags_158 (by decide) ?_
                exact ih_17 (v_11 + 1) S_23 H locs ls hM hG (lv_sub hl [0, 1, 2, 3, 4, 5, 6, 7, 8] rfl)
              have loop_26 : ∀ (f : Nat) (v_21 : Int) (S_22 : St) (H : Heap) (locs : List Loc) (ls : Array Slot), mX12_addsBags_23 v_11 v_1 a1 a2 a3 a4 a5 a6 f v_21 S_22 = some S_23 → gW D cy b n s H locs (enc b cy X S_22) → lv_has ls 14 [(10, .int (iI v_21)), (9, .int (iI v_11)), (8, .int (iI v_1)), (0, .ref (b + 80)), (1, .long (jJ a1)), (3, .int (iI a2)), (4, .int (iI a3)), (5, .int (iI a4)), (6, .int (iI a5)), (7, .int (iI a6))] → W p l e (gRm 2 0 0) s m args below meth c H locs 0 0 (gQV D cy b s args below 0 0 (fun u => u = (n, enc b cy X o1))) (F0 m 23 ls []) := by
                clear hM
                intro f
                induction f with
                | zero => intro v_21 S_22 H locs ls hM; rw [mX12_addsBags_23] at hM; cases hM
                | succ f_28 ih_27 =>
                  intro v_21 S_22 H locs ls hM hG hl
                  rw [mX12_addsBags_23] at hM
                  refine lv_iload hx hb dX12_addsBags_23 (lv_at hl 0 rfl) ?_
                  refine lv_iload hx hb dX12_addsBags_25 (lv_at hl 8 rfl) ?_
                  obtain ⟨hg_29, hM⟩ := gd_some hM
                  refine gi_icmp_gt (tgt := 155) hx hb dX12_addsBags_27 (by decide) hg_29.1 hg_29.2 (fun c_30 => ?_) (fun c_30 => ?_)
                  · replace hM := ifp hM c_30
                    cases hM
                    exact hK_25 H locs ls hG (lv_sub hl [1, 2, 3, 4, 5, 6, 7, 8, 9] rfl)
                  · replace hM := ifn hM c_30
                    refine lv_aload_n hx hb dX12_addsBags_30 rfl (lv_at hl 3 rfl) ?_
                    refine m_get S hG 80 83 16 rfl ec_83 cpX12 wm_1689 dX12_addsBags_31 rfl (Nat.lt_of_lt_of_le (Nat.le_of_ble_eq_true rfl) hn) (by decide) ?_
                    refine lv_iload hx hb dX12_addsBags_34 (lv_at hl 1 rfl) ?_
                    refine lv_iload hx hb dX12_addsBags_36 (lv_at hl 2 rfl) ?_
                    refine lv_iload hx hb dX12_addsBags_38 (lv_at hl 0 rfl) ?_
                    obtain ⟨r_32, hc_31, hM⟩ := bd1_some hM
                    refine g_si (As := [.int (iI v_11), .int (iI v_1), .int (iI v_21)]) (rest := [.ref (b + 89)]) S hG hsz (vX12_place l hn v_11 v_1 v_21 hc_31) wS_12_276 dX12_addsBags_40 rfl hl.1 (ar := 3) (by decide +kernel) rfl ⟨Nat.le_of_ble_eq_true rfl, Nat.le_of_ble_eq_true rfl, Nat.le_of_ble_eq_true rfl, Nat.le_of_ble_eq_true rfl⟩ (Nat.le_of_ble_eq_true rfl) (fun rv uu H locs hp hG => ?_)
                    obtain ⟨rfl, rfl⟩ := hp
                    replace hG : gW D cy b n s H locs (enc b cy X S_22) := hG
                    obtain ⟨hg_33, hM⟩ := gd_some hM
                    refine mj_ald S hG 89 92 rfl ec_92 (Nat.lt_of_lt_of_le (Nat.le_of_ble_eq_true rfl) hn) dX12_addsBags_43 hg_33 (by decide) ?_
                    refine gj_nm (fun x_34 ex_34 => ?_)
                    replace hM := nx_at hM ex_34
                    clear ex_34
                    refine lv_lstore (lv' := [(11, .long (jJ x_34)), (10, .int (iI v_21)), (9, .int (iI v_11)), (8, .int (iI v_1)), (0, .ref (b + 80)), (1, .long (jJ a1)), (3, .int (iI a2)), (4, .int (iI a3)), (5, .int (iI a4)), (6, .int (iI a5)), (7, .int (iI a6))]) hx hb dX12_addsBags_44 hl (by decide) rfl (fun ls hl => ?_)
                    refine lv_iconst (v := iI 1) hx hb dX12_addsBags_46 (by decide) ?_
                    refine lv_istore (lv' := [(13, .int (iI 1)), (11, .long (jJ x_34)), (10, .int (iI v_21)), (9, .int (iI v_11)), (8, .int (iI v_1)), (0, .ref (b + 80)), (1, .long (jJ a1)), (3, .int (iI a2)), (4, .int (iI a3)), (5, .int (iI a4)), (6, .int (iI a5)), (7, .int (iI a6))]) hx hb dX12_addsBags_47 hl (by decide) rfl (fun ls hl => ?_)
                    obtain ⟨y_37, hc_38, hM⟩ := bd1_some hM
                    have hK_39 : ∀ (H : Heap) (locs : List Loc) (ls : Array Slot), gW D cy b n s H locs (enc b cy X S_22) → lv_has ls 14 [(10, .int (iI v_21)), (9, .int (iI v_11)), (8, .int (iI v_1)), (0, .ref (b + 80)), (1, .long (jJ a1)), (3, .int (iI a2)), (4, .int (iI a3)), (5, .int (iI a4)), (6, .int (iI a5)), (7, .int (iI a6)), (11, .long (jJ y_37))] → W p l e (gRm 2 0 0) s m args below meth c H locs 0 0 (gQV D cy b s args below 0 0 (fun u => u = (n, enc b cy X o1))) (F0 m 133 ls []) := by
                      intro H locs ls hG hl
                      refine lv_aload_n hx hb dX12_addsBags_133 rfl (lv_at hl 3 rfl) ?_
                      refine m_get S hG 80 83 16 rfl ec_83 cpX12 wm_1689 dX12_addsBags_134 rfl (Nat.lt_of_lt_of_le (Nat.le_of_ble_eq_true rfl) hn) (by decide) ?_
                      refine lv_iload hx hb dX12_addsBags_137 (lv_at hl 1 rfl) ?_
                      refine lv_iload hx hb dX12_addsBags_139 (lv_at hl 2 rfl) ?_
                      refine lv_iload hx hb dX12_addsBags_141 (lv_at hl 0 rfl) ?_
                      obtain ⟨r_41, hc_40, hM⟩ := bd1_some hM
                      refine g_si (As := [.int (iI v_11), .int (iI v_1), .int (iI v_21)]) (rest := [.ref (b + 89)]) S hG hsz (vX12_place l hn v_11 v_1 v_21 hc_40) wS_12_276 dX12_addsBags_143 rfl hl.1 (ar := 3) (by decide +kernel) rfl ⟨Nat.le_of_ble_eq_true rfl, Nat.le_of_ble_eq_true rfl, Nat.le_of_ble_eq_true rfl, Nat.le_of_ble_eq_true rfl⟩ (Nat.le_of_ble_eq_true rfl) (fun rv uu H locs hp hG => ?_)
                      obtain ⟨rfl, rfl⟩ := hp
                      replace hG : gW D cy b n s H locs (enc b cy X S_22) := hG
                      refine lv_lload hx hb dX12_addsBags_146 (lv_at hl 10 rfl) ?_
                      obtain ⟨hg_42, hM⟩ := gd_some hM
                      refine mj_ast S hG 89 92 rfl ec_92 (Nat.lt_of_lt_of_le (Nat.le_of_ble_eq_true rfl) hn) dX12_addsBags_148 hg_42 (by decide) (fun H locs S_43 eS_43 hG => ?_)
                      replace hM := nx_at hM eS_43
                      clear eS_43
                      refine lv_iinc (v := iI (v_21 + 1)) (lv' := [(10, .int (iI (v_21 + 1))), (9, .int (iI v_11)), (8, .int (iI v_1)), (0, .ref (b + 80)), (1, .long (jJ a1)), (3, .int (iI a2)), (4, .int (iI a3)), (5, .int (iI a4)), (6, .int (iI a5)), (7, .int (iI a6)), (11, .long (jJ y_37))]) hx hb dX12_addsBags_149 hl (k := 0) rfl ((iI_add v_21 (1)).trans (congrArg iI (by omega))) (by decide) rfl (fun ls hl => ?_)
                      refine lv_goto (tgt := 23) hx hb dX12_addsBags_152 (by decide) ?_
                      exact ih_27 (v_21 + 1) S_43 H locs ls hM hG (lv_sub hl [0, 1, 2, 3, 4, 5, 6, 7, 8, 9] rfl)
                    have loop_44 : ∀ (f : Nat) (v_35 : Int) (v_36 : Int) (H : Heap) (locs : List Loc) (ls : Array Slot), mX12_addsBags_49 S_22 v_21 v_11 v_1 a1 a2 a3 a4 a5 a6 f v_35 v_36 = some y_37 → gW D cy b n s H locs (enc b cy X S_22) → lv_has ls 14 [(13, .int (iI v_35)), (11, .long (jJ v_36)), (10, .int (iI v_21)), (9, .int (iI v_11)), (8, .int (iI v_1)), (0, .ref (b + 80)), (1, .long (jJ a1)), (3, .int (iI a2)), (4, .int (iI a3)), (5, .int (iI a4)), (6, .int (iI a5)), (7, .int (iI a6))] → W p l e (gRm 2 0 0) s m args below meth c H locs 0 0 (gQV D cy b s args below 0 0 (fun u => u = (n, enc b cy X o1))) (F0 m 49 ls []) := by
                      clear hM
                      intro f
                      induction f with
                      | zero => intro v_35 v_36 H locs ls hM; rw [mX12_addsBags_49] at hM; cases hM
                      | succ f_46 ih_45 =>
                        intro v_35 v_36 H locs ls hM hG hl
                        rw [mX12_addsBags_49] at hM
                        refine lv_iload hx hb dX12_addsBags_49 (lv_at hl 0 rfl) ?_
                        refine lv_iload_n hx hb dX12_addsBags_51 rfl (lv_at hl 7 rfl) ?_
                        refine gi_mul hx hb dX12_addsBags_52 ?_
                        refine lv_iload hx hb dX12_addsBags_53 (lv_at hl 4 rfl) ?_
                        obtain ⟨hg_47, hM⟩ := gd_some hM
                        refine gi_icmp_gt (tgt := 133) hx hb dX12_addsBags_55 (by decide) hg_47 hg_9.1 (fun c_48 => ?_) (fun c_48 => ?_)
                        · replace hM := ifp hM c_48
                          cases hM
                          exact hK_39 H locs ls hG (lv_sub hl [2, 3, 4, 5, 6, 7, 8, 9, 10, 11, 1] rfl)
                        · replace hM := ifn hM c_48
                          refine lv_iload hx hb dX12_addsBags_58 (lv_at hl 0 rfl) ?_
                          refine lv_iload hx hb dX12_addsBags_60 (lv_at hl 3 rfl) ?_
                          obtain ⟨hg_49, hM⟩ := gd_some hM
                          refine gi_icmp_gt (tgt := 133) hx hb dX12_addsBags_62 (by decide) hg_49 hg_19.1 (fun c_50 => ?_) (fun c_50 => ?_)
                          · replace hM := ifp hM c_50
                            cases hM
                            exact hK_39 H locs ls hG (lv_sub hl [2, 3, 4, 5, 6, 7, 8, 9, 10, 11, 1] rfl)
                          · replace hM := ifn hM c_50
                            refine lv_iload hx hb dX12_addsBags_65 (lv_at hl 0 rfl) ?_
                            refine lv_iload hx hb dX12_addsBags_67 (lv_at hl 8 rfl) ?_
                            refine gi_mul hx hb dX12_addsBags_69 ?_
                            refine lv_iload hx hb dX12_addsBags_70 (lv_at hl 2 rfl) ?_
                            obtain ⟨hg_51, hM⟩ := gd_some hM
                            refine gi_icmp_gt (tgt := 133) hx hb dX12_addsBags_72 (by decide) hg_51 hg_29.1 (fun c_52 => ?_) (fun c_52 => ?_)
                            · replace hM := ifp hM c_52
                              cases hM
                              exact hK_39 H locs ls hG (lv_sub hl [2, 3, 4, 5, 6, 7, 8, 9, 10, 11, 1] rfl)
                            · replace hM := ifn hM c_52
                              refine lv_lload hx hb dX12_addsBags_75 (lv_at hl 1 rfl) ?_
                              refine lv_lload_n hx hb dX12_addsBags_77 rfl (lv_at hl 6 rfl) ?_
                              refine lv_iload hx hb dX12_addsBags_78 (lv_at hl 0 rfl) ?_
                              refine lv_iload hx hb dX12_addsBags_80 (lv_at hl 11 rfl) ?_
                              obtain ⟨r_54, hc_53, hM⟩ := bd1_some hM
                              refine g_sl (As := [.long (jJ a1), .int (iI v_35), .int (iI a6)]) (rest := [.long (jJ v_36)]) S hG hsz (vX12_chosen l hn a1 v_35 a6 hc_53) wS_12_316 dX12_addsBags_82 rfl hl.1 (ar := 3) (by decide +kernel) rfl ⟨Nat.le_of_ble_eq_true rfl, Nat.le_of_ble_eq_true rfl, Nat.le_of_ble_eq_true rfl, Nat.le_of_ble_eq_true rfl⟩ (Nat.le_of_ble_eq_true rfl) (fun rv uu H locs hp hG => ?_)
                              obtain ⟨rfl, rfl⟩ := hp
                              replace hG : gW D cy b n s H locs (enc b cy X S_22) := hG
                              refine lv_aload_n hx hb dX12_addsBags_85 rfl (lv_at hl 5 rfl) ?_
                              refine m_get S hG 80 83 16 rfl ec_83 cpX12 wm_1689 dX12_addsBags_86 rfl (Nat.lt_of_lt_of_le (Nat.le_of_ble_eq_true rfl) hn) (by decide) ?_
                              refine lv_iload hx hb dX12_addsBags_89 (lv_at hl 3 rfl) ?_
                              refine lv_iload hx hb dX12_addsBags_91 (lv_at hl 0 rfl) ?_
                              refine gi_sub hx hb dX12_addsBags_93 ?_
                              refine lv_iload hx hb dX12_addsBags_94 (lv_at hl 4 rfl) ?_
                              refine lv_iload hx hb dX12_addsBags_96 (lv_at hl 0 rfl) ?_
                              refine lv_iload_n hx hb dX12_addsBags_98 rfl (lv_at hl 7 rfl) ?_
                              refine gi_mul hx hb dX12_addsBags_99 ?_
                              refine gi_sub hx hb dX12_addsBags_100 ?_
                              refine lv_iload hx hb dX12_addsBags_101 (lv_at hl 2 rfl) ?_
                              refine lv_iload hx hb dX12_addsBags_103 (lv_at hl 0 rfl) ?_
                              refine lv_iload hx hb dX12_addsBags_105 (lv_at hl 8 rfl) ?_
                              refine gi_mul hx hb dX12_addsBags_107 ?_
                              refine gi_sub hx hb dX12_addsBags_108 ?_
                              obtain ⟨r_56, hc_55, hM⟩ := bd1_some hM
                              refine g_si (As := [.int (iI (v_11 - v_35)), .int (iI (v_1 - (v_35 * a2))), .int (iI (v_21 - (v_35 * a3)))]) (rest := [.ref (b + 89), .long (jJ r_54), .long (jJ v_36)]) S hG hsz (vX12_place l hn (v_11 - v_35) (v_1 - (v_35 * a2)) (v_21 - (v_35 * a3)) hc_55) wS_12_276 dX12_addsBags_109 rfl hl.1 (ar := 3) (by decide +kernel) rfl ⟨Nat.le_of_ble_eq_true rfl, Nat.le_of_ble_eq_true rfl, Nat.le_of_ble_eq_true rfl, Nat.le_of_ble_eq_true rfl⟩ (Nat.le_of_ble_eq_true rfl) (fun rv uu H locs hp hG => ?_)
                              obtain ⟨rfl, rfl⟩ := hp
                              replace hG : gW D cy b n s H locs (enc b cy X S_22) := hG
                              obtain ⟨hg_57, hM⟩ := gd_some hM
                              refine mj_ald S hG 89 92 rfl ec_92 (Nat.lt_of_lt_of_le (Nat.le_of_ble_eq_true rfl) hn) dX12_addsBags_112 hg_57 (by decide) ?_
                              refine lv_ldc2 (v := 1000000000000) hx hb S.2.2.2.1 (S.2.2.2.2 _ wm_2044) dX12_addsBags_113 ?_
                              refine gj_as 1000000000000 (by decide) ?_
                              obtain ⟨r_59, hc_58, hM⟩ := bd1_some hM
                              refine g_sl (As := [.long (jJ r_54), .long (jJ (S_22 92 r_56)), .long (jJ 1000000000000)]) (rest := [.long (jJ v_36)]) S hG hsz (vX12_mul l hn r_54 (S_22 92 r_56) 1000000000000 hc_58) wS_12_286 dX12_addsBags_116 rfl hl.1 (ar := 3) (by decide +kernel) rfl ⟨Nat.le_of_ble_eq_true rfl, Nat.le_of_ble_eq_true rfl, Nat.le_of_ble_eq_true rfl, Nat.le_of_ble_eq_true rfl⟩ (Nat.le_of_ble_eq_true rfl) (fun rv uu H locs hp hG => ?_)
                              obtain ⟨rfl, rfl⟩ := hp
                              replace hG : gW D cy b n s H locs (enc b cy X S_22) := hG
                              refine lv_ldc2 (v := 1000000000000) hx hb S.2.2.2.1 (S.2.2.2.2 _ wm_2044) dX12_addsBags_119 ?_
                              refine gj_as 1000000000000 (by decide) ?_
                              obtain ⟨r_61, hc_60, hM⟩ := bd1_some hM
                              refine g_sl (As := [.long (jJ v_36), .long (jJ r_59), .long (jJ 1000000000000)]) (rest := []) S hG hsz (vX12_add l hn v_36 r_59 1000000000000 hc_60) wS_12_282 dX12_addsBags_122 rfl hl.1 (ar := 3) (by decide +kernel) rfl ⟨Nat.le_of_ble_eq_true rfl, Nat.le_of_ble_eq_true rfl, Nat.le_of_ble_eq_true rfl, Nat.le_of_ble_eq_true rfl⟩ (Nat.le_of_ble_eq_true rfl) (fun rv uu H locs hp hG => ?_)
                              obtain ⟨rfl, rfl⟩ := hp
                              replace hG : gW D cy b n s H locs (enc b cy X S_22) := hG
                              refine lv_lstore (lv' := [(11, .long (jJ r_61)), (13, .int (iI v_35)), (10, .int (iI v_21)), (9, .int (iI v_11)), (8, .int (iI v_1)), (0, .ref (b + 80)), (1, .long (jJ a1)), (3, .int (iI a2)), (4, .int (iI a3)), (5, .int (iI a4)), (6, .int (iI a5)), (7, .int (iI a6))]) hx hb dX12_addsBags_125 hl (by decide) rfl (fun ls hl => ?_)
                              refine lv_iinc (v := iI (v_35 + 1)) (lv' := [(13, .int (iI (v_35 + 1))), (11, .long (jJ r_61)), (10, .int (iI v_21)), (9, .int (iI v_11)), (8, .int (iI v_1)), (0, .ref (b + 80)), (1, .long (jJ a1)), (3, .int (iI a2)), (4, .int (iI a3)), (5, .int (iI a4)), (6, .int (iI a5)), (7, .int (iI a6))]) hx hb dX12_addsBags_127 hl (k := 1) rfl ((iI_add v_35 (1)).trans (congrArg iI (by omega))) (by decide) rfl (fun ls hl => ?_)
                              refine lv_goto (tgt := 49) hx hb dX12_addsBags_130 (by decide) ?_
                              exact ih_45 (v_35 + 1) r_61 H locs ls hM hG (lv_sub hl [0, 1, 2, 3, 4, 5, 6, 7, 8, 9, 10, 11] rfl)
                    exact loop_44 FU 1 x_34 H locs ls hc_38 hG (lv_sub hl [0, 1, 2, 3, 4, 5, 6, 7, 8, 9, 10, 11] rfl)
              exact loop_26 FU 0 S_12 H locs ls hc_24 hG (lv_sub hl [0, 1, 2, 3, 4, 5, 6, 7, 8, 9] rfl)
        exact loop_16 FU 1 S_2 H locs ls hc_14 hG (lv_sub hl [0, 1, 2, 3, 4, 5, 6, 7, 8] rfl)
  exact loop_6 FU a4 S0 H locs ls hc_4 hG (lv_sub hl [0, 1, 2, 3, 4, 5, 6, 7] rfl)
theorem wV_12_312 : gWV "GrownKindsModel" 312 yX12_addsBags cX12_addsBags 14 none := ⟨wm_2037, wm_2039, wm_119, wm_188, wm_2040, by decide +kernel, by decide +kernel⟩
def mX12_laysBags_46 (v_7 : Int) (a1 : Int) (a2 : Int) (a3 : Int) (a4 : Int) : Nat → Int → St → Option (St)
  | 0, _, _ => none
  | f + 1, v_17, S_18 => gd (inI a3) <| gd ((inI v_17) ∧ (inI (min v_7 a3))) <| if (min v_7 a3) < v_17 then (some (S_18)) else (bd1 (mX12_place a1 v_7 v_17) fun r_29 => gd (0 ≤ r_29 ∧ r_29 < 1920) <| gd (inL (S_18 90 r_29)) <| if (S_18 90 r_29) ≤ 0 then (mX12_laysBags_46 v_7 a1 a2 a3 a4 f (v_17 + 1) S_18) else (bd1 (mX12_place a1 v_7 v_17) fun r_34 => gd (0 ≤ r_34 ∧ r_34 < 1920) <| bd1 (mX12_addsBags S_18 (S_18 90 r_34) v_7 v_17 a2 a3 a4) fun S_37 => mX12_laysBags_46 v_7 a1 a2 a3 a4 f (v_17 + 1) S_37))
def mX12_laysBags_37 (a1 : Int) (a2 : Int) (a3 : Int) (a4 : Int) : Nat → Int → St → Option (St)
  | 0, _, _ => none
  | f + 1, v_7, S_8 => gd ((inI v_7) ∧ (inI a2)) <| if a2 < v_7 then (some (S_8)) else (bd1 (mX12_laysBags_46 v_7 a1 a2 a3 a4 FU 0 S_8) fun S_19 => mX12_laysBags_37 a1 a2 a3 a4 f (v_7 + 1) S_19)
def mX12_laysBags_3 (a1 : Int) (a2 : Int) (a3 : Int) (a4 : Int) : Nat → Int → St → Option (St)
  | 0, _, _ => none
  | f + 1, v_1, S_2 => gd (inI v_1) <| if 512 ≤ v_1 then (some (S_2)) else (gd (0 ≤ v_1 ∧ v_1 < 512) <| nx (up S_2 92 v_1 0) fun S_44 => mX12_laysBags_3 a1 a2 a3 a4 f (v_1 + 1) S_44)
def mX12_laysBags (S0 : St) (a1 : Int) (a2 : Int) (a3 : Int) (a4 : Int) : Option (St) := bd1 (mX12_laysBags_3 a1 a2 a3 a4 FU 0 S0) fun S_3 => nx (up S_3 92 0 1) fun S_6 => bd1 (mX12_laysBags_37 a1 a2 a3 a4 FU 1 S_6) fun S_9 => some (S_9)
set_option maxHeartbeats 4000000 in
set_option maxRecDepth 100000 in
theorem vX12_laysBags (l : Launch) {D : va_G} {cy : Nat → ClassId} {b n : Nat} (hn : 102 ≤ n) {X : Nat → va_E} {S0 : St} (a1 : Int) (a2 : Int) (a3 : Int) (a4 : Int) {o1 : St} (hM : mX12_laysBags S0 a1 a2 a3 a4 = some o1) : gV l yX12_laysBags cX12_laysBags 7 3 0 0 D cy b n (enc b cy X S0) [.ref (b + 80), .int (iI a1), .int (iI a2), .int (iI a3), .int (iI a4)] (fun u => u = (n, enc b cy X o1)) := by
  refine gV_of (by decide) (Nat.le_of_ble_eq_true rfl) ?_
  intro p e s m args below meth c S hr hlk hin hsz ls hl hG
  have hx := S.1
  have hb := S.2.1
  have hl : lv_has ls 7 [(0, .ref (b + 80)), (1, .int (iI a1)), (2, .int (iI a2)), (3, .int (iI a3)), (4, .int (iI a4))] := hl
  replace hG : gW D cy b n s s.heap [] (enc b cy X S0) := hG
  obtain ⟨H, eH⟩ : ∃ H, H = s.heap := ⟨_, rfl⟩
  obtain ⟨locs, elocs⟩ : ∃ locs : List Loc, locs = [] := ⟨_, rfl⟩
  rw [← eH, ← elocs] at hG
  rw [← eH, ← elocs]
  clear eH elocs
  unfold mX12_laysBags at hM
  refine lv_iconst (v := iI 0) hx hb dX12_laysBags_0 (by decide) ?_
  refine lv_istore (lv' := [(5, .int (iI 0)), (0, .ref (b + 80)), (1, .int (iI a1)), (2, .int (iI a2)), (3, .int (iI a3)), (4, .int (iI a4))]) hx hb dX12_laysBags_1 hl (by decide) rfl (fun ls hl => ?_)
  obtain ⟨S_3, hc_4, hM⟩ := bd1_some hM
  have hK_5 : ∀ (H : Heap) (locs : List Loc) (ls : Array Slot), gW D cy b n s H locs (enc b cy X S_3) → lv_has ls 7 [(0, .ref (b + 80)), (1, .int (iI a1)), (2, .int (iI a2)), (3, .int (iI a3)), (4, .int (iI a4))] → W p l e (gRm 3 0 0) s m args below meth c H locs 0 0 (gQV D cy b s args below 0 0 (fun u => u = (n, enc b cy X o1))) (F0 m 27 ls []) := by
    intro H locs ls hG hl
    refine lv_aload_n hx hb dX12_laysBags_27 rfl (lv_at hl 0 rfl) ?_
    refine m_get S hG 80 83 16 rfl ec_83 cpX12 wm_1689 dX12_laysBags_28 rfl (Nat.lt_of_lt_of_le (Nat.le_of_ble_eq_true rfl) hn) (by decide) ?_
    refine lv_iconst (v := iI 0) hx hb dX12_laysBags_31 (by decide) ?_
    refine lv_lconst (v := jJ 1) hx hb dX12_laysBags_32 (by decide) ?_
    refine mj_ast S hG 89 92 rfl ec_92 (Nat.lt_of_lt_of_le (Nat.le_of_ble_eq_true rfl) hn) dX12_laysBags_33 (by decide) (by decide) (fun H locs S_6 eS_6 hG => ?_)
    replace hM := nx_at hM eS_6
    clear eS_6
    refine lv_iconst (v := iI 1) hx hb dX12_laysBags_34 (by decide) ?_
    refine lv_istore (lv' := [(5, .int (iI 1)), (0, .ref (b + 80)), (1, .int (iI a1)), (2, .int (iI a2)), (3, .int (iI a3)), (4, .int (iI a4))]) hx hb dX12_laysBags_35 hl (by decide) rfl (fun ls hl => ?_)
    obtain ⟨S_9, hc_10, hM⟩ := bd1_some hM
    have hK_11 : ∀ (H : Heap) (locs : List Loc) (ls : Array Slot), gW D cy b n s H locs (enc b cy X S_9) → lv_has ls 7 [] → W p l e (gRm 3 0 0) s m args below meth c H locs 0 0 (gQV D cy b s args below 0 0 (fun u => u = (n, enc b cy X o1))) (F0 m 112 ls []) := by
      intro H locs ls hG hl
      cases hM
      exact g_vret S hr hlk hG hsz dX12_laysBags_112 ⟨Nat.le_of_ble_eq_true rfl, Nat.le_of_ble_eq_true rfl⟩ rfl
    have loop_12 : ∀ (f : Nat) (v_7 : Int) (S_8 : St) (H : Heap) (locs : List Loc) (ls : Array Slot), mX12_laysBags_37 a1 a2 a3 a4 f v_7 S_8 = some S_9 → gW D cy b n s H locs (enc b cy X S_8) → lv_has ls 7 [(5, .int (iI v_7)), (0, .ref (b + 80)), (1, .int (iI a1)), (2, .int (iI a2)), (3, .int (iI a3)), (4, .int (iI a4))] → W p l e (gRm 3 0 0) s m args below meth c H locs 0 0 (gQV D cy b s args below 0 0 (fun u => u = (n, enc b cy X o1))) (F0 m 37 ls []) := by
      clear hM
      intro f
      induction f with
      | zero => intro v_7 S_8 H locs ls hM; rw [mX12_laysBags_37] at hM; cases hM
      | succ f_14 ih_13 =>
        intro v_7 S_8 H locs ls hM hG hl
        rw [mX12_laysBags_37] at hM
        refine lv_iload hx hb dX12_laysBags_37 (lv_at hl 0 rfl) ?_
        refine lv_iload_n hx hb dX12_laysBags_39 rfl (lv_at hl 3 rfl) ?_
        obtain ⟨hg_15, hM⟩ := gd_some hM
        refine gi_icmp_gt (tgt := 112) hx hb dX12_laysBags_40 (by decide) hg_15.1 hg_15.2 (fun c_16 => ?_) (fun c_16 => ?_)
        · replace hM := ifp hM c_16
          cases hM
          exact hK_11 H locs ls hG (lv_sub hl [] rfl)
        · replace hM := ifn hM c_16
          refine lv_iconst (v := iI 0) hx hb dX12_laysBags_43 (by decide) ?_
          refine lv_istore (lv' := [(6, .int (iI 0)), (5, .int (iI v_7)), (0, .ref (b + 80)), (1, .int (iI a1)), (2, .int (iI a2)), (3, .int (iI a3)), (4, .int (iI a4))]) hx hb dX12_laysBags_44 hl (by decide) rfl (fun ls hl => ?_)
          obtain ⟨S_19, hc_20, hM⟩ := bd1_some hM
          have hK_21 : ∀ (H : Heap) (locs : List Loc) (ls : Array Slot), gW D cy b n s H locs (enc b cy X S_19) → lv_has ls 7 [(5, .int (iI v_7)), (0, .ref (b + 80)), (1, .int (iI a1)), (2, .int (iI a2)), (3, .int (iI a3)), (4, .int (iI a4))] → W p l e (gRm 3 0 0) s m args below meth c H locs 0 0 (gQV D cy b s args below 0 0 (fun u => u = (n, enc b cy X o1))) (F0 m 106 ls []) := by
            intro H locs ls hG hl
            refine lv_iinc (v := iI (v_7 + 1)) (lv' := [(5, .int (iI (v_7 + 1))), (0, .ref (b + 80)), (1, .int (iI a1)), (2, .int (iI a2)), (3, .int (iI a3)), (4, .int (iI a4))]) hx hb dX12_laysBags_106 hl (k := 0) rfl ((iI_add v_7 (1)).trans (congrArg iI (by omega))) (by decide) rfl (fun ls hl => ?_)
            refine lv_goto (tgt := 37) hx hb dX12_laysBags_109 (by decide) ?_
            exact ih_13 (v_7 + 1) S_19 H locs ls hM hG (lv_sub hl [0, 1, 2, 3, 4, 5] rfl)
          have loop_22 : ∀ (f : Nat) (v_17 : Int) (S_18 : St) (H : Heap) (locs : List Loc) (ls : Array Slot), mX12_laysBags_46 v_7 a1 a2 a3 a4 f v_17 S_18 = some S_19 → gW D cy b n s H locs (enc b cy X S_18) → lv_has ls 7 [(6, .int (iI v_17)), (5, .int (iI v_7)), (0, .ref (b + 80)), (1, .int (iI a1)), (2, .int (iI a2)), (3, .int (iI a3)), (4, .int (iI a4))] → W p l e (gRm 3 0 0) s m args below meth c H locs 0 0 (gQV D cy b s args below 0 0 (fun u => u = (n, enc b cy X o1))) (F0 m 46 ls []) := by
            clear hM
            intro f
            induction f with
            | zero => intro v_17 S_18 H locs ls hM; rw [mX12_laysBags_46] at hM; cases hM
            | succ f_24 ih_23 =>
              intro v_17 S_18 H locs ls hM hG hl
              rw [mX12_laysBags_46] at hM
              refine lv_iload hx hb dX12_laysBags_46 (lv_at hl 0 rfl) ?_
              refine lv_iload hx hb dX12_laysBags_48 (lv_at hl 1 rfl) ?_
              refine lv_iload_n hx hb dX12_laysBags_50 rfl (lv_at hl 5 rfl) ?_
              obtain ⟨hg_25, hM⟩ := gd_some hM
              refine gi_min S wm_1854 wm_761 wm_190 wm_762 hl.1 dX12_laysBags_51 ⟨Nat.le_of_ble_eq_true rfl, Nat.le_of_ble_eq_true rfl, Nat.le_of_ble_eq_true rfl, Nat.le_of_ble_eq_true rfl⟩ hg_15.1 hg_25 ?_
              obtain ⟨hg_26, hM⟩ := gd_some hM
              refine gi_icmp_gt (tgt := 106) hx hb dX12_laysBags_54 (by decide) hg_26.1 hg_26.2 (fun c_27 => ?_) (fun c_27 => ?_)
              · replace hM := ifp hM c_27
                cases hM
                exact hK_21 H locs ls hG (lv_sub hl [1, 2, 3, 4, 5, 6] rfl)
              · replace hM := ifn hM c_27
                refine lv_aload_n hx hb dX12_laysBags_57 rfl (lv_at hl 2 rfl) ?_
                refine m_get S hG 80 83 14 rfl ec_83 cpX12 wm_1687 dX12_laysBags_58 rfl (Nat.lt_of_lt_of_le (Nat.le_of_ble_eq_true rfl) hn) (by decide) ?_
                refine lv_iload_n hx hb dX12_laysBags_61 rfl (lv_at hl 3 rfl) ?_
                refine lv_iload hx hb dX12_laysBags_62 (lv_at hl 1 rfl) ?_
                refine lv_iload hx hb dX12_laysBags_64 (lv_at hl 0 rfl) ?_
                obtain ⟨r_29, hc_28, hM⟩ := bd1_some hM
                refine g_si (As := [.int (iI a1), .int (iI v_7), .int (iI v_17)]) (rest := [.ref (b + 87)]) S hG hsz (vX12_place l hn a1 v_7 v_17 hc_28) wS_12_276 dX12_laysBags_66 rfl hl.1 (ar := 3) (by decide +kernel) rfl ⟨Nat.le_of_ble_eq_true rfl, Nat.le_of_ble_eq_true rfl, Nat.le_of_ble_eq_true rfl, Nat.le_of_ble_eq_true rfl⟩ (Nat.le_of_ble_eq_true rfl) (fun rv uu H locs hp hG => ?_)
                obtain ⟨rfl, rfl⟩ := hp
                replace hG : gW D cy b n s H locs (enc b cy X S_18) := hG
                obtain ⟨hg_30, hM⟩ := gd_some hM
                refine mj_ald S hG 87 90 rfl ec_90 (Nat.lt_of_lt_of_le (Nat.le_of_ble_eq_true rfl) hn) dX12_laysBags_69 hg_30 (by decide) ?_
                refine lv_lconst (v := jJ 0) hx hb dX12_laysBags_70 (by decide) ?_
                obtain ⟨hg_31, hM⟩ := gd_some hM
                refine gj_cmp_le (tgt := 100) hx hb dX12_laysBags_71 dX12_laysBags_72 (by decide) hg_31 (by decide) (fun c_32 => ?_) (fun c_32 => ?_)
                · replace hM := ifp hM c_32
                  refine lv_iinc (v := iI (v_17 + 1)) (lv' := [(6, .int (iI (v_17 + 1))), (5, .int (iI v_7)), (0, .ref (b + 80)), (1, .int (iI a1)), (2, .int (iI a2)), (3, .int (iI a3)), (4, .int (iI a4))]) hx hb dX12_laysBags_100 hl (k := 0) rfl ((iI_add v_17 (1)).trans (congrArg iI (by omega))) (by decide) rfl (fun ls hl => ?_)
                  refine lv_goto (tgt := 46) hx hb dX12_laysBags_103 (by decide) ?_
                  exact ih_23 (v_17 + 1) S_18 H locs ls hM hG (lv_sub hl [0, 1, 2, 3, 4, 5, 6] rfl)
                · replace hM := ifn hM c_32
                  refine lv_aload_n hx hb dX12_laysBags_75 rfl (lv_at hl 2 rfl) ?_
                  refine lv_aload_n hx hb dX12_laysBags_76 rfl (lv_at hl 2 rfl) ?_
                  refine m_get S hG 80 83 14 rfl ec_83 cpX12 wm_1687 dX12_laysBags_77 rfl (Nat.lt_of_lt_of_le (Nat.le_of_ble_eq_true rfl) hn) (by decide) ?_
                  refine lv_iload_n hx hb dX12_laysBags_80 rfl (lv_at hl 3 rfl) ?_
                  refine lv_iload hx hb dX12_laysBags_81 (lv_at hl 1 rfl) ?_
                  refine lv_iload hx hb dX12_laysBags_83 (lv_at hl 0 rfl) ?_
                  obtain ⟨r_34, hc_33, hM⟩ := bd1_some hM
                  refine g_si (As := [.int (iI a1), .int (iI v_7), .int (iI v_17)]) (rest := [.ref (b + 87), .ref (b + 80)]) S hG hsz (vX12_place l hn a1 v_7 v_17 hc_33) wS_12_276 dX12_laysBags_85 rfl hl.1 (ar := 3) (by decide +kernel) rfl ⟨Nat.le_of_ble_eq_true rfl, Nat.le_of_ble_eq_true rfl, Nat.le_of_ble_eq_true rfl, Nat.le_of_ble_eq_true rfl⟩ (Nat.le_of_ble_eq_true rfl) (fun rv uu H locs hp hG => ?_)
                  obtain ⟨rfl, rfl⟩ := hp
                  replace hG : gW D cy b n s H locs (enc b cy X S_18) := hG
                  obtain ⟨hg_35, hM⟩ := gd_some hM
                  refine mj_ald S hG 87 90 rfl ec_90 (Nat.lt_of_lt_of_le (Nat.le_of_ble_eq_true rfl) hn) dX12_laysBags_88 hg_35 (by decide) ?_
                  refine lv_iload hx hb dX12_laysBags_89 (lv_at hl 1 rfl) ?_
                  refine lv_iload hx hb dX12_laysBags_91 (lv_at hl 0 rfl) ?_
                  refine lv_iload_n hx hb dX12_laysBags_93 rfl (lv_at hl 4 rfl) ?_
                  refine lv_iload_n hx hb dX12_laysBags_94 rfl (lv_at hl 5 rfl) ?_
                  refine lv_iload hx hb dX12_laysBags_95 (lv_at hl 6 rfl) ?_
                  obtain ⟨S_37, hc_36, hM⟩ := bd1_some hM
                  refine g_vv (As := [.long (jJ (S_18 90 r_34)), .int (iI v_7), .int (iI v_17), .int (iI a2), .int (iI a3), .int (iI a4)]) (rest := []) S hG hsz (vX12_addsBags l hn (S_18 90 r_34) v_7 v_17 a2 a3 a4 hc_36) wV_12_312 (ec_83 _) cpX12 (Nat.lt_of_lt_of_le (Nat.le_of_ble_eq_true rfl) hn) dX12_laysBags_97 rfl hl.1 (ar := 6) (by decide +kernel) rfl ⟨Nat.le_of_ble_eq_true rfl, Nat.le_of_ble_eq_true rfl, Nat.le_of_ble_eq_true rfl, Nat.le_of_ble_eq_true rfl⟩ (Nat.le_of_ble_eq_true rfl) (fun uu H locs hp hG => ?_)
                  obtain rfl := hp
                  replace hG : gW D cy b n s H locs (enc b cy X S_37) := hG
                  refine lv_iinc (v := iI (v_17 + 1)) (lv' := [(6, .int (iI (v_17 + 1))), (5, .int (iI v_7)), (0, .ref (b + 80)), (1, .int (iI a1)), (2, .int (iI a2)), (3, .int (iI a3)), (4, .int (iI a4))]) hx hb dX12_laysBags_100 hl (k := 0) rfl ((iI_add v_17 (1)).trans (congrArg iI (by omega))) (by decide) rfl (fun ls hl => ?_)
                  refine lv_goto (tgt := 46) hx hb dX12_laysBags_103 (by decide) ?_
                  exact ih_23 (v_17 + 1) S_37 H locs ls hM hG (lv_sub hl [0, 1, 2, 3, 4, 5, 6] rfl)
          exact loop_22 FU 0 S_8 H locs ls hc_20 hG (lv_sub hl [0, 1, 2, 3, 4, 5, 6] rfl)
    exact loop_12 FU 1 S_6 H locs ls hc_10 hG (lv_sub hl [0, 1, 2, 3, 4, 5] rfl)
  have loop_38 : ∀ (f : Nat) (v_1 : Int) (S_2 : St) (H : Heap) (locs : List Loc) (ls : Array Slot), mX12_laysBags_3 a1 a2 a3 a4 f v_1 S_2 = some S_3 → gW D cy b n s H locs (enc b cy X S_2) → lv_has ls 7 [(5, .int (iI v_1)), (0, .ref (b + 80)), (1, .int (iI a1)), (2, .int (iI a2)), (3, .int (iI a3)), (4, .int (iI a4))] → W p l e (gRm 3 0 0) s m args below meth c H locs 0 0 (gQV D cy b s args below 0 0 (fun u => u = (n, enc b cy X o1))) (F0 m 3 ls []) := by
    clear hM
    intro f
    induction f with
    | zero => intro v_1 S_2 H locs ls hM; rw [mX12_laysBags_3] at hM; cases hM
    | succ f_40 ih_39 =>
      intro v_1 S_2 H locs ls hM hG hl
      rw [mX12_laysBags_3] at hM
      refine lv_iload hx hb dX12_laysBags_3 (lv_at hl 0 rfl) ?_
      refine lv_aload_n hx hb dX12_laysBags_5 rfl (lv_at hl 1 rfl) ?_
      refine m_get S hG 80 83 16 rfl ec_83 cpX12 wm_1689 dX12_laysBags_6 rfl (Nat.lt_of_lt_of_le (Nat.le_of_ble_eq_true rfl) hn) (by decide) ?_
      refine m_alen S hG 89 2 ec_92 rfl (Nat.lt_of_lt_of_le (Nat.le_of_ble_eq_true rfl) hn) dX12_laysBags_9 (N := 512) (show Int32.ofNat 512 = iI 512 by decide) ?_
      obtain ⟨hg_41, hM⟩ := gd_some hM
      refine gi_icmp_ge (tgt := 27) hx hb dX12_laysBags_10 (by decide) hg_41 (by decide) (fun c_42 => ?_) (fun c_42 => ?_)
      · replace hM := ifp hM c_42
        cases hM
        exact hK_5 H locs ls hG (lv_sub hl [1, 2, 3, 4, 5] rfl)
      · replace hM := ifn hM c_42
        refine lv_aload_n hx hb dX12_laysBags_13 rfl (lv_at hl 1 rfl) ?_
        refine m_get S hG 80 83 16 rfl ec_83 cpX12 wm_1689 dX12_laysBags_14 rfl (Nat.lt_of_lt_of_le (Nat.le_of_ble_eq_true rfl) hn) (by decide) ?_
        refine lv_iload hx hb dX12_laysBags_17 (lv_at hl 0 rfl) ?_
        refine lv_lconst (v := jJ 0) hx hb dX12_laysBags_19 (by decide) ?_
        obtain ⟨hg_43, hM⟩ := gd_some hM
        refine mj_ast S hG 89 92 rfl ec_92 (Nat.lt_of_lt_of_le (Nat.le_of_ble_eq_true rfl) hn) dX12_laysBags_20 hg_43 (by decide) (fun H locs S_44 eS_44 hG => ?_)
        replace hM := nx_at hM eS_44
        clear eS_44
        refine lv_iinc (v := iI (v_1 + 1)) (lv' := [(5, .int (iI (v_1 + 1))), (0, .ref (b + 80)), (1, .int (iI a1)), (2, .int (iI a2)), (3, .int (iI a3)), (4, .int (iI a4))]) hx hb dX12_laysBags_21 hl (k := 0) rfl ((iI_add v_1 (1)).trans (congrArg iI (by omega))) (by decide) rfl (fun ls hl => ?_)
        refine lv_goto (tgt := 3) hx hb dX12_laysBags_24 (by decide) ?_
        exact ih_39 (v_1 + 1) S_44 H locs ls hM hG (lv_sub hl [0, 1, 2, 3, 4, 5] rfl)
  exact loop_38 FU 0 S0 H locs ls hc_4 hG (lv_sub hl [0, 1, 2, 3, 4, 5] rfl)
