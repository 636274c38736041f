theorem dX11_fault_0 : decode cX11_fault 0 = .ok (.iload_n 1, 1) := by decide +kernel
theorem dX11_fault_1 : decode cX11_fault 1 = .ok (.ifCond .ne 8, 3) := by decide +kernel
theorem dX11_fault_9 : decode cX11_fault 9 = .ok (.iload_n 1, 1) := by decide +kernel
theorem dX11_fault_10 : decode cX11_fault 10 = .ok (.iconst 1, 1) := by decide +kernel
theorem dX11_fault_11 : decode cX11_fault 11 = .ok (.if_icmp .ne 10, 3) := by decide +kernel
theorem dX11_fault_21 : decode cX11_fault 21 = .ok (.iconst (-1), 1) := by decide +kernel
theorem dX11_fault_22 : decode cX11_fault 22 = .ok (.ireturn, 1) := by decide +kernel
theorem dX11_fault_14 : decode cX11_fault 14 = .ok (.aload_n 0, 1) := by decide +kernel
theorem dX11_fault_15 : decode cX11_fault 15 = .ok (.getfield 36, 3) := by decide +kernel
theorem dX11_fault_18 : decode cX11_fault 18 = .ok (.goto 4, 3) := by decide +kernel
theorem dX11_fault_4 : decode cX11_fault 4 = .ok (.aload_n 0, 1) := by decide +kernel
theorem dX11_fault_5 : decode cX11_fault 5 = .ok (.getfield 33, 3) := by decide +kernel
theorem dX11_fault_8 : decode cX11_fault 8 = .ok (.ireturn, 1) := by decide +kernel
theorem dX11_told_0 : decode cX11_told 0 = .ok (.iload_n 1, 1) := by decide +kernel
theorem dX11_told_1 : decode cX11_told 1 = .ok (.ifCond .ne 8, 3) := by decide +kernel
theorem dX11_told_9 : decode cX11_told 9 = .ok (.iload_n 1, 1) := by decide +kernel
theorem dX11_told_10 : decode cX11_told 10 = .ok (.iconst 1, 1) := by decide +kernel
theorem dX11_told_11 : decode cX11_told 11 = .ok (.if_icmp .ne 10, 3) := by decide +kernel
theorem dX11_told_21 : decode cX11_told 21 = .ok (.iconst (-1), 1) := by decide +kernel
theorem dX11_told_22 : decode cX11_told 22 = .ok (.ireturn, 1) := by decide +kernel
theorem dX11_told_14 : decode cX11_told 14 = .ok (.aload_n 0, 1) := by decide +kernel
theorem dX11_told_15 : decode cX11_told 15 = .ok (.getfield 117, 3) := by decide +kernel
theorem dX11_told_18 : decode cX11_told 18 = .ok (.goto 4, 3) := by decide +kernel
theorem dX11_told_4 : decode cX11_told 4 = .ok (.aload_n 0, 1) := by decide +kernel
theorem dX11_told_5 : decode cX11_told 5 = .ok (.getfield 114, 3) := by decide +kernel
theorem dX11_told_8 : decode cX11_told 8 = .ok (.ireturn, 1) := by decide +kernel
theorem dX11_count_0 : decode cX11_count 0 = .ok (.iload_n 1, 1) := by decide +kernel
theorem dX11_count_1 : decode cX11_count 1 = .ok (.tableswitch 81 0 5 #[39, 47, 55, 63, 71, 76], 39) := by decide +kernel
theorem dX11_count_82 : decode cX11_count 82 = .ok (.iconst (-1), 1) := by decide +kernel
theorem dX11_count_83 : decode cX11_count 83 = .ok (.ireturn, 1) := by decide +kernel
theorem dX11_count_40 : decode cX11_count 40 = .ok (.aload_n 0, 1) := by decide +kernel
theorem dX11_count_41 : decode cX11_count 41 = .ok (.getfield 20, 3) := by decide +kernel
theorem dX11_count_44 : decode cX11_count 44 = .ok (.getfield 156, 3) := by decide +kernel
theorem dX11_count_47 : decode cX11_count 47 = .ok (.ireturn, 1) := by decide +kernel
theorem dX11_count_48 : decode cX11_count 48 = .ok (.aload_n 0, 1) := by decide +kernel
theorem dX11_count_49 : decode cX11_count 49 = .ok (.getfield 20, 3) := by decide +kernel
theorem dX11_count_52 : decode cX11_count 52 = .ok (.getfield 159, 3) := by decide +kernel
theorem dX11_count_55 : decode cX11_count 55 = .ok (.ireturn, 1) := by decide +kernel
theorem dX11_count_56 : decode cX11_count 56 = .ok (.aload_n 0, 1) := by decide +kernel
theorem dX11_count_57 : decode cX11_count 57 = .ok (.getfield 20, 3) := by decide +kernel
theorem dX11_count_60 : decode cX11_count 60 = .ok (.getfield 162, 3) := by decide +kernel
theorem wm_228 : (Jvm.Cond.fieldLink "GrownKinds" (162 : Nat) "GrownKinds$Grammar" "parts" "I") ∈ gT := gT_in (List.mem_of_getElem? (i := 228) (by decide +kernel)) (by decide +kernel)
theorem dX11_count_63 : decode cX11_count 63 = .ok (.ireturn, 1) := by decide +kernel
theorem dX11_count_64 : decode cX11_count 64 = .ok (.aload_n 0, 1) := by decide +kernel
theorem dX11_count_65 : decode cX11_count 65 = .ok (.getfield 20, 3) := by decide +kernel
theorem dX11_count_68 : decode cX11_count 68 = .ok (.getfield 165, 3) := by decide +kernel
theorem wm_224 : (Jvm.Cond.fieldLink "GrownKinds" (165 : Nat) "GrownKinds$Grammar" "lines" "I") ∈ gT := gT_in (List.mem_of_getElem? (i := 224) (by decide +kernel)) (by decide +kernel)
theorem dX11_count_71 : decode cX11_count 71 = .ok (.ireturn, 1) := by decide +kernel
theorem dX11_count_72 : decode cX11_count 72 = .ok (.aload_n 0, 1) := by decide +kernel
theorem dX11_count_73 : decode cX11_count 73 = .ok (.getfield 108, 3) := by decide +kernel
theorem dX11_count_76 : decode cX11_count 76 = .ok (.ireturn, 1) := by decide +kernel
theorem dX11_count_77 : decode cX11_count 77 = .ok (.aload_n 0, 1) := by decide +kernel
theorem dX11_count_78 : decode cX11_count 78 = .ok (.getfield 13, 3) := by decide +kernel
theorem dX11_count_81 : decode cX11_count 81 = .ok (.ireturn, 1) := by decide +kernel
theorem dX11_left_0 : decode cX11_left 0 = .ok (.aload_n 0, 1) := by decide +kernel
theorem dX11_left_1 : decode cX11_left 1 = .ok (.getfield 97, 3) := by decide +kernel
theorem dX11_left_4 : decode cX11_left 4 = .ok (.getfield 365, 3) := by decide +kernel
theorem wm_645 : (Jvm.Cond.fieldLink "GrownKinds" (365 : Nat) "GrownKinds$Dealer" "leftOver" "I") ∈ gT := gT_in (List.mem_of_getElem? (i := 645) (by decide +kernel)) (by decide +kernel)
theorem dX11_left_7 : decode cX11_left 7 = .ok (.ireturn, 1) := by decide +kernel
theorem dX12_fault_0 : decode cX12_fault 0 = .ok (.iload_n 1, 1) := by decide +kernel
theorem dX12_fault_1 : decode cX12_fault 1 = .ok (.ifCond .ne 10, 3) := by decide +kernel
theorem dX12_fault_11 : decode cX12_fault 11 = .ok (.iload_n 1, 1) := by decide +kernel
theorem dX12_fault_12 : decode cX12_fault 12 = .ok (.iconst 1, 1) := by decide +kernel
theorem dX12_fault_13 : decode cX12_fault 13 = .ok (.if_icmp .ne 10, 3) := by decide +kernel
theorem dX12_fault_23 : decode cX12_fault 23 = .ok (.iconst (-1), 1) := by decide +kernel
theorem dX12_fault_24 : decode cX12_fault 24 = .ok (.ireturn, 1) := by decide +kernel
theorem dX12_fault_16 : decode cX12_fault 16 = .ok (.aload_n 0, 1) := by decide +kernel
theorem dX12_fault_17 : decode cX12_fault 17 = .ok (.getfield 25, 3) := by decide +kernel
theorem dX12_fault_20 : decode cX12_fault 20 = .ok (.goto 4, 3) := by decide +kernel
theorem dX12_fault_4 : decode cX12_fault 4 = .ok (.aload_n 0, 1) := by decide +kernel
theorem dX12_fault_5 : decode cX12_fault 5 = .ok (.getfield 124, 3) := by decide +kernel
theorem wm_1678 : (Jvm.Cond.fieldLink "GrownKindsModel" (124 : Nat) "GrownKindsModel" "faultKind" "I") ∈ gT := gT_in (List.mem_of_getElem? (i := 1678) (by decide +kernel)) (by decide +kernel)
theorem dX12_fault_8 : decode cX12_fault 8 = .ok (.goto 16, 3) := by decide +kernel
theorem dX12_told_0 : decode cX12_told 0 = .ok (.iload_n 1, 1) := by decide +kernel
theorem dX12_told_1 : decode cX12_told 1 = .ok (.ifCond .ne 10, 3) := by decide +kernel
theorem dX12_told_11 : decode cX12_told 11 = .ok (.iload_n 1, 1) := by decide +kernel
theorem dX12_told_12 : decode cX12_told 12 = .ok (.iconst 1, 1) := by decide +kernel
theorem dX12_told_13 : decode cX12_told 13 = .ok (.if_icmp .ne 10, 3) := by decide +kernel
theorem dX12_told_23 : decode cX12_told 23 = .ok (.iconst (-1), 1) := by decide +kernel
theorem dX12_told_24 : decode cX12_told 24 = .ok (.ireturn, 1) := by decide +kernel
theorem dX12_told_16 : decode cX12_told 16 = .ok (.aload_n 0, 1) := by decide +kernel
theorem dX12_told_17 : decode cX12_told 17 = .ok (.getfield 88, 3) := by decide +kernel
theorem dX12_told_20 : decode cX12_told 20 = .ok (.goto 4, 3) := by decide +kernel
theorem dX12_told_4 : decode cX12_told 4 = .ok (.aload_n 0, 1) := by decide +kernel
theorem dX12_told_5 : decode cX12_told 5 = .ok (.getfield 85, 3) := by decide +kernel
theorem dX12_told_8 : decode cX12_told 8 = .ok (.goto 16, 3) := by decide +kernel
theorem dX12_count_0 : decode cX12_count 0 = .ok (.iload_n 1, 1) := by decide +kernel
theorem dX12_count_1 : decode cX12_count 1 = .ok (.tableswitch 79 0 5 #[39, 46, 53, 60, 67, 74], 39) := by decide +kernel
theorem dX12_count_80 : decode cX12_count 80 = .ok (.iconst (-1), 1) := by decide +kernel
theorem dX12_count_81 : decode cX12_count 81 = .ok (.ireturn, 1) := by decide +kernel
theorem dX12_count_40 : decode cX12_count 40 = .ok (.aload_n 0, 1) := by decide +kernel
theorem dX12_count_41 : decode cX12_count 41 = .ok (.getfield 15, 3) := by decide +kernel
theorem dX12_count_44 : decode cX12_count 44 = .ok (.iconst 0, 1) := by decide +kernel
theorem dX12_count_45 : decode cX12_count 45 = .ok (.iaload, 1) := by decide +kernel
theorem dX12_count_46 : decode cX12_count 46 = .ok (.ireturn, 1) := by decide +kernel
theorem dX12_count_47 : decode cX12_count 47 = .ok (.aload_n 0, 1) := by decide +kernel
theorem dX12_count_48 : decode cX12_count 48 = .ok (.getfield 15, 3) := by decide +kernel
theorem dX12_count_51 : decode cX12_count 51 = .ok (.iconst 1, 1) := by decide +kernel
theorem dX12_count_52 : decode cX12_count 52 = .ok (.iaload, 1) := by decide +kernel
theorem dX12_count_53 : decode cX12_count 53 = .ok (.ireturn, 1) := by decide +kernel
theorem dX12_count_54 : decode cX12_count 54 = .ok (.aload_n 0, 1) := by decide +kernel
theorem dX12_count_55 : decode cX12_count 55 = .ok (.getfield 15, 3) := by decide +kernel
theorem dX12_count_58 : decode cX12_count 58 = .ok (.iconst 2, 1) := by decide +kernel
theorem dX12_count_59 : decode cX12_count 59 = .ok (.iaload, 1) := by decide +kernel
theorem dX12_count_60 : decode cX12_count 60 = .ok (.ireturn, 1) := by decide +kernel
theorem dX12_count_61 : decode cX12_count 61 = .ok (.aload_n 0, 1) := by decide +kernel
theorem dX12_count_62 : decode cX12_count 62 = .ok (.getfield 15, 3) := by decide +kernel
theorem dX12_count_65 : decode cX12_count 65 = .ok (.iconst 3, 1) := by decide +kernel
theorem dX12_count_66 : decode cX12_count 66 = .ok (.iaload, 1) := by decide +kernel
theorem dX12_count_67 : decode cX12_count 67 = .ok (.ireturn, 1) := by decide +kernel
theorem dX12_count_68 : decode cX12_count 68 = .ok (.aload_n 0, 1) := by decide +kernel
theorem dX12_count_69 : decode cX12_count 69 = .ok (.getfield 15, 3) := by decide +kernel
theorem dX12_count_72 : decode cX12_count 72 = .ok (.iconst 4, 1) := by decide +kernel
theorem dX12_count_73 : decode cX12_count 73 = .ok (.iaload, 1) := by decide +kernel
theorem dX12_count_74 : decode cX12_count 74 = .ok (.ireturn, 1) := by decide +kernel
theorem dX12_count_75 : decode cX12_count 75 = .ok (.aload_n 0, 1) := by decide +kernel
theorem dX12_count_76 : decode cX12_count 76 = .ok (.getfield 94, 3) := by decide +kernel
theorem dX12_count_79 : decode cX12_count 79 = .ok (.ireturn, 1) := by decide +kernel
theorem dX12_left_0 : decode cX12_left 0 = .ok (.aload_n 0, 1) := by decide +kernel
theorem dX12_left_1 : decode cX12_left 1 = .ok (.getfield 222, 3) := by decide +kernel
theorem wm_1719 : (Jvm.Cond.fieldLink "GrownKindsModel" (222 : Nat) "GrownKindsModel" "isDealing" "Z") ∈ gT := gT_in (List.mem_of_getElem? (i := 1719) (by decide +kernel)) (by decide +kernel)
theorem dX12_left_4 : decode cX12_left 4 = .ok (.ifCond .eq 10, 3) := by decide +kernel
theorem dX12_left_14 : decode cX12_left 14 = .ok (.iconst 0, 1) := by decide +kernel
theorem dX12_left_15 : decode cX12_left 15 = .ok (.ireturn, 1) := by decide +kernel
theorem dX12_left_7 : decode cX12_left 7 = .ok (.aload_n 0, 1) := by decide +kernel
theorem dX12_left_8 : decode cX12_left 8 = .ok (.getfield 575, 3) := by decide +kernel
theorem wm_1723 : (Jvm.Cond.fieldLink "GrownKindsModel" (575 : Nat) "GrownKindsModel" "dealLeft" "I") ∈ gT := gT_in (List.mem_of_getElem? (i := 1723) (by decide +kernel)) (by decide +kernel)
theorem dX12_left_11 : decode cX12_left 11 = .ok (.goto 4, 3) := by decide +kernel
theorem dX12_isKind_0 : decode cX12_isKind 0 = .ok (.iload_n 1, 1) := by decide +kernel
theorem dX12_isKind_1 : decode cX12_isKind 1 = .ok (.i2l, 1) := by decide +kernel
theorem dX12_isKind_2 : decode cX12_isKind 2 = .ok (.lconst 0, 1) := by decide +kernel
theorem dX12_isKind_3 : decode cX12_isKind 3 = .ok (.aload_n 0, 1) := by decide +kernel
theorem dX12_isKind_4 : decode cX12_isKind 4 = .ok (.getfield 15, 3) := by decide +kernel
theorem dX12_isKind_7 : decode cX12_isKind 7 = .ok (.iconst 0, 1) := by decide +kernel
theorem dX12_isKind_8 : decode cX12_isKind 8 = .ok (.iaload, 1) := by decide +kernel
theorem dX12_isKind_9 : decode cX12_isKind 9 = .ok (.iconst 1, 1) := by decide +kernel
theorem dX12_isKind_10 : decode cX12_isKind 10 = .ok (.isub, 1) := by decide +kernel
theorem dX12_isKind_11 : decode cX12_isKind 11 = .ok (.i2l, 1) := by decide +kernel
theorem dX12_isKind_12 : decode cX12_isKind 12 = .ok (.invokestatic 97, 3) := by decide +kernel
theorem dX12_isKind_15 : decode cX12_isKind 15 = .ok (.ireturn, 1) := by decide +kernel
theorem dX12_isSize_0 : decode cX12_isSize 0 = .ok (.iload_n 1, 1) := by decide +kernel
theorem dX12_isSize_1 : decode cX12_isSize 1 = .ok (.i2l, 1) := by decide +kernel
theorem dX12_isSize_2 : decode cX12_isSize 2 = .ok (.lconst 0, 1) := by decide +kernel
theorem dX12_isSize_3 : decode cX12_isSize 3 = .ok (.aload_n 0, 1) := by decide +kernel
theorem dX12_isSize_4 : decode cX12_isSize 4 = .ok (.getfield 15, 3) := by decide +kernel
theorem dX12_isSize_7 : decode cX12_isSize 7 = .ok (.iconst 1, 1) := by decide +kernel
theorem dX12_isSize_8 : decode cX12_isSize 8 = .ok (.iaload, 1) := by decide +kernel
theorem dX12_isSize_9 : decode cX12_isSize 9 = .ok (.i2l, 1) := by decide +kernel
theorem dX12_isSize_10 : decode cX12_isSize 10 = .ok (.invokestatic 97, 3) := by decide +kernel
theorem dX12_isSize_13 : decode cX12_isSize 13 = .ok (.ireturn, 1) := by decide +kernel
theorem dX12_isTerm_0 : decode cX12_isTerm 0 = .ok (.aload_n 0, 1) := by decide +kernel
theorem dX12_isTerm_1 : decode cX12_isTerm 1 = .ok (.iload_n 1, 1) := by decide +kernel
theorem dX12_isTerm_2 : decode cX12_isTerm 2 = .ok (.invokevirtual 225, 3) := by decide +kernel
theorem wm_1982 : (Jvm.Cond.methodLink "GrownKindsModel" (225 : Nat) ({ cls := "GrownKindsModel", name := "isKind", desc := "(I)Z" } : Jvm.MethodName)) ∈ gT := gT_in (List.mem_of_getElem? (i := 1982) (by decide +kernel)) (by decide +kernel)
theorem wm_1984 : (Jvm.Cond.instanceMethod ({ cls := "GrownKindsModel", name := "isKind", desc := "(I)Z" } : Jvm.MethodName)) ∈ gT := gT_in (List.mem_of_getElem? (i := 1984) (by decide +kernel)) (by decide +kernel)
theorem wm_112 : Cond.selects "GrownKindsModel" ⟨"GrownKindsModel", "isKind", "(I)Z"⟩ ⟨"GrownKindsModel", "isKind", "(I)Z"⟩ ∈ gT := gT_in (List.mem_of_getElem? (i := 112) (by decide +kernel)) (by decide +kernel)
theorem wm_1985 : (Jvm.Cond.code ({ cls := "GrownKindsModel", name := "isKind", desc := "(I)Z" } : Jvm.MethodName) prog_14_method_30_code (2 : Nat) (Option.some Jvm.ClassFile.FieldType.boolean)) ∈ gT := gT_in (List.mem_of_getElem? (i := 1985) (by decide +kernel)) (by decide +kernel)
theorem dX12_isTerm_5 : decode cX12_isTerm 5 = .ok (.ifCond .eq 29, 3) := by decide +kernel
theorem dX12_isTerm_34 : decode cX12_isTerm 34 = .ok (.iconst 0, 1) := by decide +kernel
theorem dX12_isTerm_35 : decode cX12_isTerm 35 = .ok (.ireturn, 1) := by decide +kernel
theorem dX12_isTerm_8 : decode cX12_isTerm 8 = .ok (.iload_n 2, 1) := by decide +kernel
theorem dX12_isTerm_9 : decode cX12_isTerm 9 = .ok (.i2l, 1) := by decide +kernel
theorem dX12_isTerm_10 : decode cX12_isTerm 10 = .ok (.lconst 0, 1) := by decide +kernel
theorem dX12_isTerm_11 : decode cX12_isTerm 11 = .ok (.aload_n 0, 1) := by decide +kernel
theorem dX12_isTerm_12 : decode cX12_isTerm 12 = .ok (.getfield 15, 3) := by decide +kernel
theorem dX12_isTerm_15 : decode cX12_isTerm 15 = .ok (.sipush 198, 3) := by decide +kernel
theorem dX12_isTerm_18 : decode cX12_isTerm 18 = .ok (.iload_n 1, 1) := by decide +kernel
theorem dX12_isTerm_19 : decode cX12_isTerm 19 = .ok (.iadd, 1) := by decide +kernel
theorem dX12_isTerm_20 : decode cX12_isTerm 20 = .ok (.iaload, 1) := by decide +kernel
theorem dX12_isTerm_21 : decode cX12_isTerm 21 = .ok (.iconst 1, 1) := by decide +kernel
theorem dX12_isTerm_22 : decode cX12_isTerm 22 = .ok (.isub, 1) := by decide +kernel
theorem dX12_isTerm_23 : decode cX12_isTerm 23 = .ok (.i2l, 1) := by decide +kernel
theorem dX12_isTerm_24 : decode cX12_isTerm 24 = .ok (.invokestatic 97, 3) := by decide +kernel
theorem dX12_isTerm_27 : decode cX12_isTerm 27 = .ok (.ifCond .eq 7, 3) := by decide +kernel
theorem dX12_isTerm_30 : decode cX12_isTerm 30 = .ok (.iconst 1, 1) := by decide +kernel
theorem dX12_isTerm_31 : decode cX12_isTerm 31 = .ok (.goto 4, 3) := by decide +kernel
theorem dX12_terms_0 : decode cX12_terms 0 = .ok (.aload_n 0, 1) := by decide +kernel
theorem dX12_terms_1 : decode cX12_terms 1 = .ok (.iload_n 1, 1) := by decide +kernel
theorem dX12_terms_2 : decode cX12_terms 2 = .ok (.invokevirtual 225, 3) := by decide +kernel
theorem dX12_terms_5 : decode cX12_terms 5 = .ok (.ifCond .eq 16, 3) := by decide +kernel
theorem dX12_terms_21 : decode cX12_terms 21 = .ok (.bipush (-2), 2) := by decide +kernel
theorem dX12_terms_23 : decode cX12_terms 23 = .ok (.ireturn, 1) := by decide +kernel
theorem dX12_terms_8 : decode cX12_terms 8 = .ok (.aload_n 0, 1) := by decide +kernel
theorem dX12_terms_9 : decode cX12_terms 9 = .ok (.getfield 15, 3) := by decide +kernel
theorem dX12_terms_12 : decode cX12_terms 12 = .ok (.sipush 198, 3) := by decide +kernel
theorem dX12_terms_15 : decode cX12_terms 15 = .ok (.iload_n 1, 1) := by decide +kernel
theorem dX12_terms_16 : decode cX12_terms 16 = .ok (.iadd, 1) := by decide +kernel
theorem dX12_terms_17 : decode cX12_terms 17 = .ok (.iaload, 1) := by decide +kernel
theorem dX12_terms_18 : decode cX12_terms 18 = .ok (.goto 5, 3) := by decide +kernel
theorem dX12_off_0 : decode cX12_off 0 = .ok (.aload_n 0, 1) := by decide +kernel
theorem dX12_off_1 : decode cX12_off 1 = .ok (.iload_n 1, 1) := by decide +kernel
theorem dX12_off_2 : decode cX12_off 2 = .ok (.invokevirtual 225, 3) := by decide +kernel
theorem dX12_off_5 : decode cX12_off 5 = .ok (.ifCond .eq 15, 3) := by decide +kernel
theorem dX12_off_20 : decode cX12_off 20 = .ok (.bipush (-2), 2) := by decide +kernel
theorem dX12_off_22 : decode cX12_off 22 = .ok (.ireturn, 1) := by decide +kernel
theorem dX12_off_8 : decode cX12_off 8 = .ok (.aload_n 0, 1) := by decide +kernel
theorem dX12_off_9 : decode cX12_off 9 = .ok (.getfield 15, 3) := by decide +kernel
theorem dX12_off_12 : decode cX12_off 12 = .ok (.bipush 6, 2) := by decide +kernel
theorem dX12_off_14 : decode cX12_off 14 = .ok (.iload_n 1, 1) := by decide +kernel
theorem dX12_off_15 : decode cX12_off 15 = .ok (.iadd, 1) := by decide +kernel
theorem dX12_off_16 : decode cX12_off 16 = .ok (.iaload, 1) := by decide +kernel
theorem dX12_off_17 : decode cX12_off 17 = .ok (.goto 5, 3) := by decide +kernel
theorem dX12_isBox_0 : decode cX12_isBox 0 = .ok (.aload_n 0, 1) := by decide +kernel
theorem dX12_isBox_1 : decode cX12_isBox 1 = .ok (.iload_n 1, 1) := by decide +kernel
theorem dX12_isBox_2 : decode cX12_isBox 2 = .ok (.invokevirtual 225, 3) := by decide +kernel
theorem dX12_isBox_5 : decode cX12_isBox 5 = .ok (.ifCond .eq 28, 3) := by decide +kernel
theorem dX12_isBox_33 : decode cX12_isBox 33 = .ok (.iconst 0, 1) := by decide +kernel
theorem dX12_isBox_34 : decode cX12_isBox 34 = .ok (.ireturn, 1) := by decide +kernel
theorem dX12_isBox_8 : decode cX12_isBox 8 = .ok (.aload_n 0, 1) := by decide +kernel
theorem dX12_isBox_9 : decode cX12_isBox 9 = .ok (.iload_n 2, 1) := by decide +kernel
theorem dX12_isBox_10 : decode cX12_isBox 10 = .ok (.invokevirtual 334, 3) := by decide +kernel
theorem wm_2097 : (Jvm.Cond.methodLink "GrownKindsModel" (334 : Nat) ({ cls := "GrownKindsModel", name := "isSize", desc := "(I)Z" } : Jvm.MethodName)) ∈ gT := gT_in (List.mem_of_getElem? (i := 2097) (by decide +kernel)) (by decide +kernel)
theorem wm_2099 : (Jvm.Cond.instanceMethod ({ cls := "GrownKindsModel", name := "isSize", desc := "(I)Z" } : Jvm.MethodName)) ∈ gT := gT_in (List.mem_of_getElem? (i := 2099) (by decide +kernel)) (by decide +kernel)
theorem wm_126 : Cond.selects "GrownKindsModel" ⟨"GrownKindsModel", "isSize", "(I)Z"⟩ ⟨"GrownKindsModel", "isSize", "(I)Z"⟩ ∈ gT := gT_in (List.mem_of_getElem? (i := 126) (by decide +kernel)) (by decide +kernel)
theorem wm_2100 : (Jvm.Cond.code ({ cls := "GrownKindsModel", name := "isSize", desc := "(I)Z" } : Jvm.MethodName) prog_14_method_31_code (2 : Nat) (Option.some Jvm.ClassFile.FieldType.boolean)) ∈ gT := gT_in (List.mem_of_getElem? (i := 2100) (by decide +kernel)) (by decide +kernel)
theorem dX12_isBox_13 : decode cX12_isBox 13 = .ok (.ifCond .eq 20, 3) := by decide +kernel
theorem dX12_isBox_16 : decode cX12_isBox 16 = .ok (.aload_n 0, 1) := by decide +kernel
theorem dX12_isBox_17 : decode cX12_isBox 17 = .ok (.iload_n 3, 1) := by decide +kernel
theorem dX12_isBox_18 : decode cX12_isBox 18 = .ok (.invokevirtual 334, 3) := by decide +kernel
theorem dX12_isBox_21 : decode cX12_isBox 21 = .ok (.ifCond .eq 12, 3) := by decide +kernel
theorem dX12_isBox_24 : decode cX12_isBox 24 = .ok (.iload_n 2, 1) := by decide +kernel
theorem dX12_isBox_25 : decode cX12_isBox 25 = .ok (.iload_n 3, 1) := by decide +kernel
theorem dX12_isBox_26 : decode cX12_isBox 26 = .ok (.if_icmp .gt 7, 3) := by decide +kernel
theorem dX12_isBox_29 : decode cX12_isBox 29 = .ok (.iconst 1, 1) := by decide +kernel
theorem dX12_isBox_30 : decode cX12_isBox 30 = .ok (.goto 4, 3) := by decide +kernel
theorem dX12_place_0 : decode cX12_place 0 = .ok (.iload_n 0, 1) := by decide +kernel
theorem dX12_place_1 : decode cX12_place 1 = .ok (.bipush 8, 2) := by decide +kernel
theorem dX12_place_3 : decode cX12_place 3 = .ok (.imul, 1) := by decide +kernel
theorem dX12_place_4 : decode cX12_place 4 = .ok (.iload_n 1, 1) := by decide +kernel
theorem dX12_place_5 : decode cX12_place 5 = .ok (.iadd, 1) := by decide +kernel
theorem dX12_place_6 : decode cX12_place 6 = .ok (.bipush 8, 2) := by decide +kernel
theorem dX12_place_8 : decode cX12_place 8 = .ok (.imul, 1) := by decide +kernel
theorem dX12_place_9 : decode cX12_place 9 = .ok (.iload_n 2, 1) := by decide +kernel
theorem dX12_place_10 : decode cX12_place 10 = .ok (.iadd, 1) := by decide +kernel
theorem dX12_place_11 : decode cX12_place 11 = .ok (.ireturn, 1) := by decide +kernel
theorem dX12_less_0 : decode cX12_less 0 = .ok (.iload_n 0, 1) := by decide +kernel
theorem dX12_less_1 : decode cX12_less 1 = .ok (.ifCond .ge 7, 3) := by decide +kernel
theorem dX12_less_8 : decode cX12_less 8 = .ok (.iload_n 0, 1) := by decide +kernel
theorem dX12_less_9 : decode cX12_less 9 = .ok (.iconst 1, 1) := by decide +kernel
theorem dX12_less_10 : decode cX12_less 10 = .ok (.isub, 1) := by decide +kernel
theorem dX12_less_11 : decode cX12_less 11 = .ok (.ireturn, 1) := by decide +kernel
theorem dX12_less_4 : decode cX12_less 4 = .ok (.iconst (-1), 1) := by decide +kernel
theorem dX12_less_5 : decode cX12_less 5 = .ok (.goto 6, 3) := by decide +kernel
theorem dX12_turnsOf_0 : decode cX12_turnsOf 0 = .ok (.iload_n 0, 1) := by decide +kernel
theorem dX12_turnsOf_1 : decode cX12_turnsOf 1 = .ok (.iconst 3, 1) := by decide +kernel
theorem dX12_turnsOf_2 : decode cX12_turnsOf 2 = .ok (.if_icmp .ge 7, 3) := by decide +kernel
theorem dX12_turnsOf_9 : decode cX12_turnsOf 9 = .ok (.iload_n 0, 1) := by decide +kernel
theorem dX12_turnsOf_10 : decode cX12_turnsOf 10 = .ok (.iconst 5, 1) := by decide +kernel
theorem dX12_turnsOf_11 : decode cX12_turnsOf 11 = .ok (.if_icmp .ne 7, 3) := by decide +kernel
theorem dX12_turnsOf_18 : decode cX12_turnsOf 18 = .ok (.iload_n 0, 1) := by decide +kernel
theorem dX12_turnsOf_19 : decode cX12_turnsOf 19 = .ok (.bipush 7, 2) := by decide +kernel
theorem dX12_turnsOf_21 : decode cX12_turnsOf 21 = .ok (.if_icmp .ne 8, 3) := by decide +kernel
theorem dX12_turnsOf_29 : decode cX12_turnsOf 29 = .ok (.iconst 2, 1) := by decide +kernel
theorem dX12_turnsOf_30 : decode cX12_turnsOf 30 = .ok (.ireturn, 1) := by decide +kernel
theorem dX12_turnsOf_24 : decode cX12_turnsOf 24 = .ok (.bipush 6, 2) := by decide +kernel
theorem dX12_turnsOf_26 : decode cX12_turnsOf 26 = .ok (.goto 4, 3) := by decide +kernel
theorem dX12_turnsOf_14 : decode cX12_turnsOf 14 = .ok (.iconst 4, 1) := by decide +kernel
theorem dX12_turnsOf_15 : decode cX12_turnsOf 15 = .ok (.goto 15, 3) := by decide +kernel
theorem dX12_turnsOf_5 : decode cX12_turnsOf 5 = .ok (.iconst 1, 1) := by decide +kernel
theorem dX12_turnsOf_6 : decode cX12_turnsOf 6 = .ok (.goto 24, 3) := by decide +kernel
theorem dX12_mul_0 : decode cX12_mul 0 = .ok (.lload_n 0, 1) := by decide +kernel
theorem dX12_mul_1 : decode cX12_mul 1 = .ok (.lconst 0, 1) := by decide +kernel
theorem dX12_mul_2 : decode cX12_mul 2 = .ok (.lcmp, 1) := by decide +kernel
theorem dX12_mul_3 : decode cX12_mul 3 = .ok (.ifCond .eq 9, 3) := by decide +kernel
theorem dX12_mul_12 : decode cX12_mul 12 = .ok (.lconst 0, 1) := by decide +kernel
theorem dX12_mul_13 : decode cX12_mul 13 = .ok (.lreturn, 1) := by decide +kernel
theorem dX12_mul_6 : decode cX12_mul 6 = .ok (.lload_n 2, 1) := by decide +kernel
theorem dX12_mul_7 : decode cX12_mul 7 = .ok (.lconst 0, 1) := by decide +kernel
theorem dX12_mul_8 : decode cX12_mul 8 = .ok (.lcmp, 1) := by decide +kernel
theorem dX12_mul_9 : decode cX12_mul 9 = .ok (.ifCond .ne 5, 3) := by decide +kernel
theorem dX12_mul_14 : decode cX12_mul 14 = .ok (.lload_n 0, 1) := by decide +kernel
theorem dX12_mul_15 : decode cX12_mul 15 = .ok (.lload 4, 2) := by decide +kernel
theorem dX12_mul_17 : decode cX12_mul 17 = .ok (.lload_n 2, 1) := by decide +kernel
theorem dX12_mul_18 : decode cX12_mul 18 = .ok (.ldiv, 1) := by decide +kernel
theorem dX12_mul_19 : decode cX12_mul 19 = .ok (.lcmp, 1) := by decide +kernel
theorem dX12_mul_20 : decode cX12_mul 20 = .ok (.ifCond .le 8, 3) := by decide +kernel
theorem dX12_mul_28 : decode cX12_mul 28 = .ok (.lload_n 0, 1) := by decide +kernel
theorem dX12_mul_29 : decode cX12_mul 29 = .ok (.lload_n 2, 1) := by decide +kernel
theorem dX12_mul_30 : decode cX12_mul 30 = .ok (.lmul, 1) := by decide +kernel
theorem dX12_mul_31 : decode cX12_mul 31 = .ok (.lreturn, 1) := by decide +kernel
theorem dX12_mul_23 : decode cX12_mul 23 = .ok (.lload 4, 2) := by decide +kernel
theorem dX12_mul_25 : decode cX12_mul 25 = .ok (.goto 6, 3) := by decide +kernel
theorem dX12_add_0 : decode cX12_add 0 = .ok (.lload 4, 2) := by decide +kernel
theorem dX12_add_2 : decode cX12_add 2 = .ok (.lload_n 0, 1) := by decide +kernel
theorem dX12_add_3 : decode cX12_add 3 = .ok (.lload_n 2, 1) := by decide +kernel
theorem dX12_add_4 : decode cX12_add 4 = .ok (.ladd, 1) := by decide +kernel
theorem dX12_add_5 : decode cX12_add 5 = .ok (.invokestatic 1, 3) := by decide +kernel
theorem wm_2046 : (Jvm.Cond.methodLink "GrownKindsModel" (1 : Nat) ({ cls := "java/lang/Math", name := "min", desc := "(JJ)J" } : Jvm.MethodName)) ∈ gT := gT_in (List.mem_of_getElem? (i := 2046) (by decide +kernel)) (by decide +kernel)
theorem dX12_add_8 : decode cX12_add 8 = .ok (.lreturn, 1) := by decide +kernel
set_option maxHeartbeats 4000000 in
set_option maxRecDepth 100000 in
theorem wX11_fault (l : Launch) {D : va_G} {cy : Nat → ClassId} {b n : Nat} (hn : 105 ≤ n) {E : Nat → va_E}  {tapeSize0 faultNumber0 faultPlace0 actCount0 stamp0 toldSize0 toldRank0 : Int} (h0 : E 0 = O0 b tapeSize0 faultNumber0 faultPlace0 actCount0 stamp0 toldSize0 toldRank0) (a1 : Int) (hb1 : (-2147483648 ≤ a1 ∧ a1 ≤ 2147483647)) : gI l yX11_fault cX11_fault 2 (some .int) 0 0 0 D cy b n E [.ref (b + 0), .int (iI a1)] (fun r u => r = iI (if a1 = 0 then faultNumber0 else if a1 = 1 then faultPlace0 else -1) ∧ u.1 = n ∧ u.2 = E) := by
  refine gI_of (by decide) (Nat.le_of_ble_eq_true rfl) ?_
  intro p e s m args below meth c S hr hlk hin hsz ls hl hG
  have hx := S.1
  have hb := S.2.1
  have hl : lv_has ls 2 [(0, .ref (b + 0)), (1, .int (iI a1))] := hl
  refine lv_iload_n hx hb dX11_fault_0 rfl (lv_at hl 1 rfl) ?_
  refine gi_if_ne (tgt := 9) hx hb dX11_fault_1 (by decide) (by omega) (fun c_1 => ?_) (fun c_1 => ?_)
  · refine lv_iload_n hx hb dX11_fault_9 rfl (lv_at hl 1 rfl) ?_
    refine lv_iconst (v := iI 1) hx hb dX11_fault_10 (by decide) ?_
    refine gi_icmp_ne (tgt := 21) hx hb dX11_fault_11 (by decide) (by omega) (by omega) (fun c_2 => ?_) (fun c_2 => ?_)
    · refine lv_iconst (v := iI (-1)) hx hb dX11_fault_21 (by decide) ?_
      exact g_iret S hr hlk hG (by omega) dX11_fault_22 ⟨Nat.le_of_ble_eq_true rfl, Nat.le_of_ble_eq_true rfl⟩ ⟨congrArg iI (by subst_vars; first | rfl | omega | ((repeat' split) <;> omega)), rfl, rfl⟩
    · refine lv_aload_n hx hb dX11_fault_14 rfl (lv_at hl 0 rfl) ?_
      refine g_get S hG 0 5 (show gEof hG 0 = O0 b tapeSize0 faultNumber0 faultPlace0 actCount0 stamp0 toldSize0 toldRank0 from h0) cpX11 wm_671 dX11_fault_15 rfl (by omega) (by decide) ?_
      refine lv_goto (tgt := 22) hx hb dX11_fault_18 (by decide) ?_
      exact g_iret S hr hlk hG (by omega) dX11_fault_22 ⟨Nat.le_of_ble_eq_true rfl, Nat.le_of_ble_eq_true rfl⟩ ⟨congrArg iI (by subst_vars; first | rfl | omega | ((repeat' split) <;> omega)), rfl, rfl⟩
  · refine lv_aload_n hx hb dX11_fault_4 rfl (lv_at hl 0 rfl) ?_
    refine g_get S hG 0 4 (show gEof hG 0 = O0 b tapeSize0 faultNumber0 faultPlace0 actCount0 stamp0 toldSize0 toldRank0 from h0) cpX11 wm_670 dX11_fault_5 rfl (by omega) (by decide) ?_
    exact g_iret S hr hlk hG (by omega) dX11_fault_8 ⟨Nat.le_of_ble_eq_true rfl, Nat.le_of_ble_eq_true rfl⟩ ⟨congrArg iI (by subst_vars; first | rfl | omega | ((repeat' split) <;> omega)), rfl, rfl⟩
set_option maxHeartbeats 4000000 in
set_option maxRecDepth 100000 in
theorem wX11_told (l : Launch) {D : va_G} {cy : Nat → ClassId} {b n : Nat} (hn : 105 ≤ n) {E : Nat → va_E}  {tapeSize0 faultNumber0 faultPlace0 actCount0 stamp0 toldSize0 toldRank0 : Int} (h0 : E 0 = O0 b tapeSize0 faultNumber0 faultPlace0 actCount0 stamp0 toldSize0 toldRank0) (a1 : Int) (hb1 : (-2147483648 ≤ a1 ∧ a1 ≤ 2147483647)) : gI l yX11_told cX11_told 2 (some .int) 0 0 0 D cy b n E [.ref (b + 0), .int (iI a1)] (fun r u => r = iI (if a1 = 0 then toldSize0 else if a1 = 1 then toldRank0 else -1) ∧ u.1 = n ∧ u.2 = E) := by
  refine gI_of (by decide) (Nat.le_of_ble_eq_true rfl) ?_
  intro p e s m args below meth c S hr hlk hin hsz ls hl hG
  have hx := S.1
  have hb := S.2.1
  have hl : lv_has ls 2 [(0, .ref (b + 0)), (1, .int (iI a1))] := hl
  refine lv_iload_n hx hb dX11_told_0 rfl (lv_at hl 1 rfl) ?_
  refine gi_if_ne (tgt := 9) hx hb dX11_told_1 (by decide) (by omega) (fun c_1 => ?_) (fun c_1 => ?_)
  · refine lv_iload_n hx hb dX11_told_9 rfl (lv_at hl 1 rfl) ?_
    refine lv_iconst (v := iI 1) hx hb dX11_told_10 (by decide) ?_
    refine gi_icmp_ne (tgt := 21) hx hb dX11_told_11 (by decide) (by omega) (by omega) (fun c_2 => ?_) (fun c_2 => ?_)
    · refine lv_iconst (v := iI (-1)) hx hb dX11_told_21 (by decide) ?_
      exact g_iret S hr hlk hG (by omega) dX11_told_22 ⟨Nat.le_of_ble_eq_true rfl, Nat.le_of_ble_eq_true rfl⟩ ⟨congrArg iI (by subst_vars; first | rfl | omega | ((repeat' split) <;> omega)), rfl, rfl⟩
    · refine lv_aload_n hx hb dX11_told_14 rfl (lv_at hl 0 rfl) ?_
      refine g_get S hG 0 18 (show gEof hG 0 = O0 b tapeSize0 faultNumber0 faultPlace0 actCount0 stamp0 toldSize0 toldRank0 from h0) cpX11 wm_684 dX11_told_15 rfl (by omega) (by decide) ?_
      refine lv_goto (tgt := 22) hx hb dX11_told_18 (by decide) ?_
      exact g_iret S hr hlk hG (by omega) dX11_told_22 ⟨Nat.le_of_ble_eq_true rfl, Nat.le_of_ble_eq_true rfl⟩ ⟨congrArg iI (by subst_vars; first | rfl | omega | ((repeat' split) <;> omega)), rfl, rfl⟩
  · refine lv_aload_n hx hb dX11_told_4 rfl (lv_at hl 0 rfl) ?_
    refine g_get S hG 0 17 (show gEof hG 0 = O0 b tapeSize0 faultNumber0 faultPlace0 actCount0 stamp0 toldSize0 toldRank0 from h0) cpX11 wm_683 dX11_told_5 rfl (by omega) (by decide) ?_
    exact g_iret S hr hlk hG (by omega) dX11_told_8 ⟨Nat.le_of_ble_eq_true rfl, Nat.le_of_ble_eq_true rfl⟩ ⟨congrArg iI (by subst_vars; first | rfl | omega | ((repeat' split) <;> omega)), rfl, rfl⟩
set_option maxHeartbeats 4000000 in
set_option maxRecDepth 100000 in
theorem wX11_count (l : Launch) {D : va_G} {cy : Nat → ClassId} {b n : Nat} (hn : 105 ≤ n) {E : Nat → va_E}  {tapeSize0 faultNumber0 faultPlace0 actCount0 stamp0 toldSize0 toldRank0 most2 kinds2 lines2 parts2 steps2 : Int} (h0 : E 0 = O0 b tapeSize0 faultNumber0 faultPlace0 actCount0 stamp0 toldSize0 toldRank0) (h2 : E 2 = O2 b most2 kinds2 lines2 parts2 steps2) (a1 : Int) (hb1 : (-2147483648 ≤ a1 ∧ a1 ≤ 2147483647)) : gI l yX11_count cX11_count 2 (some .int) 0 0 0 D cy b n E [.ref (b + 0), .int (iI a1)] (fun r u => r = iI (if a1 = 0 then kinds2 else if a1 = 1 then most2 else if a1 = 2 then parts2 else if a1 = 3 then lines2 else if a1 = 4 then actCount0 else if a1 = 5 then tapeSize0 else -1) ∧ u.1 = n ∧ u.2 = E) := by
  refine gI_of (by decide) (Nat.le_of_ble_eq_true rfl) ?_
  intro p e s m args below meth c S hr hlk hin hsz ls hl hG
  have hx := S.1
  have hb := S.2.1
  have hl : lv_has ls 2 [(0, .ref (b + 0)), (1, .int (iI a1))] := hl
  refine lv_iload_n hx hb dX11_count_0 rfl (lv_at hl 1 rfl) ?_
  rcases (show (a1 < 0 ∨ 5 < a1) ∨ a1 = 0 ∨ a1 = 1 ∨ a1 = 2 ∨ a1 = 3 ∨ a1 = 4 ∨ a1 = 5 by omega) with hs_1 | hs_1 | hs_1 | hs_1 | hs_1 | hs_1 | hs_1
  · refine gi_tsO (tgt := 82) hx hb dX11_count_1 (by omega) hs_1 (by decide) ?_
    refine lv_iconst (v := iI (-1)) hx hb dX11_count_82 (by decide) ?_
    exact g_iret S hr hlk hG (by omega) dX11_count_83 ⟨Nat.le_of_ble_eq_true rfl, Nat.le_of_ble_eq_true rfl⟩ ⟨congrArg iI (by subst_vars; first | rfl | omega | ((repeat' split) <;> omega)), rfl, rfl⟩
  · refine gi_tsI (off := 39) (tgt := 40) hx hb 0 dX11_count_1 (by omega) (by omega) (by omega) (by rfl) (by decide) ?_
    refine lv_aload_n hx hb dX11_count_40 rfl (lv_at hl 0 rfl) ?_
    refine g_get S hG 0 2 (show gEof hG 0 = O0 b tapeSize0 faultNumber0 faultPlace0 actCount0 stamp0 toldSize0 toldRank0 from h0) cpX11 wm_668 dX11_count_41 rfl (by omega) (by decide) ?_
    refine g_get S hG 2 1 (show gEof hG 2 = O2 b most2 kinds2 lines2 parts2 steps2 from h2) cpX2 wm_221 dX11_count_44 rfl (by omega) (by decide) ?_
    exact g_iret S hr hlk hG (by omega) dX11_count_47 ⟨Nat.le_of_ble_eq_true rfl, Nat.le_of_ble_eq_true rfl⟩ ⟨congrArg iI (by subst_vars; first | rfl | omega | ((repeat' split) <;> omega)), rfl, rfl⟩
  · refine gi_tsI (off := 47) (tgt := 48) hx hb 1 dX11_count_1 (by omega) (by omega) (by omega) (by rfl) (by decide) ?_
    refine lv_aload_n hx hb dX11_count_48 rfl (lv_at hl 0 rfl) ?_
    refine g_get S hG 0 2 (show gEof hG 0 = O0 b tapeSize0 faultNumber0 faultPlace0 actCount0 stamp0 toldSize0 toldRank0 from h0) cpX11 wm_668 dX11_count_49 rfl (by omega) (by decide) ?_
    refine g_get S hG 2 0 (show gEof hG 2 = O2 b most2 kinds2 lines2 parts2 steps2 from h2) cpX2 wm_214 dX11_count_52 rfl (by omega) (by decide) ?_
    exact g_iret S hr hlk hG (by omega) dX11_count_55 ⟨Nat.le_of_ble_eq_true rfl, Nat.le_of_ble_eq_true rfl⟩ ⟨congrArg iI (by subst_vars; first | rfl | omega | ((repeat' split) <;> omega)), rfl, rfl⟩
  · refine gi_tsI (off := 55) (tgt := 56) hx hb 2 dX11_count_1 (by omega) (by omega) (by omega) (by rfl) (by decide) ?_
    refine lv_aload_n hx hb dX11_count_56 rfl (lv_at hl 0 rfl) ?_
    refine g_get S hG 0 2 (show gEof hG 0 = O0 b tapeSize0 faultNumber0 faultPlace0 actCount0 stamp0 toldSize0 toldRank0 from h0) cpX11 wm_668 dX11_count_57 rfl (by omega) (by decide) ?_
    refine g_get S hG 2 3 (show gEof hG 2 = O2 b most2 kinds2 lines2 parts2 steps2 from h2) cpX2 wm_228 dX11_count_60 rfl (by omega) (by decide) ?_
    exact g_iret S hr hlk hG (by omega) dX11_count_63 ⟨Nat.le_of_ble_eq_true rfl, Nat.le_of_ble_eq_true rfl⟩ ⟨congrArg iI (by subst_vars; first | rfl | omega | ((repeat' split) <;> omega)), rfl, rfl⟩
  · refine gi_tsI (off := 63) (tgt := 64) hx hb 3 dX11_count_1 (by omega) (by omega) (by omega) (by rfl) (by decide) ?_
    refine lv_aload_n hx hb dX11_count_64 rfl (lv_at hl 0 rfl) ?_
    refine g_get S hG 0 2 (show gEof hG 0 = O0 b tapeSize0 faultNumber0 faultPlace0 actCount0 stamp0 toldSize0 toldRank0 from h0) cpX11 wm_668 dX11_count_65 rfl (by omega) (by decide) ?_
    refine g_get S hG 2 2 (show gEof hG 2 = O2 b most2 kinds2 lines2 parts2 steps2 from h2) cpX2 wm_224 dX11_count_68 rfl (by omega) (by decide) ?_
    exact g_iret S hr hlk hG (by omega) dX11_count_71 ⟨Nat.le_of_ble_eq_true rfl, Nat.le_of_ble_eq_true rfl⟩ ⟨congrArg iI (by subst_vars; first | rfl | omega | ((repeat' split) <;> omega)), rfl, rfl⟩
  · refine gi_tsI (off := 71) (tgt := 72) hx hb 4 dX11_count_1 (by omega) (by omega) (by omega) (by rfl) (by decide) ?_
    refine lv_aload_n hx hb dX11_count_72 rfl (lv_at hl 0 rfl) ?_
    refine g_get S hG 0 15 (show gEof hG 0 = O0 b tapeSize0 faultNumber0 faultPlace0 actCount0 stamp0 toldSize0 toldRank0 from h0) cpX11 wm_681 dX11_count_73 rfl (by omega) (by decide) ?_
    exact g_iret S hr hlk hG (by omega) dX11_count_76 ⟨Nat.le_of_ble_eq_true rfl, Nat.le_of_ble_eq_true rfl⟩ ⟨congrArg iI (by subst_vars; first | rfl | omega | ((repeat' split) <;> omega)), rfl, rfl⟩
  · refine gi_tsI (off := 76) (tgt := 77) hx hb 5 dX11_count_1 (by omega) (by omega) (by omega) (by rfl) (by decide) ?_
    refine lv_aload_n hx hb dX11_count_77 rfl (lv_at hl 0 rfl) ?_
    refine g_get S hG 0 1 (show gEof hG 0 = O0 b tapeSize0 faultNumber0 faultPlace0 actCount0 stamp0 toldSize0 toldRank0 from h0) cpX11 wm_667 dX11_count_78 rfl (by omega) (by decide) ?_
    exact g_iret S hr hlk hG (by omega) dX11_count_81 ⟨Nat.le_of_ble_eq_true rfl, Nat.le_of_ble_eq_true rfl⟩ ⟨congrArg iI (by subst_vars; first | rfl | omega | ((repeat' split) <;> omega)), rfl, rfl⟩
set_option maxHeartbeats 4000000 in
set_option maxRecDepth 100000 in
theorem wX11_left (l : Launch) {D : va_G} {cy : Nat → ClassId} {b n : Nat} (hn : 105 ≤ n) {E : Nat → va_E}  {tapeSize0 faultNumber0 faultPlace0 actCount0 stamp0 toldSize0 toldRank0 leftOver80 kind80 low80 many80 mask80 place80 : Int} (h0 : E 0 = O0 b tapeSize0 faultNumber0 faultPlace0 actCount0 stamp0 toldSize0 toldRank0) (h80 : E 80 = O80 b leftOver80 kind80 low80 many80 mask80 place80)   : gI l yX11_left cX11_left 1 (some .int) 0 0 0 D cy b n E [.ref (b + 0)] (fun r u => r = iI (leftOver80) ∧ u.1 = n ∧ u.2 = E) := by
  refine gI_of (by decide) (Nat.le_of_ble_eq_true rfl) ?_
  intro p e s m args below meth c S hr hlk hin hsz ls hl hG
  have hx := S.1
  have hb := S.2.1
  have hl : lv_has ls 1 [(0, .ref (b + 0))] := hl
  refine lv_aload_n hx hb dX11_left_0 rfl (lv_at hl 0 rfl) ?_
  refine g_get S hG 0 12 (show gEof hG 0 = O0 b tapeSize0 faultNumber0 faultPlace0 actCount0 stamp0 toldSize0 toldRank0 from h0) cpX11 wm_678 dX11_left_1 rfl (by omega) (by decide) ?_
  refine g_get S hG 80 1 (show gEof hG 80 = O80 b leftOver80 kind80 low80 many80 mask80 place80 from h80) cpX1 wm_645 dX11_left_4 rfl (by omega) (by decide) ?_
  exact g_iret S hr hlk hG (by omega) dX11_left_7 ⟨Nat.le_of_ble_eq_true rfl, Nat.le_of_ble_eq_true rfl⟩ ⟨congrArg iI (by subst_vars; first | rfl | omega | ((repeat' split) <;> omega)), rfl, rfl⟩
set_option maxHeartbeats 4000000 in
set_option maxRecDepth 100000 in
theorem wX12_fault (l : Launch) {D : va_G} {cy : Nat → ClassId} {b n : Nat} (hn : 105 ≤ n) {E : Nat → va_E}  {taped83 faultKind83 faultPlace83 at83 begin83 token83 value83 bad83 long083 wanted83 found83 deepMost83 letterAsked83 letterMany83 turns83 topTerm83 top83 left83 nodes83 sourceLong83 read83 toldSize83 toldRank83 boxSize83 isDealing83 dealKind83 dealLow83 dealMany83 dealLeft83 dealRound83 dealX83 : Int} (h83 : E 83 = O83 b taped83 faultKind83 faultPlace83 at83 begin83 token83 value83 bad83 long083 wanted83 found83 deepMost83 letterAsked83 letterMany83 turns83 topTerm83 top83 left83 nodes83 sourceLong83 read83 toldSize83 toldRank83 boxSize83 isDealing83 dealKind83 dealLow83 dealMany83 dealLeft83 dealRound83 dealX83) (a1 : Int) (hb1 : (-2147483648 ≤ a1 ∧ a1 ≤ 2147483647)) : gI l yX12_fault cX12_fault 2 (some .int) 0 0 0 D cy b n E [.ref (b + 83), .int (iI a1)] (fun r u => r = iI (if a1 = 0 then faultKind83 else if a1 = 1 then faultPlace83 else -1) ∧ u.1 = n ∧ u.2 = E) := by
  refine gI_of (by decide) (Nat.le_of_ble_eq_true rfl) ?_
  intro p e s m args below meth c S hr hlk hin hsz ls hl hG
  have hx := S.1
  have hb := S.2.1
  have hl : lv_has ls 2 [(0, .ref (b + 83)), (1, .int (iI a1))] := hl
  refine lv_iload_n hx hb dX12_fault_0 rfl (lv_at hl 1 rfl) ?_
  refine gi_if_ne (tgt := 11) hx hb dX12_fault_1 (by decide) (by omega) (fun c_1 => ?_) (fun c_1 => ?_)
  · refine lv_iload_n hx hb dX12_fault_11 rfl (lv_at hl 1 rfl) ?_
    refine lv_iconst (v := iI 1) hx hb dX12_fault_12 (by decide) ?_
    refine gi_icmp_ne (tgt := 23) hx hb dX12_fault_13 (by decide) (by omega) (by omega) (fun c_2 => ?_) (fun c_2 => ?_)
    · refine lv_iconst (v := iI (-1)) hx hb dX12_fault_23 (by decide) ?_
      exact g_iret S hr hlk hG (by omega) dX12_fault_24 ⟨Nat.le_of_ble_eq_true rfl, Nat.le_of_ble_eq_true rfl⟩ ⟨congrArg iI (by subst_vars; first | rfl | omega | ((repeat' split) <;> omega)), rfl, rfl⟩
    · refine lv_aload_n hx hb dX12_fault_16 rfl (lv_at hl 0 rfl) ?_
      refine g_get S hG 83 5 (show gEof hG 83 = O83 b taped83 faultKind83 faultPlace83 at83 begin83 token83 value83 bad83 long083 wanted83 found83 deepMost83 letterAsked83 letterMany83 turns83 topTerm83 top83 left83 nodes83 sourceLong83 read83 toldSize83 toldRank83 boxSize83 isDealing83 dealKind83 dealLow83 dealMany83 dealLeft83 dealRound83 dealX83 from h83) cpX12 wm_1679 dX12_fault_17 rfl (by omega) (by decide) ?_
      refine lv_goto (tgt := 24) hx hb dX12_fault_20 (by decide) ?_
      exact g_iret S hr hlk hG (by omega) dX12_fault_24 ⟨Nat.le_of_ble_eq_true rfl, Nat.le_of_ble_eq_true rfl⟩ ⟨congrArg iI (by subst_vars; first | rfl | omega | ((repeat' split) <;> omega)), rfl, rfl⟩
  · refine lv_aload_n hx hb dX12_fault_4 rfl (lv_at hl 0 rfl) ?_
    refine g_get S hG 83 4 (show gEof hG 83 = O83 b taped83 faultKind83 faultPlace83 at83 begin83 token83 value83 bad83 long083 wanted83 found83 deepMost83 letterAsked83 letterMany83 turns83 topTerm83 top83 left83 nodes83 sourceLong83 read83 toldSize83 toldRank83 boxSize83 isDealing83 dealKind83 dealLow83 dealMany83 dealLeft83 dealRound83 dealX83 from h83) cpX12 wm_1678 dX12_fault_5 rfl (by omega) (by decide) ?_
    refine lv_goto (tgt := 24) hx hb dX12_fault_8 (by decide) ?_
    exact g_iret S hr hlk hG (by omega) dX12_fault_24 ⟨Nat.le_of_ble_eq_true rfl, Nat.le_of_ble_eq_true rfl⟩ ⟨congrArg iI (by subst_vars; first | rfl | omega | ((repeat' split) <;> omega)), rfl, rfl⟩
set_option maxHeartbeats 4000000 in
set_option maxRecDepth 100000 in
theorem wX12_told (l : Launch) {D : va_G} {cy : Nat → ClassId} {b n : Nat} (hn : 105 ≤ n) {E : Nat → va_E}  {taped83 faultKind83 faultPlace83 at83 begin83 token83 value83 bad83 long083 wanted83 found83 deepMost83 letterAsked83 letterMany83 turns83 topTerm83 top83 left83 nodes83 sourceLong83 read83 toldSize83 toldRank83 boxSize83 isDealing83 dealKind83 dealLow83 dealMany83 dealLeft83 dealRound83 dealX83 : Int} (h83 : E 83 = O83 b taped83 faultKind83 faultPlace83 at83 begin83 token83 value83 bad83 long083 wanted83 found83 deepMost83 letterAsked83 letterMany83 turns83 topTerm83 top83 left83 nodes83 sourceLong83 read83 toldSize83 toldRank83 boxSize83 isDealing83 dealKind83 dealLow83 dealMany83 dealLeft83 dealRound83 dealX83) (a1 : Int) (hb1 : (-2147483648 ≤ a1 ∧ a1 ≤ 2147483647)) : gI l yX12_told cX12_told 2 (some .int) 0 0 0 D cy b n E [.ref (b + 83), .int (iI a1)] (fun r u => r = iI (if a1 = 0 then toldSize83 else if a1 = 1 then toldRank83 else -1) ∧ u.1 = n ∧ u.2 = E) := by
  refine gI_of (by decide) (Nat.le_of_ble_eq_true rfl) ?_
  intro p e s m args below meth c S hr hlk hin hsz ls hl hG
  have hx := S.1
  have hb := S.2.1
  have hl : lv_has ls 2 [(0, .ref (b + 83)), (1, .int (iI a1))] := hl
  refine lv_iload_n hx hb dX12_told_0 rfl (lv_at hl 1 rfl) ?_
  refine gi_if_ne (tgt := 11) hx hb dX12_told_1 (by decide) (by omega) (fun c_1 => ?_) (fun c_1 => ?_)
  · refine lv_iload_n hx hb dX12_told_11 rfl (lv_at hl 1 rfl) ?_
    refine lv_iconst (v := iI 1) hx hb dX12_told_12 (by decide) ?_
    refine gi_icmp_ne (tgt := 23) hx hb dX12_told_13 (by decide) (by omega) (by omega) (fun c_2 => ?_) (fun c_2 => ?_)
    · refine lv_iconst (v := iI (-1)) hx hb dX12_told_23 (by decide) ?_
      exact g_iret S hr hlk hG (by omega) dX12_told_24 ⟨Nat.le_of_ble_eq_true rfl, Nat.le_of_ble_eq_true rfl⟩ ⟨congrArg iI (by subst_vars; first | rfl | omega | ((repeat' split) <;> omega)), rfl, rfl⟩
    · refine lv_aload_n hx hb dX12_told_16 rfl (lv_at hl 0 rfl) ?_
      refine g_get S hG 83 43 (show gEof hG 83 = O83 b taped83 faultKind83 faultPlace83 at83 begin83 token83 value83 bad83 long083 wanted83 found83 deepMost83 letterAsked83 letterMany83 turns83 topTerm83 top83 left83 nodes83 sourceLong83 read83 toldSize83 toldRank83 boxSize83 isDealing83 dealKind83 dealLow83 dealMany83 dealLeft83 dealRound83 dealX83 from h83) cpX12 wm_1717 dX12_told_17 rfl (by omega) (by decide) ?_
      refine lv_goto (tgt := 24) hx hb dX12_told_20 (by decide) ?_
      exact g_iret S hr hlk hG (by omega) dX12_told_24 ⟨Nat.le_of_ble_eq_true rfl, Nat.le_of_ble_eq_true rfl⟩ ⟨congrArg iI (by subst_vars; first | rfl | omega | ((repeat' split) <;> omega)), rfl, rfl⟩
  · refine lv_aload_n hx hb dX12_told_4 rfl (lv_at hl 0 rfl) ?_
    refine g_get S hG 83 42 (show gEof hG 83 = O83 b taped83 faultKind83 faultPlace83 at83 begin83 token83 value83 bad83 long083 wanted83 found83 deepMost83 letterAsked83 letterMany83 turns83 topTerm83 top83 left83 nodes83 sourceLong83 read83 toldSize83 toldRank83 boxSize83 isDealing83 dealKind83 dealLow83 dealMany83 dealLeft83 dealRound83 dealX83 from h83) cpX12 wm_1716 dX12_told_5 rfl (by omega) (by decide) ?_
    refine lv_goto (tgt := 24) hx hb dX12_told_8 (by decide) ?_
    exact g_iret S hr hlk hG (by omega) dX12_told_24 ⟨Nat.le_of_ble_eq_true rfl, Nat.le_of_ble_eq_true rfl⟩ ⟨congrArg iI (by subst_vars; first | rfl | omega | ((repeat' split) <;> omega)), rfl, rfl⟩
set_option maxHeartbeats 4000000 in
set_option maxRecDepth 100000 in
theorem wX12_count (l : Launch) {D : va_G} {cy : Nat → ClassId} {b n : Nat} (hn : 105 ≤ n) {E : Nat → va_E}  {taped83 faultKind83 faultPlace83 at83 begin83 token83 value83 bad83 long083 wanted83 found83 deepMost83 letterAsked83 letterMany83 turns83 topTerm83 top83 left83 nodes83 sourceLong83 read83 toldSize83 toldRank83 boxSize83 isDealing83 dealKind83 dealLow83 dealMany83 dealLeft83 dealRound83 dealX83 : Int} {mm : Nat → Int} (h83 : E 83 = O83 b taped83 faultKind83 faultPlace83 at83 begin83 token83 value83 bad83 long083 wanted83 found83 deepMost83 letterAsked83 letterMany83 turns83 topTerm83 top83 left83 nodes83 sourceLong83 read83 toldSize83 toldRank83 boxSize83 isDealing83 dealKind83 dealLow83 dealMany83 dealLeft83 dealRound83 dealX83) (h84 : E 84 = cI cy 228 mm) (a1 : Int) (hmm : ∀ j, -1000000 ≤ mm j ∧ mm j ≤ 1000000) (hb1 : (-2147483648 ≤ a1 ∧ a1 ≤ 2147483647)) : gI l yX12_count cX12_count 2 (some .int) 0 0 0 D cy b n E [.ref (b + 83), .int (iI a1)] (fun r u => r = iI (if a1 = 0 then mm 0 else if a1 = 1 then mm 1 else if a1 = 2 then mm 2 else if a1 = 3 then mm 3 else if a1 = 4 then mm 4 else if a1 = 5 then taped83 else -1) ∧ u.1 = n ∧ u.2 = E) := by
  refine gI_of (by decide) (Nat.le_of_ble_eq_true rfl) ?_
  intro p e s m args below meth c S hr hlk hin hsz ls hl hG
  have hx := S.1
  have hb := S.2.1
  have hl : lv_has ls 2 [(0, .ref (b + 83)), (1, .int (iI a1))] := hl
  refine lv_iload_n hx hb dX12_count_0 rfl (lv_at hl 1 rfl) ?_
  rcases (show (a1 < 0 ∨ 5 < a1) ∨ a1 = 0 ∨ a1 = 1 ∨ a1 = 2 ∨ a1 = 3 ∨ a1 = 4 ∨ a1 = 5 by omega) with hs_1 | hs_1 | hs_1 | hs_1 | hs_1 | hs_1 | hs_1
  · refine gi_tsO (tgt := 80) hx hb dX12_count_1 (by omega) hs_1 (by decide) ?_
    refine lv_iconst (v := iI (-1)) hx hb dX12_count_80 (by decide) ?_
    exact g_iret S hr hlk hG (by omega) dX12_count_81 ⟨Nat.le_of_ble_eq_true rfl, Nat.le_of_ble_eq_true rfl⟩ ⟨congrArg iI (by subst_vars; first | rfl | omega | ((repeat' split) <;> omega)), rfl, rfl⟩
  · refine gi_tsI (off := 39) (tgt := 40) hx hb 0 dX12_count_1 (by omega) (by omega) (by omega) (by rfl) (by decide) ?_
    refine lv_aload_n hx hb dX12_count_40 rfl (lv_at hl 0 rfl) ?_
    refine g_get S hG 83 0 (show gEof hG 83 = O83 b taped83 faultKind83 faultPlace83 at83 begin83 token83 value83 bad83 long083 wanted83 found83 deepMost83 letterAsked83 letterMany83 turns83 topTerm83 top83 left83 nodes83 sourceLong83 read83 toldSize83 toldRank83 boxSize83 isDealing83 dealKind83 dealLow83 dealMany83 dealLeft83 dealRound83 dealX83 from h83) cpX12 wm_1674 dX12_count_41 rfl (by omega) (by decide) ?_
    refine lv_iconst (v := iI 0) hx hb dX12_count_44 (by decide) ?_
    refine gi_ald S hG 84 (show gEof hG 84 = cI cy 228 mm from h84) (by omega) dX12_count_45 (by omega) (by decide) ?_
    refine gi_as (mm 0) rfl ?_
    refine gi_nm (fun x_2 ex_2 => ?_)
    have bx_2 := hmm 0
    exact g_iret S hr hlk hG (by omega) dX12_count_46 ⟨Nat.le_of_ble_eq_true rfl, Nat.le_of_ble_eq_true rfl⟩ ⟨congrArg iI (by subst_vars; first | rfl | omega | ((repeat' split) <;> omega)), rfl, rfl⟩
  · refine gi_tsI (off := 46) (tgt := 47) hx hb 1 dX12_count_1 (by omega) (by omega) (by omega) (by rfl) (by decide) ?_
    refine lv_aload_n hx hb dX12_count_47 rfl (lv_at hl 0 rfl) ?_
    refine g_get S hG 83 0 (show gEof hG 83 = O83 b taped83 faultKind83 faultPlace83 at83 begin83 token83 value83 bad83 long083 wanted83 found83 deepMost83 letterAsked83 letterMany83 turns83 topTerm83 top83 left83 nodes83 sourceLong83 read83 toldSize83 toldRank83 boxSize83 isDealing83 dealKind83 dealLow83 dealMany83 dealLeft83 dealRound83 dealX83 from h83) cpX12 wm_1674 dX12_count_48 rfl (by omega) (by decide) ?_
    refine lv_iconst (v := iI 1) hx hb dX12_count_51 (by decide) ?_
    refine gi_ald S hG 84 (show gEof hG 84 = cI cy 228 mm from h84) (by omega) dX12_count_52 (by omega) (by decide) ?_
    refine gi_as (mm 1) rfl ?_
    refine gi_nm (fun x_3 ex_3 => ?_)
    have bx_3 := hmm 1
    exact g_iret S hr hlk hG (by omega) dX12_count_53 ⟨Nat.le_of_ble_eq_true rfl, Nat.le_of_ble_eq_true rfl⟩ ⟨congrArg iI (by subst_vars; first | rfl | omega | ((repeat' split) <;> omega)), rfl, rfl⟩
  · refine gi_tsI (off := 53) (tgt := 54) hx hb 2 dX12_count_1 (by omega) (by omega) (by omega) (by rfl) (by decide) ?_
    refine lv_aload_n hx hb dX12_count_54 rfl (lv_at hl 0 rfl) ?_
    refine g_get S hG 83 0 (show gEof hG 83 = O83 b taped83 faultKind83 faultPlace83 at83 begin83 token83 value83 bad83 long083 wanted83 found83 deepMost83 letterAsked83 letterMany83 turns83 topTerm83 top83 left83 nodes83 sourceLong83 read83 toldSize83 toldRank83 boxSize83 isDealing83 dealKind83 dealLow83 dealMany83 dealLeft83 dealRound83 dealX83 from h83) cpX12 wm_1674 dX12_count_55 rfl (by omega) (by decide) ?_
    refine lv_iconst (v := iI 2) hx hb dX12_count_58 (by decide) ?_
    refine gi_ald S hG 84 (show gEof hG 84 = cI cy 228 mm from h84) (by omega) dX12_count_59 (by omega) (by decide) ?_
    refine gi_as (mm 2) rfl ?_
    refine gi_nm (fun x_4 ex_4 => ?_)
    have bx_4 := hmm 2
    exact g_iret S hr hlk hG (by omega) dX12_count_60 ⟨Nat.le_of_ble_eq_true rfl, Nat.le_of_ble_eq_true rfl⟩ ⟨congrArg iI (by subst_vars; first | rfl | omega | ((repeat' split) <;> omega)), rfl, rfl⟩
  · refine gi_tsI (off := 60) (tgt := 61) hx hb 3 dX12_count_1 (by omega) (by omega) (by omega) (by rfl) (by decide) ?_
    refine lv_aload_n hx hb dX12_count_61 rfl (lv_at hl 0 rfl) ?_
    refine g_get S hG 83 0 (show gEof hG 83 = O83 b taped83 faultKind83 faultPlace83 at83 begin83 token83 value83 bad83 long083 wanted83 found83 deepMost83 letterAsked83 letterMany83 turns83 topTerm83 top83 left83 nodes83 sourceLong83 read83 toldSize83 toldRank83 boxSize83 isDealing83 dealKind83 dealLow83 dealMany83 dealLeft83 dealRound83 dealX83 from h83) cpX12 wm_1674 dX12_count_62 rfl (by omega) (by decide) ?_
    refine lv_iconst (v := iI 3) hx hb dX12_count_65 (by decide) ?_
    refine gi_ald S hG 84 (show gEof hG 84 = cI cy 228 mm from h84) (by omega) dX12_count_66 (by omega) (by decide) ?_
    refine gi_as (mm 3) rfl ?_
    refine gi_nm (fun x_5 ex_5 => ?_)
    have bx_5 := hmm 3
    exact g_iret S hr hlk hG (by omega) dX12_count_67 ⟨Nat.le_of_ble_eq_true rfl, Nat.le_of_ble_eq_true rfl⟩ ⟨congrArg iI (by subst_vars; first | rfl | omega | ((repeat' split) <;> omega)), rfl, rfl⟩
  · refine gi_tsI (off := 67) (tgt := 68) hx hb 4 dX12_count_1 (by omega) (by omega) (by omega) (by rfl) (by decide) ?_
    refine lv_aload_n hx hb dX12_count_68 rfl (lv_at hl 0 rfl) ?_
    refine g_get S hG 83 0 (show gEof hG 83 = O83 b taped83 faultKind83 faultPlace83 at83 begin83 token83 value83 bad83 long083 wanted83 found83 deepMost83 letterAsked83 letterMany83 turns83 topTerm83 top83 left83 nodes83 sourceLong83 read83 toldSize83 toldRank83 boxSize83 isDealing83 dealKind83 dealLow83 dealMany83 dealLeft83 dealRound83 dealX83 from h83) cpX12 wm_1674 dX12_count_69 rfl (by omega) (by decide) ?_
    refine lv_iconst (v := iI 4) hx hb dX12_count_72 (by decide) ?_
    refine gi_ald S hG 84 (show gEof hG 84 = cI cy 228 mm from h84) (by omega) dX12_count_73 (by omega) (by decide) ?_
    refine gi_as (mm 4) rfl ?_
    refine gi_nm (fun x_6 ex_6 => ?_)
    have bx_6 := hmm 4
    exact g_iret S hr hlk hG (by omega) dX12_count_74 ⟨Nat.le_of_ble_eq_true rfl, Nat.le_of_ble_eq_true rfl⟩ ⟨congrArg iI (by subst_vars; first | rfl | omega | ((repeat' split) <;> omega)), rfl, rfl⟩
  · refine gi_tsI (off := 74) (tgt := 75) hx hb 5 dX12_count_1 (by omega) (by omega) (by omega) (by rfl) (by decide) ?_
    refine lv_aload_n hx hb dX12_count_75 rfl (lv_at hl 0 rfl) ?_
    refine g_get S hG 83 3 (show gEof hG 83 = O83 b taped83 faultKind83 faultPlace83 at83 begin83 token83 value83 bad83 long083 wanted83 found83 deepMost83 letterAsked83 letterMany83 turns83 topTerm83 top83 left83 nodes83 sourceLong83 read83 toldSize83 toldRank83 boxSize83 isDealing83 dealKind83 dealLow83 dealMany83 dealLeft83 dealRound83 dealX83 from h83) cpX12 wm_1677 dX12_count_76 rfl (by omega) (by decide) ?_
    exact g_iret S hr hlk hG (by omega) dX12_count_79 ⟨Nat.le_of_ble_eq_true rfl, Nat.le_of_ble_eq_true rfl⟩ ⟨congrArg iI (by subst_vars; first | rfl | omega | ((repeat' split) <;> omega)), rfl, rfl⟩
set_option maxHeartbeats 4000000 in
set_option maxRecDepth 100000 in
theorem wX12_left (l : Launch) {D : va_G} {cy : Nat → ClassId} {b n : Nat} (hn : 105 ≤ n) {E : Nat → va_E}  {taped83 faultKind83 faultPlace83 at83 begin83 token83 value83 bad83 long083 wanted83 found83 deepMost83 letterAsked83 letterMany83 turns83 topTerm83 top83 left83 nodes83 sourceLong83 read83 toldSize83 toldRank83 boxSize83 isDealing83 dealKind83 dealLow83 dealMany83 dealLeft83 dealRound83 dealX83 : Int} (h83 : E 83 = O83 b taped83 faultKind83 faultPlace83 at83 begin83 token83 value83 bad83 long083 wanted83 found83 deepMost83 letterAsked83 letterMany83 turns83 topTerm83 top83 left83 nodes83 sourceLong83 read83 toldSize83 toldRank83 boxSize83 isDealing83 dealKind83 dealLow83 dealMany83 dealLeft83 dealRound83 dealX83)  (hid : isDealing83 = 0 ∨ isDealing83 = 1) : gI l yX12_left cX12_left 1 (some .int) 0 0 0 D cy b n E [.ref (b + 83)] (fun r u => r = iI (if isDealing83 = 1 then dealLeft83 else 0) ∧ u.1 = n ∧ u.2 = E) := by
  refine gI_of (by decide) (Nat.le_of_ble_eq_true rfl) ?_
  intro p e s m args below meth c S hr hlk hin hsz ls hl hG
  have hx := S.1
  have hb := S.2.1
  have hl : lv_has ls 1 [(0, .ref (b + 83))] := hl
  refine lv_aload_n hx hb dX12_left_0 rfl (lv_at hl 0 rfl) ?_
  refine g_get S hG 83 45 (show gEof hG 83 = O83 b taped83 faultKind83 faultPlace83 at83 begin83 token83 value83 bad83 long083 wanted83 found83 deepMost83 letterAsked83 letterMany83 turns83 topTerm83 top83 left83 nodes83 sourceLong83 read83 toldSize83 toldRank83 boxSize83 isDealing83 dealKind83 dealLow83 dealMany83 dealLeft83 dealRound83 dealX83 from h83) cpX12 wm_1719 dX12_left_1 rfl (by omega) (by decide) ?_
  refine gi_if_eq (tgt := 14) hx hb dX12_left_4 (by decide) (by omega) (fun c_1 => ?_) (fun c_1 => ?_)
  · refine lv_iconst (v := iI 0) hx hb dX12_left_14 (by decide) ?_
    exact g_iret S hr hlk hG (by omega) dX12_left_15 ⟨Nat.le_of_ble_eq_true rfl, Nat.le_of_ble_eq_true rfl⟩ ⟨congrArg iI (by subst_vars; first | rfl | omega | ((repeat' split) <;> omega)), rfl, rfl⟩
  · refine lv_aload_n hx hb dX12_left_7 rfl (lv_at hl 0 rfl) ?_
    refine g_get S hG 83 49 (show gEof hG 83 = O83 b taped83 faultKind83 faultPlace83 at83 begin83 token83 value83 bad83 long083 wanted83 found83 deepMost83 letterAsked83 letterMany83 turns83 topTerm83 top83 left83 nodes83 sourceLong83 read83 toldSize83 toldRank83 boxSize83 isDealing83 dealKind83 dealLow83 dealMany83 dealLeft83 dealRound83 dealX83 from h83) cpX12 wm_1723 dX12_left_8 rfl (by omega) (by decide) ?_
    refine lv_goto (tgt := 15) hx hb dX12_left_11 (by decide) ?_
    exact g_iret S hr hlk hG (by omega) dX12_left_15 ⟨Nat.le_of_ble_eq_true rfl, Nat.le_of_ble_eq_true rfl⟩ ⟨congrArg iI (by subst_vars; first | rfl | omega | ((repeat' split) <;> omega)), rfl, rfl⟩
set_option maxHeartbeats 4000000 in
set_option maxRecDepth 100000 in
theorem wX12_isKind (l : Launch) {D : va_G} {cy : Nat → ClassId} {b n : Nat} (hn : 105 ≤ n) {E : Nat → va_E}  {taped83 faultKind83 faultPlace83 at83 begin83 token83 value83 bad83 long083 wanted83 found83 deepMost83 letterAsked83 letterMany83 turns83 topTerm83 top83 left83 nodes83 sourceLong83 read83 toldSize83 toldRank83 boxSize83 isDealing83 dealKind83 dealLow83 dealMany83 dealLeft83 dealRound83 dealX83 : Int} {mm : Nat → Int} (h83 : E 83 = O83 b taped83 faultKind83 faultPlace83 at83 begin83 token83 value83 bad83 long083 wanted83 found83 deepMost83 letterAsked83 letterMany83 turns83 topTerm83 top83 left83 nodes83 sourceLong83 read83 toldSize83 toldRank83 boxSize83 isDealing83 dealKind83 dealLow83 dealMany83 dealLeft83 dealRound83 dealX83) (h84 : E 84 = cI cy 228 mm) (a1 : Int) (hmm : ∀ j, -1000000 ≤ mm j ∧ mm j ≤ 1000000) (hm0 : 0 ≤ mm 0 ∧ mm 0 ≤ 6) (hb1 : (-2147483648 ≤ a1 ∧ a1 ≤ 2147483647)) : gI l yX12_isKind cX12_isKind 2 (some .boolean) 1 0 0 D cy b n E [.ref (b + 83), .int (iI a1)] (fun r u => r = iI (if 0 ≤ a1 ∧ a1 < mm 0 then 1 else 0) ∧ u.1 = n ∧ u.2 = E) := by
  refine gI_of (by decide) (Nat.le_of_ble_eq_true rfl) ?_
  intro p e s m args below meth c S hr hlk hin hsz ls hl hG
  have hx := S.1
  have hb := S.2.1
  have hl : lv_has ls 2 [(0, .ref (b + 83)), (1, .int (iI a1))] := hl
  refine lv_iload_n hx hb dX12_isKind_0 rfl (lv_at hl 1 rfl) ?_
  refine gi_i2l hx hb dX12_isKind_1 (by omega) ?_
  refine lv_lconst (v := jJ 0) hx hb dX12_isKind_2 (by decide) ?_
  refine lv_aload_n hx hb dX12_isKind_3 rfl (lv_at hl 0 rfl) ?_
  refine g_get S hG 83 0 (show gEof hG 83 = O83 b taped83 faultKind83 faultPlace83 at83 begin83 token83 value83 bad83 long083 wanted83 found83 deepMost83 letterAsked83 letterMany83 turns83 topTerm83 top83 left83 nodes83 sourceLong83 read83 toldSize83 toldRank83 boxSize83 isDealing83 dealKind83 dealLow83 dealMany83 dealLeft83 dealRound83 dealX83 from h83) cpX12 wm_1674 dX12_isKind_4 rfl (by omega) (by decide) ?_
  refine lv_iconst (v := iI 0) hx hb dX12_isKind_7 (by decide) ?_
  refine gi_ald S hG 84 (show gEof hG 84 = cI cy 228 mm from h84) (by omega) dX12_isKind_8 (by omega) (by decide) ?_
  refine gi_as (mm 0) rfl ?_
  refine gi_nm (fun x_1 ex_1 => ?_)
  have bx_1 := hmm 0
  refine lv_iconst (v := iI 1) hx hb dX12_isKind_9 (by decide) ?_
  refine gi_sub hx hb dX12_isKind_10 ?_
  refine gi_i2l hx hb dX12_isKind_11 (by omega) ?_
  refine g_si (As := [.long (jJ a1), .long (jJ 0), .long (jJ (x_1 - 1))]) (rest := []) S hG (by omega) (wX12_in l hn  a1 0 (x_1 - 1)  (by omega) (by omega) (by omega)) wS_12_97 dX12_isKind_12 rfl hl.1 (ar := 3) (by decide +kernel) rfl ⟨Nat.le_of_ble_eq_true rfl, Nat.le_of_ble_eq_true rfl, Nat.le_of_ble_eq_true rfl, Nat.le_of_ble_eq_true rfl⟩ (Nat.le_of_ble_eq_true rfl) (fun r_2 u_3 H locs hp_4 hG => ?_)
  obtain ⟨nu_3, Eu_3⟩ := u_3
  dsimp only at hp_4 hG
  obtain ⟨rfl, en_5, ee_6⟩ := hp_4
  have hG := gW_eq2 hG en_5 ee_6
  refine gi_nm (fun x_7 ex_7 => ?_)
  exact g_zret S hr hlk hG (by omega) dX12_isKind_15 ⟨Nat.le_of_ble_eq_true rfl, Nat.le_of_ble_eq_true rfl⟩ (nar_z (by omega)) ⟨congrArg iI (by subst_vars; first | rfl | omega | ((repeat' split) <;> omega)), rfl, rfl⟩
set_option maxHeartbeats 4000000 in
set_option maxRecDepth 100000 in
theorem wX12_isSize (l : Launch) {D : va_G} {cy : Nat → ClassId} {b n : Nat} (hn : 105 ≤ n) {E : Nat → va_E}  {taped83 faultKind83 faultPlace83 at83 begin83 token83 value83 bad83 long083 wanted83 found83 deepMost83 letterAsked83 letterMany83 turns83 topTerm83 top83 left83 nodes83 sourceLong83 read83 toldSize83 toldRank83 boxSize83 isDealing83 dealKind83 dealLow83 dealMany83 dealLeft83 dealRound83 dealX83 : Int} {mm : Nat → Int} (h83 : E 83 = O83 b taped83 faultKind83 faultPlace83 at83 begin83 token83 value83 bad83 long083 wanted83 found83 deepMost83 letterAsked83 letterMany83 turns83 topTerm83 top83 left83 nodes83 sourceLong83 read83 toldSize83 toldRank83 boxSize83 isDealing83 dealKind83 dealLow83 dealMany83 dealLeft83 dealRound83 dealX83) (h84 : E 84 = cI cy 228 mm) (a1 : Int) (hmm : ∀ j, -1000000 ≤ mm j ∧ mm j ≤ 1000000) (hm1 : 0 ≤ mm 1 ∧ mm 1 ≤ 7) (hb1 : (-2147483648 ≤ a1 ∧ a1 ≤ 2147483647)) : gI l yX12_isSize cX12_isSize 2 (some .boolean) 1 0 0 D cy b n E [.ref (b + 83), .int (iI a1)] (fun r u => r = iI (if 0 ≤ a1 ∧ a1 ≤ mm 1 then 1 else 0) ∧ u.1 = n ∧ u.2 = E) := by
  refine gI_of (by decide) (Nat.le_of_ble_eq_true rfl) ?_
  intro p e s m args below meth c S hr hlk hin hsz ls hl hG
  have hx := S.1
  have hb := S.2.1
  have hl : lv_has ls 2 [(0, .ref (b + 83)), (1, .int (iI a1))] := hl
  refine lv_iload_n hx hb dX12_isSize_0 rfl (lv_at hl 1 rfl) ?_
  refine gi_i2l hx hb dX12_isSize_1 (by omega) ?_
  refine lv_lconst (v := jJ 0) hx hb dX12_isSize_2 (by decide) ?_
  refine lv_aload_n hx hb dX12_isSize_3 rfl (lv_at hl 0 rfl) ?_
  refine g_get S hG 83 0 (show gEof hG 83 = O83 b taped83 faultKind83 faultPlace83 at83 begin83 token83 value83 bad83 long083 wanted83 found83 deepMost83 letterAsked83 letterMany83 turns83 topTerm83 top83 left83 nodes83 sourceLong83 read83 toldSize83 toldRank83 boxSize83 isDealing83 dealKind83 dealLow83 dealMany83 dealLeft83 dealRound83 dealX83 from h83) cpX12 wm_1674 dX12_isSize_4 rfl (by omega) (by decide) ?_
  refine lv_iconst (v := iI 1) hx hb dX12_isSize_7 (by decide) ?_
  refine gi_ald S hG 84 (show gEof hG 84 = cI cy 228 mm from h84) (by omega) dX12_isSize_8 (by omega) (by decide) ?_
  refine gi_as (mm 1) rfl ?_
  refine gi_nm (fun x_1 ex_1 => ?_)
  have bx_1 := hmm 1
  refine gi_i2l hx hb dX12_isSize_9 (by omega) ?_
  refine g_si (As := [.long (jJ a1), .long (jJ 0), .long (jJ x_1)]) (rest := []) S hG (by omega) (wX12_in l hn  a1 0 x_1  (by omega) (by omega) (by omega)) wS_12_97 dX12_isSize_10 rfl hl.1 (ar := 3) (by decide +kernel) rfl ⟨Nat.le_of_ble_eq_true rfl, Nat.le_of_ble_eq_true rfl, Nat.le_of_ble_eq_true rfl, Nat.le_of_ble_eq_true rfl⟩ (Nat.le_of_ble_eq_true rfl) (fun r_2 u_3 H locs hp_4 hG => ?_)
  obtain ⟨nu_3, Eu_3⟩ := u_3
  dsimp only at hp_4 hG
  obtain ⟨rfl, en_5, ee_6⟩ := hp_4
  have hG := gW_eq2 hG en_5 ee_6
  refine gi_nm (fun x_7 ex_7 => ?_)
  exact g_zret S hr hlk hG (by omega) dX12_isSize_13 ⟨Nat.le_of_ble_eq_true rfl, Nat.le_of_ble_eq_true rfl⟩ (nar_z (by omega)) ⟨congrArg iI (by subst_vars; first | rfl | omega | ((repeat' split) <;> omega)), rfl, rfl⟩
theorem wV_12_225 : gWV "GrownKindsModel" 225 yX12_isKind cX12_isKind 2 (some .boolean) := ⟨wm_1982, wm_1984, wm_112, wm_187, wm_1985, by decide +kernel, by decide +kernel⟩
set_option maxHeartbeats 4000000 in
set_option maxRecDepth 100000 in
theorem wX12_isTerm (l : Launch) {D : va_G} {cy : Nat → ClassId} {b n : Nat} (hn : 105 ≤ n) {E : Nat → va_E}  {taped83 faultKind83 faultPlace83 at83 begin83 token83 value83 bad83 long083 wanted83 found83 deepMost83 letterAsked83 letterMany83 turns83 topTerm83 top83 left83 nodes83 sourceLong83 read83 toldSize83 toldRank83 boxSize83 isDealing83 dealKind83 dealLow83 dealMany83 dealLeft83 dealRound83 dealX83 : Int} {mm : Nat → Int} (h83 : E 83 = O83 b taped83 faultKind83 faultPlace83 at83 begin83 token83 value83 bad83 long083 wanted83 found83 deepMost83 letterAsked83 letterMany83 turns83 topTerm83 top83 left83 nodes83 sourceLong83 read83 toldSize83 toldRank83 boxSize83 isDealing83 dealKind83 dealLow83 dealMany83 dealLeft83 dealRound83 dealX83) (h84 : E 84 = cI cy 228 mm) (a1 : Int) (a2 : Int) (hmm : ∀ j, -1000000 ≤ mm j ∧ mm j ≤ 1000000) (hm0 : 0 ≤ mm 0 ∧ mm 0 ≤ 6) (hb1 : (-2147483648 ≤ a1 ∧ a1 ≤ 2147483647)) (hb2 : (-2147483648 ≤ a2 ∧ a2 ≤ 2147483647)) : gI l yX12_isTerm cX12_isTerm 3 (some .boolean) 2 0 0 D cy b n E [.ref (b + 83), .int (iI a1), .int (iI a2)] (fun r u => r = iI (if 0 ≤ a1 ∧ a1 < mm 0 ∧ 0 ≤ a2 ∧ a2 ≤ mm (198 + a1).toNat - 1 then 1 else 0) ∧ u.1 = n ∧ u.2 = E) := by
  refine gI_of (by decide) (Nat.le_of_ble_eq_true rfl) ?_
  intro p e s m args below meth c S hr hlk hin hsz ls hl hG
  have hx := S.1
  have hb := S.2.1
  have hl : lv_has ls 3 [(0, .ref (b + 83)), (1, .int (iI a1)), (2, .int (iI a2))] := hl
  refine lv_aload_n hx hb dX12_isTerm_0 rfl (lv_at hl 0 rfl) ?_
  refine lv_iload_n hx hb dX12_isTerm_1 rfl (lv_at hl 1 rfl) ?_
  refine g_vi (As := [.int (iI a1)]) (rest := []) S hG (by omega) (wX12_isKind l hn (show gEof hG 83 = O83 b taped83 faultKind83 faultPlace83 at83 begin83 token83 value83 bad83 long083 wanted83 found83 deepMost83 letterAsked83 letterMany83 turns83 topTerm83 top83 left83 nodes83 sourceLong83 read83 toldSize83 toldRank83 boxSize83 isDealing83 dealKind83 dealLow83 dealMany83 dealLeft83 dealRound83 dealX83 from h83) (show gEof hG 84 = cI cy 228 mm from h84) a1 (by omega) (by omega) (by omega)) wV_12_225 (show gEof hG 83 = O83 b taped83 faultKind83 faultPlace83 at83 begin83 token83 value83 bad83 long083 wanted83 found83 deepMost83 letterAsked83 letterMany83 turns83 topTerm83 top83 left83 nodes83 sourceLong83 read83 toldSize83 toldRank83 boxSize83 isDealing83 dealKind83 dealLow83 dealMany83 dealLeft83 dealRound83 dealX83 from h83) cpX12 (by omega) dX12_isTerm_2 rfl hl.1 (ar := 1) (by decide +kernel) rfl ⟨Nat.le_of_ble_eq_true rfl, Nat.le_of_ble_eq_true rfl, Nat.le_of_ble_eq_true rfl, Nat.le_of_ble_eq_true rfl⟩ (Nat.le_of_ble_eq_true rfl) (fun r_1 u_2 H locs hp_3 hG => ?_)
  obtain ⟨nu_2, Eu_2⟩ := u_2
  dsimp only at hp_3 hG
  obtain ⟨rfl, en_4, ee_5⟩ := hp_3
  have hG := gW_eq2 hG en_4 ee_5
  refine gi_nm (fun x_6 ex_6 => ?_)
  refine gi_if_eq (tgt := 34) hx hb dX12_isTerm_5 (by decide) (by omega) (fun c_7 => ?_) (fun c_7 => ?_)
  · refine lv_iconst (v := iI 0) hx hb dX12_isTerm_34 (by decide) ?_
    exact g_zret S hr hlk hG (by omega) dX12_isTerm_35 ⟨Nat.le_of_ble_eq_true rfl, Nat.le_of_ble_eq_true rfl⟩ (nar_z (by omega)) ⟨congrArg iI (by subst_vars; first | rfl | omega | ((repeat' split) <;> omega)), rfl, rfl⟩
  · refine lv_iload_n hx hb dX12_isTerm_8 rfl (lv_at hl 2 rfl) ?_
    refine gi_i2l hx hb dX12_isTerm_9 (by omega) ?_
    refine lv_lconst (v := jJ 0) hx hb dX12_isTerm_10 (by decide) ?_
    refine lv_aload_n hx hb dX12_isTerm_11 rfl (lv_at hl 0 rfl) ?_
    refine g_get S hG 83 0 (show gEof hG 83 = O83 b taped83 faultKind83 faultPlace83 at83 begin83 token83 value83 bad83 long083 wanted83 found83 deepMost83 letterAsked83 letterMany83 turns83 topTerm83 top83 left83 nodes83 sourceLong83 read83 toldSize83 toldRank83 boxSize83 isDealing83 dealKind83 dealLow83 dealMany83 dealLeft83 dealRound83 dealX83 from h83) cpX12 wm_1674 dX12_isTerm_12 rfl (by omega) (by decide) ?_
    refine lv_sipush (v := iI 198) hx hb dX12_isTerm_15 (by decide) ?_
    refine lv_iload_n hx hb dX12_isTerm_18 rfl (lv_at hl 1 rfl) ?_
    refine gi_add hx hb dX12_isTerm_19 ?_
    refine gi_nm (fun x_8 ex_8 => ?_)
    refine gi_ald S hG 84 (show gEof hG 84 = cI cy 228 mm from h84) (by omega) dX12_isTerm_20 (by omega) (by decide) ?_
    refine gi_nm (fun x_9 ex_9 => ?_)
    have bx_9 := hmm (x_8.toNat)
    refine lv_iconst (v := iI 1) hx hb dX12_isTerm_21 (by decide) ?_
    refine gi_sub hx hb dX12_isTerm_22 ?_
    refine gi_i2l hx hb dX12_isTerm_23 (by omega) ?_
    refine g_si (As := [.long (jJ a2), .long (jJ 0), .long (jJ (x_9 - 1))]) (rest := []) S hG (by omega) (wX12_in l hn  a2 0 (x_9 - 1)  (by omega) (by omega) (by omega)) wS_12_97 dX12_isTerm_24 rfl hl.1 (ar := 3) (by decide +kernel) rfl ⟨Nat.le_of_ble_eq_true rfl, Nat.le_of_ble_eq_true rfl, Nat.le_of_ble_eq_true rfl, Nat.le_of_ble_eq_true rfl⟩ (Nat.le_of_ble_eq_true rfl) (fun r_10 u_11 H locs hp_12 hG => ?_)
    obtain ⟨nu_11, Eu_11⟩ := u_11
    dsimp only at hp_12 hG
    obtain ⟨rfl, en_13, ee_14⟩ := hp_12
    have hG := gW_eq2 hG en_13 ee_14
    refine gi_nm (fun x_15 ex_15 => ?_)
    refine gi_if_eq (tgt := 34) hx hb dX12_isTerm_27 (by decide) (by omega) (fun c_16 => ?_) (fun c_16 => ?_)
    · refine lv_iconst (v := iI 0) hx hb dX12_isTerm_34 (by decide) ?_
      exact g_zret S hr hlk hG (by omega) dX12_isTerm_35 ⟨Nat.le_of_ble_eq_true rfl, Nat.le_of_ble_eq_true rfl⟩ (nar_z (by omega)) ⟨congrArg iI (by subst_vars; first | rfl | omega | ((repeat' split) <;> omega)), rfl, rfl⟩
    · refine lv_iconst (v := iI 1) hx hb dX12_isTerm_30 (by decide) ?_
      refine lv_goto (tgt := 35) hx hb dX12_isTerm_31 (by decide) ?_
      exact g_zret S hr hlk hG (by omega) dX12_isTerm_35 ⟨Nat.le_of_ble_eq_true rfl, Nat.le_of_ble_eq_true rfl⟩ (nar_z (by omega)) ⟨congrArg iI (by subst_vars; first | rfl | omega | ((repeat' split) <;> omega)), rfl, rfl⟩
set_option maxHeartbeats 4000000 in
set_option maxRecDepth 100000 in
theorem wX12_terms (l : Launch) {D : va_G} {cy : Nat → ClassId} {b n : Nat} (hn : 105 ≤ n) {E : Nat → va_E}  {taped83 faultKind83 faultPlace83 at83 begin83 token83 value83 bad83 long083 wanted83 found83 deepMost83 letterAsked83 letterMany83 turns83 topTerm83 top83 left83 nodes83 sourceLong83 read83 toldSize83 toldRank83 boxSize83 isDealing83 dealKind83 dealLow83 dealMany83 dealLeft83 dealRound83 dealX83 : Int} {mm : Nat → Int} (h83 : E 83 = O83 b taped83 faultKind83 faultPlace83 at83 begin83 token83 value83 bad83 long083 wanted83 found83 deepMost83 letterAsked83 letterMany83 turns83 topTerm83 top83 left83 nodes83 sourceLong83 read83 toldSize83 toldRank83 boxSize83 isDealing83 dealKind83 dealLow83 dealMany83 dealLeft83 dealRound83 dealX83) (h84 : E 84 = cI cy 228 mm) (a1 : Int) (hmm : ∀ j, -1000000 ≤ mm j ∧ mm j ≤ 1000000) (hm0 : 0 ≤ mm 0 ∧ mm 0 ≤ 6) (hb1 : (-2147483648 ≤ a1 ∧ a1 ≤ 2147483647)) : gI l yX12_terms cX12_terms 2 (some .int) 2 0 0 D cy b n E [.ref (b + 83), .int (iI a1)] (fun r u => r = iI (if 0 ≤ a1 ∧ a1 < mm 0 then mm (198 + a1).toNat else -2) ∧ u.1 = n ∧ u.2 = E) := by
  refine gI_of (by decide) (Nat.le_of_ble_eq_true rfl) ?_
  intro p e s m args below meth c S hr hlk hin hsz ls hl hG
  have hx := S.1
  have hb := S.2.1
  have hl : lv_has ls 2 [(0, .ref (b + 83)), (1, .int (iI a1))] := hl
  refine lv_aload_n hx hb dX12_terms_0 rfl (lv_at hl 0 rfl) ?_
  refine lv_iload_n hx hb dX12_terms_1 rfl (lv_at hl 1 rfl) ?_
  refine g_vi (As := [.int (iI a1)]) (rest := []) S hG (by omega) (wX12_isKind l hn (show gEof hG 83 = O83 b taped83 faultKind83 faultPlace83 at83 begin83 token83 value83 bad83 long083 wanted83 found83 deepMost83 letterAsked83 letterMany83 turns83 topTerm83 top83 left83 nodes83 sourceLong83 read83 toldSize83 toldRank83 boxSize83 isDealing83 dealKind83 dealLow83 dealMany83 dealLeft83 dealRound83 dealX83 from h83) (show gEof hG 84 = cI cy 228 mm from h84) a1 (by omega) (by omega) (by omega)) wV_12_225 (show gEof hG 83 = O83 b taped83 faultKind83 faultPlace83 at83 begin83 token83 value83 bad83 long083 wanted83 found83 deepMost83 letterAsked83 letterMany83 turns83 topTerm83 top83 left83 nodes83 sourceLong83 read83 toldSize83 toldRank83 boxSize83 isDealing83 dealKind83 dealLow83 dealMany83 dealLeft83 dealRound83 dealX83 from h83) cpX12 (by omega) dX12_terms_2 rfl hl.1 (ar := 1) (by decide +kernel) rfl ⟨Nat.le_of_ble_eq_true rfl, Nat.le_of_ble_eq_true rfl, Nat.le_of_ble_eq_true rfl, Nat.le_of_ble_eq_true rfl⟩ (Nat.le_of_ble_eq_true rfl) (fun r_1 u_2 H locs hp_3 hG => ?_)
  obtain ⟨nu_2, Eu_2⟩ := u_2
  dsimp only at hp_3 hG
  obtain ⟨rfl, en_4, ee_5⟩ := hp_3
  have hG := gW_eq2 hG en_4 ee_5
  refine gi_nm (fun x_6 ex_6 => ?_)
  refine gi_if_eq (tgt := 21) hx hb dX12_terms_5 (by decide) (by omega) (fun c_7 => ?_) (fun c_7 => ?_)
  · refine lv_bipush (v := iI (-2)) hx hb dX12_terms_21 (by decide) ?_
    exact g_iret S hr hlk hG (by omega) dX12_terms_23 ⟨Nat.le_of_ble_eq_true rfl, Nat.le_of_ble_eq_true rfl⟩ ⟨congrArg iI (by subst_vars; first | rfl | omega | ((repeat' split) <;> omega)), rfl, rfl⟩
  · refine lv_aload_n hx hb dX12_terms_8 rfl (lv_at hl 0 rfl) ?_
    refine g_get S hG 83 0 (show gEof hG 83 = O83 b taped83 faultKind83 faultPlace83 at83 begin83 token83 value83 bad83 long083 wanted83 found83 deepMost83 letterAsked83 letterMany83 turns83 topTerm83 top83 left83 nodes83 sourceLong83 read83 toldSize83 toldRank83 boxSize83 isDealing83 dealKind83 dealLow83 dealMany83 dealLeft83 dealRound83 dealX83 from h83) cpX12 wm_1674 dX12_terms_9 rfl (by omega) (by decide) ?_
    refine lv_sipush (v := iI 198) hx hb dX12_terms_12 (by decide) ?_
    refine lv_iload_n hx hb dX12_terms_15 rfl (lv_at hl 1 rfl) ?_
    refine gi_add hx hb dX12_terms_16 ?_
    refine gi_nm (fun x_8 ex_8 => ?_)
    refine gi_ald S hG 84 (show gEof hG 84 = cI cy 228 mm from h84) (by omega) dX12_terms_17 (by omega) (by decide) ?_
    refine gi_nm (fun x_9 ex_9 => ?_)
    have bx_9 := hmm (x_8.toNat)
    refine lv_goto (tgt := 23) hx hb dX12_terms_18 (by decide) ?_
    exact g_iret S hr hlk hG (by omega) dX12_terms_23 ⟨Nat.le_of_ble_eq_true rfl, Nat.le_of_ble_eq_true rfl⟩ ⟨congrArg iI (by subst_vars; first | rfl | omega | ((repeat' split) <;> omega)), rfl, rfl⟩
set_option maxHeartbeats 4000000 in
set_option maxRecDepth 100000 in
theorem wX12_off (l : Launch) {D : va_G} {cy : Nat → ClassId} {b n : Nat} (hn : 105 ≤ n) {E : Nat → va_E}  {taped83 faultKind83 faultPlace83 at83 begin83 token83 value83 bad83 long083 wanted83 found83 deepMost83 letterAsked83 letterMany83 turns83 topTerm83 top83 left83 nodes83 sourceLong83 read83 toldSize83 toldRank83 boxSize83 isDealing83 dealKind83 dealLow83 dealMany83 dealLeft83 dealRound83 dealX83 : Int} {mm : Nat → Int} (h83 : E 83 = O83 b taped83 faultKind83 faultPlace83 at83 begin83 token83 value83 bad83 long083 wanted83 found83 deepMost83 letterAsked83 letterMany83 turns83 topTerm83 top83 left83 nodes83 sourceLong83 read83 toldSize83 toldRank83 boxSize83 isDealing83 dealKind83 dealLow83 dealMany83 dealLeft83 dealRound83 dealX83) (h84 : E 84 = cI cy 228 mm) (a1 : Int) (hmm : ∀ j, -1000000 ≤ mm j ∧ mm j ≤ 1000000) (hm0 : 0 ≤ mm 0 ∧ mm 0 ≤ 6) (hb1 : (-2147483648 ≤ a1 ∧ a1 ≤ 2147483647)) : gI l yX12_off cX12_off 2 (some .int) 2 0 0 D cy b n E [.ref (b + 83), .int (iI a1)] (fun r u => r = iI (if 0 ≤ a1 ∧ a1 < mm 0 then mm (6 + a1).toNat else -2) ∧ u.1 = n ∧ u.2 = E) := by
  refine gI_of (by decide) (Nat.le_of_ble_eq_true rfl) ?_
  intro p e s m args below meth c S hr hlk hin hsz ls hl hG
  have hx := S.1
  have hb := S.2.1
  have hl : lv_has ls 2 [(0, .ref (b + 83)), (1, .int (iI a1))] := hl
  refine lv_aload_n hx hb dX12_off_0 rfl (lv_at hl 0 rfl) ?_
  refine lv_iload_n hx hb dX12_off_1 rfl (lv_at hl 1 rfl) ?_
  refine g_vi (As := [.int (iI a1)]) (rest := []) S hG (by omega) (wX12_isKind l hn (show gEof hG 83 = O83 b taped83 faultKind83 faultPlace83 at83 begin83 token83 value83 bad83 long083 wanted83 found83 deepMost83 letterAsked83 letterMany83 turns83 topTerm83 top83 left83 nodes83 sourceLong83 read83 toldSize83 toldRank83 boxSize83 isDealing83 dealKind83 dealLow83 dealMany83 dealLeft83 dealRound83 dealX83 from h83) (show gEof hG 84 = cI cy 228 mm from h84) a1 (by omega) (by omega) (by omega)) wV_12_225 (show gEof hG 83 = O83 b taped83 faultKind83 faultPlace83 at83 begin83 token83 value83 bad83 long083 wanted83 found83 deepMost83 letterAsked83 letterMany83 turns83 topTerm83 top83 left83 nodes83 sourceLong83 read83 toldSize83 toldRank83 boxSize83 isDealing83 dealKind83 dealLow83 dealMany83 dealLeft83 dealRound83 dealX83 from h83) cpX12 (by omega) dX12_off_2 rfl hl.1 (ar := 1) (by decide +kernel) rfl ⟨Nat.le_of_ble_eq_true rfl, Nat.le_of_ble_eq_true rfl, Nat.le_of_ble_eq_true rfl, Nat.le_of_ble_eq_true rfl⟩ (Nat.le_of_ble_eq_true rfl) (fun r_1 u_2 H locs hp_3 hG => ?_)
  obtain ⟨nu_2, Eu_2⟩ := u_2
  dsimp only at hp_3 hG
  obtain ⟨rfl, en_4, ee_5⟩ := hp_3
  have hG := gW_eq2 hG en_4 ee_5
  refine gi_nm (fun x_6 ex_6 => ?_)
  refine gi_if_eq (tgt := 20) hx hb dX12_off_5 (by decide) (by omega) (fun c_7 => ?_) (fun c_7 => ?_)
  · refine lv_bipush (v := iI (-2)) hx hb dX12_off_20 (by decide) ?_
    exact g_iret S hr hlk hG (by omega) dX12_off_22 ⟨Nat.le_of_ble_eq_true rfl, Nat.le_of_ble_eq_true rfl⟩ ⟨congrArg iI (by subst_vars; first | rfl | omega | ((repeat' split) <;> omega)), rfl, rfl⟩
  · refine lv_aload_n hx hb dX12_off_8 rfl (lv_at hl 0 rfl) ?_
    refine g_get S hG 83 0 (show gEof hG 83 = O83 b taped83 faultKind83 faultPlace83 at83 begin83 token83 value83 bad83 long083 wanted83 found83 deepMost83 letterAsked83 letterMany83 turns83 topTerm83 top83 left83 nodes83 sourceLong83 read83 toldSize83 toldRank83 boxSize83 isDealing83 dealKind83 dealLow83 dealMany83 dealLeft83 dealRound83 dealX83 from h83) cpX12 wm_1674 dX12_off_9 rfl (by omega) (by decide) ?_
    refine lv_bipush (v := iI 6) hx hb dX12_off_12 (by decide) ?_
    refine lv_iload_n hx hb dX12_off_14 rfl (lv_at hl 1 rfl) ?_
    refine gi_add hx hb dX12_off_15 ?_
    refine gi_nm (fun x_8 ex_8 => ?_)
    refine gi_ald S hG 84 (show gEof hG 84 = cI cy 228 mm from h84) (by omega) dX12_off_16 (by omega) (by decide) ?_
    refine gi_nm (fun x_9 ex_9 => ?_)
    have bx_9 := hmm (x_8.toNat)
    refine lv_goto (tgt := 22) hx hb dX12_off_17 (by decide) ?_
    exact g_iret S hr hlk hG (by omega) dX12_off_22 ⟨Nat.le_of_ble_eq_true rfl, Nat.le_of_ble_eq_true rfl⟩ ⟨congrArg iI (by subst_vars; first | rfl | omega | ((repeat' split) <;> omega)), rfl, rfl⟩
theorem wV_12_334 : gWV "GrownKindsModel" 334 yX12_isSize cX12_isSize 2 (some .boolean) := ⟨wm_2097, wm_2099, wm_126, wm_187, wm_2100, by decide +kernel, by decide +kernel⟩
set_option maxHeartbeats 4000000 in
set_option maxRecDepth 100000 in
theorem wX12_isBox (l : Launch) {D : va_G} {cy : Nat → ClassId} {b n : Nat} (hn : 105 ≤ n) {E : Nat → va_E}  {taped83 faultKind83 faultPlace83 at83 begin83 token83 value83 bad83 long083 wanted83 found83 deepMost83 letterAsked83 letterMany83 turns83 topTerm83 top83 left83 nodes83 sourceLong83 read83 toldSize83 toldRank83 boxSize83 isDealing83 dealKind83 dealLow83 dealMany83 dealLeft83 dealRound83 dealX83 : Int} {mm : Nat → Int} (h83 : E 83 = O83 b taped83 faultKind83 faultPlace83 at83 begin83 token83 value83 bad83 long083 wanted83 found83 deepMost83 letterAsked83 letterMany83 turns83 topTerm83 top83 left83 nodes83 sourceLong83 read83 toldSize83 toldRank83 boxSize83 isDealing83 dealKind83 dealLow83 dealMany83 dealLeft83 dealRound83 dealX83) (h84 : E 84 = cI cy 228 mm) (a1 : Int) (a2 : Int) (a3 : Int) (hmm : ∀ j, -1000000 ≤ mm j ∧ mm j ≤ 1000000) (hm0 : 0 ≤ mm 0 ∧ mm 0 ≤ 6) (hm1 : 0 ≤ mm 1 ∧ mm 1 ≤ 7) (hb1 : (-2147483648 ≤ a1 ∧ a1 ≤ 2147483647)) (hb2 : (-2147483648 ≤ a2 ∧ a2 ≤ 2147483647)) (hb3 : (-2147483648 ≤ a3 ∧ a3 ≤ 2147483647)) : gI l yX12_isBox cX12_isBox 4 (some .boolean) 2 0 0 D cy b n E [.ref (b + 83), .int (iI a1), .int (iI a2), .int (iI a3)] (fun r u => r = iI (if 0 ≤ a1 ∧ a1 < mm 0 ∧ 0 ≤ a2 ∧ a2 ≤ mm 1 ∧ 0 ≤ a3 ∧ a3 ≤ mm 1 ∧ a2 ≤ a3 then 1 else 0) ∧ u.1 = n ∧ u.2 = E) := by
  refine gI_of (by decide) (Nat.le_of_ble_eq_true rfl) ?_
  intro p e s m args below meth c S hr hlk hin hsz ls hl hG
  have hx := S.1
  have hb := S.2.1
  have hl : lv_has ls 4 [(0, .ref (b + 83)), (1, .int (iI a1)), (2, .int (iI a2)), (3, .int (iI a3))] := hl
  refine lv_aload_n hx hb dX12_isBox_0 rfl (lv_at hl 0 rfl) ?_
  refine lv_iload_n hx hb dX12_isBox_1 rfl (lv_at hl 1 rfl) ?_
  refine g_vi (As := [.int (iI a1)]) (rest := []) S hG (by omega) (wX12_isKind l hn (show gEof hG 83 = O83 b taped83 faultKind83 faultPlace83 at83 begin83 token83 value83 bad83 long083 wanted83 found83 deepMost83 letterAsked83 letterMany83 turns83 topTerm83 top83 left83 nodes83 sourceLong83 read83 toldSize83 toldRank83 boxSize83 isDealing83 dealKind83 dealLow83 dealMany83 dealLeft83 dealRound83 dealX83 from h83) (show gEof hG 84 = cI cy 228 mm from h84) a1 (by omega) (by omega) (by omega)) wV_12_225 (show gEof hG 83 = O83 b taped83 faultKind83 faultPlace83 at83 begin83 token83 value83 bad83 long083 wanted83 found83 deepMost83 letterAsked83 letterMany83 turns83 topTerm83 top83 left83 nodes83 sourceLong83 read83 toldSize83 toldRank83 boxSize83 isDealing83 dealKind83 dealLow83 dealMany83 dealLeft83 dealRound83 dealX83 from h83) cpX12 (by omega) dX12_isBox_2 rfl hl.1 (ar := 1) (by decide +kernel) rfl ⟨Nat.le_of_ble_eq_true rfl, Nat.le_of_ble_eq_true rfl, Nat.le_of_ble_eq_true rfl, Nat.le_of_ble_eq_true rfl⟩ (Nat.le_of_ble_eq_true rfl) (fun r_1 u_2 H locs hp_3 hG => ?_)
  obtain ⟨nu_2, Eu_2⟩ := u_2
  dsimp only at hp_3 hG
  obtain ⟨rfl, en_4, ee_5⟩ := hp_3
  have hG := gW_eq2 hG en_4 ee_5
  refine gi_nm (fun x_6 ex_6 => ?_)
  refine gi_if_eq (tgt := 33) hx hb dX12_isBox_5 (by decide) (by omega) (fun c_7 => ?_) (fun c_7 => ?_)
  · refine lv_iconst (v := iI 0) hx hb dX12_isBox_33 (by decide) ?_
    exact g_zret S hr hlk hG (by omega) dX12_isBox_34 ⟨Nat.le_of_ble_eq_true rfl, Nat.le_of_ble_eq_true rfl⟩ (nar_z (by omega)) ⟨congrArg iI (by subst_vars; first | rfl | omega | ((repeat' split) <;> omega)), rfl, rfl⟩
  · refine lv_aload_n hx hb dX12_isBox_8 rfl (lv_at hl 0 rfl) ?_
    refine lv_iload_n hx hb dX12_isBox_9 rfl (lv_at hl 2 rfl) ?_
    refine g_vi (As := [.int (iI a2)]) (rest := []) S hG (by omega) (wX12_isSize l hn (show gEof hG 83 = O83 b taped83 faultKind83 faultPlace83 at83 begin83 token83 value83 bad83 long083 wanted83 found83 deepMost83 letterAsked83 letterMany83 turns83 topTerm83 top83 left83 nodes83 sourceLong83 read83 toldSize83 toldRank83 boxSize83 isDealing83 dealKind83 dealLow83 dealMany83 dealLeft83 dealRound83 dealX83 from h83) (show gEof hG 84 = cI cy 228 mm from h84) a2 (by omega) (by omega) (by omega)) wV_12_334 (show gEof hG 83 = O83 b taped83 faultKind83 faultPlace83 at83 begin83 token83 value83 bad83 long083 wanted83 found83 deepMost83 letterAsked83 letterMany83 turns83 topTerm83 top83 left83 nodes83 sourceLong83 read83 toldSize83 toldRank83 boxSize83 isDealing83 dealKind83 dealLow83 dealMany83 dealLeft83 dealRound83 dealX83 from h83) cpX12 (by omega) dX12_isBox_10 rfl hl.1 (ar := 1) (by decide +kernel) rfl ⟨Nat.le_of_ble_eq_true rfl, Nat.le_of_ble_eq_true rfl, Nat.le_of_ble_eq_true rfl, Nat.le_of_ble_eq_true rfl⟩ (Nat.le_of_ble_eq_true rfl) (fun r_8 u_9 H locs hp_10 hG => ?_)
    obtain ⟨nu_9, Eu_9⟩ := u_9
    dsimp only at hp_10 hG
    obtain ⟨rfl, en_11, ee_12⟩ := hp_10
    have hG := gW_eq2 hG en_11 ee_12
    refine gi_nm (fun x_13 ex_13 => ?_)
    refine gi_if_eq (tgt := 33) hx hb dX12_isBox_13 (by decide) (by omega) (fun c_14 => ?_) (fun c_14 => ?_)
    · refine lv_iconst (v := iI 0) hx hb dX12_isBox_33 (by decide) ?_
      exact g_zret S hr hlk hG (by omega) dX12_isBox_34 ⟨Nat.le_of_ble_eq_true rfl, Nat.le_of_ble_eq_true rfl⟩ (nar_z (by omega)) ⟨congrArg iI (by subst_vars; first | rfl | omega | ((repeat' split) <;> omega)), rfl, rfl⟩
    · refine lv_aload_n hx hb dX12_isBox_16 rfl (lv_at hl 0 rfl) ?_
      refine lv_iload_n hx hb dX12_isBox_17 rfl (lv_at hl 3 rfl) ?_
      refine g_vi (As := [.int (iI a3)]) (rest := []) S hG (by omega) (wX12_isSize l hn (show gEof hG 83 = O83 b taped83 faultKind83 faultPlace83 at83 begin83 token83 value83 bad83 long083 wanted83 found83 deepMost83 letterAsked83 letterMany83 turns83 topTerm83 top83 left83 nodes83 sourceLong83 read83 toldSize83 toldRank83 boxSize83 isDealing83 dealKind83 dealLow83 dealMany83 dealLeft83 dealRound83 dealX83 from h83) (show gEof hG 84 = cI cy 228 mm from h84) a3 (by omega) (by omega) (by omega)) wV_12_334 (show gEof hG 83 = O83 b taped83 faultKind83 faultPlace83 at83 begin83 token83 value83 bad83 long083 wanted83 found83 deepMost83 letterAsked83 letterMany83 turns83 topTerm83 top83 left83 nodes83 sourceLong83 read83 toldSize83 toldRank83 boxSize83 isDealing83 dealKind83 dealLow83 dealMany83 dealLeft83 dealRound83 dealX83 from h83) cpX12 (by omega) dX12_isBox_18 rfl hl.1 (ar := 1) (by decide +kernel) rfl ⟨Nat.le_of_ble_eq_true rfl, Nat.le_of_ble_eq_true rfl, Nat.le_of_ble_eq_true rfl, Nat.le_of_ble_eq_true rfl⟩ (Nat.le_of_ble_eq_true rfl) (fun r_15 u_16 H locs hp_17 hG => ?_)
      obtain ⟨nu_16, Eu_16⟩ := u_16
      dsimp only at hp_17 hG
      obtain ⟨rfl, en_18, ee_19⟩ := hp_17
      have hG := gW_eq2 hG en_18 ee_19
      refine gi_nm (fun x_20 ex_20 => ?_)
      refine gi_if_eq (tgt := 33) hx hb dX12_isBox_21 (by decide) (by omega) (fun c_21 => ?_) (fun c_21 => ?_)
      · refine lv_iconst (v := iI 0) hx hb dX12_isBox_33 (by decide) ?_
        exact g_zret S hr hlk hG (by omega) dX12_isBox_34 ⟨Nat.le_of_ble_eq_true rfl, Nat.le_of_ble_eq_true rfl⟩ (nar_z (by omega)) ⟨congrArg iI (by subst_vars; first | rfl | omega | ((repeat' split) <;> omega)), rfl, rfl⟩
      · refine lv_iload_n hx hb dX12_isBox_24 rfl (lv_at hl 2 rfl) ?_
        refine lv_iload_n hx hb dX12_isBox_25 rfl (lv_at hl 3 rfl) ?_
        refine gi_icmp_gt (tgt := 33) hx hb dX12_isBox_26 (by decide) (by omega) (by omega) (fun c_22 => ?_) (fun c_22 => ?_)
        · refine lv_iconst (v := iI 0) hx hb dX12_isBox_33 (by decide) ?_
          exact g_zret S hr hlk hG (by omega) dX12_isBox_34 ⟨Nat.le_of_ble_eq_true rfl, Nat.le_of_ble_eq_true rfl⟩ (nar_z (by omega)) ⟨congrArg iI (by subst_vars; first | rfl | omega | ((repeat' split) <;> omega)), rfl, rfl⟩
        · refine lv_iconst (v := iI 1) hx hb dX12_isBox_29 (by decide) ?_
          refine lv_goto (tgt := 34) hx hb dX12_isBox_30 (by decide) ?_
          exact g_zret S hr hlk hG (by omega) dX12_isBox_34 ⟨Nat.le_of_ble_eq_true rfl, Nat.le_of_ble_eq_true rfl⟩ (nar_z (by omega)) ⟨congrArg iI (by subst_vars; first | rfl | omega | ((repeat' split) <;> omega)), rfl, rfl⟩
set_option maxHeartbeats 4000000 in
set_option maxRecDepth 100000 in
theorem wX12_place (l : Launch) {D : va_G} {cy : Nat → ClassId} {b n : Nat} (hn : 105 ≤ n) {E : Nat → va_E}   (a1 : Int) (a2 : Int) (a3 : Int) (hpl : 0 ≤ a1 ∧ a1 < 1000 ∧ 0 ≤ a2 ∧ a2 < 1000 ∧ 0 ≤ a3 ∧ a3 < 1000) (hb1 : (-2147483648 ≤ a1 ∧ a1 ≤ 2147483647)) (hb2 : (-2147483648 ≤ a2 ∧ a2 ≤ 2147483647)) (hb3 : (-2147483648 ≤ a3 ∧ a3 ≤ 2147483647)) : gI l yX12_place cX12_place 3 (some .int) 0 0 0 D cy b n E [.int (iI a1), .int (iI a2), .int (iI a3)] (fun r u => r = iI ((a1 * 8 + a2) * 8 + a3) ∧ u.1 = n ∧ u.2 = E) := by
  refine gI_of (by decide) (Nat.le_of_ble_eq_true rfl) ?_
  intro p e s m args below meth c S hr hlk hin hsz ls hl hG
  have hx := S.1
  have hb := S.2.1
  have hl : lv_has ls 3 [(0, .int (iI a1)), (1, .int (iI a2)), (2, .int (iI a3))] := hl
  refine lv_iload_n hx hb dX12_place_0 rfl (lv_at hl 0 rfl) ?_
  refine lv_bipush (v := iI 8) hx hb dX12_place_1 (by decide) ?_
  refine gi_mul hx hb dX12_place_3 ?_
  refine lv_iload_n hx hb dX12_place_4 rfl (lv_at hl 1 rfl) ?_
  refine gi_add hx hb dX12_place_5 ?_
  refine lv_bipush (v := iI 8) hx hb dX12_place_6 (by decide) ?_
  refine gi_mul hx hb dX12_place_8 ?_
  refine lv_iload_n hx hb dX12_place_9 rfl (lv_at hl 2 rfl) ?_
  refine gi_add hx hb dX12_place_10 ?_
  exact g_iret S hr hlk hG (by omega) dX12_place_11 ⟨Nat.le_of_ble_eq_true rfl, Nat.le_of_ble_eq_true rfl⟩ ⟨congrArg iI (by subst_vars; first | rfl | omega | ((repeat' split) <;> omega)), rfl, rfl⟩
set_option maxHeartbeats 4000000 in
set_option maxRecDepth 100000 in
theorem wX12_less (l : Launch) {D : va_G} {cy : Nat → ClassId} {b n : Nat} (hn : 105 ≤ n) {E : Nat → va_E}   (a1 : Int) (hb1 : (-2147483648 ≤ a1 ∧ a1 ≤ 2147483647)) : gI l yX12_less cX12_less 1 (some .int) 0 0 0 D cy b n E [.int (iI a1)] (fun r u => r = iI (if a1 < 0 then -1 else a1 - 1) ∧ u.1 = n ∧ u.2 = E) := by
  refine gI_of (by decide) (Nat.le_of_ble_eq_true rfl) ?_
  intro p e s m args below meth c S hr hlk hin hsz ls hl hG
  have hx := S.1
  have hb := S.2.1
  have hl : lv_has ls 1 [(0, .int (iI a1))] := hl
  refine lv_iload_n hx hb dX12_less_0 rfl (lv_at hl 0 rfl) ?_
  refine gi_if_ge (tgt := 8) hx hb dX12_less_1 (by decide) (by omega) (fun c_1 => ?_) (fun c_1 => ?_)
  · refine lv_iload_n hx hb dX12_less_8 rfl (lv_at hl 0 rfl) ?_
    refine lv_iconst (v := iI 1) hx hb dX12_less_9 (by decide) ?_
    refine gi_sub hx hb dX12_less_10 ?_
    exact g_iret S hr hlk hG (by omega) dX12_less_11 ⟨Nat.le_of_ble_eq_true rfl, Nat.le_of_ble_eq_true rfl⟩ ⟨congrArg iI (by subst_vars; first | rfl | omega | ((repeat' split) <;> omega)), rfl, rfl⟩
  · refine lv_iconst (v := iI (-1)) hx hb dX12_less_4 (by decide) ?_
    refine lv_goto (tgt := 11) hx hb dX12_less_5 (by decide) ?_
    exact g_iret S hr hlk hG (by omega) dX12_less_11 ⟨Nat.le_of_ble_eq_true rfl, Nat.le_of_ble_eq_true rfl⟩ ⟨congrArg iI (by subst_vars; first | rfl | omega | ((repeat' split) <;> omega)), rfl, rfl⟩
set_option maxHeartbeats 4000000 in
set_option maxRecDepth 100000 in
theorem wX12_turnsOf (l : Launch) {D : va_G} {cy : Nat → ClassId} {b n : Nat} (hn : 105 ≤ n) {E : Nat → va_E}   (a1 : Int) (hb1 : (-2147483648 ≤ a1 ∧ a1 ≤ 2147483647)) : gI l yX12_turnsOf cX12_turnsOf 1 (some .int) 0 0 0 D cy b n E [.int (iI a1)] (fun r u => r = iI (if a1 < 3 then 1 else if a1 = 5 then 4 else if a1 = 7 then 6 else 2) ∧ u.1 = n ∧ u.2 = E) := by
  refine gI_of (by decide) (Nat.le_of_ble_eq_true rfl) ?_
  intro p e s m args below meth c S hr hlk hin hsz ls hl hG
  have hx := S.1
  have hb := S.2.1
  have hl : lv_has ls 1 [(0, .int (iI a1))] := hl
  refine lv_iload_n hx hb dX12_turnsOf_0 rfl (lv_at hl 0 rfl) ?_
  refine lv_iconst (v := iI 3) hx hb dX12_turnsOf_1 (by decide) ?_
  refine gi_icmp_ge (tgt := 9) hx hb dX12_turnsOf_2 (by decide) (by omega) (by omega) (fun c_1 => ?_) (fun c_1 => ?_)
  · refine lv_iload_n hx hb dX12_turnsOf_9 rfl (lv_at hl 0 rfl) ?_
    refine lv_iconst (v := iI 5) hx hb dX12_turnsOf_10 (by decide) ?_
    refine gi_icmp_ne (tgt := 18) hx hb dX12_turnsOf_11 (by decide) (by omega) (by omega) (fun c_2 => ?_) (fun c_2 => ?_)
    · refine lv_iload_n hx hb dX12_turnsOf_18 rfl (lv_at hl 0 rfl) ?_
      refine lv_bipush (v := iI 7) hx hb dX12_turnsOf_19 (by decide) ?_
      refine gi_icmp_ne (tgt := 29) hx hb dX12_turnsOf_21 (by decide) (by omega) (by omega) (fun c_3 => ?_) (fun c_3 => ?_)
      · refine lv_iconst (v := iI 2) hx hb dX12_turnsOf_29 (by decide) ?_
        exact g_iret S hr hlk hG (by omega) dX12_turnsOf_30 ⟨Nat.le_of_ble_eq_true rfl, Nat.le_of_ble_eq_true rfl⟩ ⟨congrArg iI (by subst_vars; first | rfl | omega | ((repeat' split) <;> omega)), rfl, rfl⟩
      · refine lv_bipush (v := iI 6) hx hb dX12_turnsOf_24 (by decide) ?_
        refine lv_goto (tgt := 30) hx hb dX12_turnsOf_26 (by decide) ?_
        exact g_iret S hr hlk hG (by omega) dX12_turnsOf_30 ⟨Nat.le_of_ble_eq_true rfl, Nat.le_of_ble_eq_true rfl⟩ ⟨congrArg iI (by subst_vars; first | rfl | omega | ((repeat' split) <;> omega)), rfl, rfl⟩
    · refine lv_iconst (v := iI 4) hx hb dX12_turnsOf_14 (by decide) ?_
      refine lv_goto (tgt := 30) hx hb dX12_turnsOf_15 (by decide) ?_
      exact g_iret S hr hlk hG (by omega) dX12_turnsOf_30 ⟨Nat.le_of_ble_eq_true rfl, Nat.le_of_ble_eq_true rfl⟩ ⟨congrArg iI (by subst_vars; first | rfl | omega | ((repeat' split) <;> omega)), rfl, rfl⟩
  · refine lv_iconst (v := iI 1) hx hb dX12_turnsOf_5 (by decide) ?_
    refine lv_goto (tgt := 30) hx hb dX12_turnsOf_6 (by decide) ?_
    exact g_iret S hr hlk hG (by omega) dX12_turnsOf_30 ⟨Nat.le_of_ble_eq_true rfl, Nat.le_of_ble_eq_true rfl⟩ ⟨congrArg iI (by subst_vars; first | rfl | omega | ((repeat' split) <;> omega)), rfl, rfl⟩
set_option maxHeartbeats 4000000 in
set_option maxRecDepth 100000 in
theorem wX12_mul (l : Launch) {D : va_G} {cy : Nat → ClassId} {b n : Nat} (hn : 105 ≤ n) {E : Nat → va_E}   (a1 : Int) (a2 : Int) (a3 : Int) (hmu : 0 ≤ a1 ∧ a1 ≤ a3 ∧ 0 ≤ a2 ∧ a2 ≤ a3 ∧ 0 < a3 ∧ a3 ≤ 100000000000000000) (hb1 : (-9223372036854775808 ≤ a1 ∧ a1 ≤ 9223372036854775807)) (hb2 : (-9223372036854775808 ≤ a2 ∧ a2 ≤ 9223372036854775807)) (hb3 : (-9223372036854775808 ≤ a3 ∧ a3 ≤ 9223372036854775807)) : gL l yX12_mul cX12_mul 6 0 0 0 D cy b n E [.long (jJ a1), .long (jJ a2), .long (jJ a3)] (fun r u => r = jJ (if a1 = 0 ∨ a2 = 0 then 0 else if a3 / a2 < a1 then a3 else a1 * a2) ∧ u.1 = n ∧ u.2 = E) := by
  refine gL_of (by decide) (Nat.le_of_ble_eq_true rfl) ?_
  intro p e s m args below meth c S hr hlk hin hsz ls hl hG
  have hx := S.1
  have hb := S.2.1
  have hl : lv_has ls 6 [(0, .long (jJ a1)), (2, .long (jJ a2)), (4, .long (jJ a3))] := hl
  refine lv_lload_n hx hb dX12_mul_0 rfl (lv_at hl 0 rfl) ?_
  refine lv_lconst (v := jJ 0) hx hb dX12_mul_1 (by decide) ?_
  refine gj_cmp_eq (tgt := 12) hx hb dX12_mul_2 dX12_mul_3 (by decide) (by omega) (by omega) (fun c_1 => ?_) (fun c_1 => ?_)
  · refine lv_lconst (v := jJ 0) hx hb dX12_mul_12 (by decide) ?_
    exact g_lret S hr hlk hG (by omega) dX12_mul_13 ⟨Nat.le_of_ble_eq_true rfl, Nat.le_of_ble_eq_true rfl⟩ ⟨congrArg jJ (by subst_vars; first | rfl | omega | ((repeat' split) <;> omega)), rfl, rfl⟩
  · refine lv_lload_n hx hb dX12_mul_6 rfl (lv_at hl 1 rfl) ?_
    refine lv_lconst (v := jJ 0) hx hb dX12_mul_7 (by decide) ?_
    refine gj_cmp_ne (tgt := 14) hx hb dX12_mul_8 dX12_mul_9 (by decide) (by omega) (by omega) (fun c_2 => ?_) (fun c_2 => ?_)
    · refine lv_lload_n hx hb dX12_mul_14 rfl (lv_at hl 0 rfl) ?_
      refine lv_lload hx hb dX12_mul_15 (lv_at hl 2 rfl) ?_
      refine lv_lload_n hx hb dX12_mul_17 rfl (lv_at hl 1 rfl) ?_
      refine gj_div hx hb dX12_mul_18 (by omega) (by omega) ?_
      have dv_3 : 0 ≤ a3 / a2 := Int.ediv_nonneg (by omega) (by omega)
      have dv_32 : a3 / a2 ≤ a3 := Int.ediv_le_self _ (by omega)
      refine gj_nm (fun x_4 ex_4 => ?_)
      refine gj_cmp_le (tgt := 28) hx hb dX12_mul_19 dX12_mul_20 (by decide) (by omega) (by omega) (fun c_5 => ?_) (fun c_5 => ?_)
      · refine lv_lload_n hx hb dX12_mul_28 rfl (lv_at hl 0 rfl) ?_
        refine lv_lload_n hx hb dX12_mul_29 rfl (lv_at hl 1 rfl) ?_
        refine gj_mul hx hb dX12_mul_30 ?_
        exact g_lret S hr hlk hG (by omega) dX12_mul_31 ⟨Nat.le_of_ble_eq_true rfl, Nat.le_of_ble_eq_true rfl⟩ ⟨congrArg jJ (by subst_vars; first | rfl | omega | ((repeat' split) <;> omega)), rfl, rfl⟩
      · refine lv_lload hx hb dX12_mul_23 (lv_at hl 2 rfl) ?_
        refine lv_goto (tgt := 31) hx hb dX12_mul_25 (by decide) ?_
        exact g_lret S hr hlk hG (by omega) dX12_mul_31 ⟨Nat.le_of_ble_eq_true rfl, Nat.le_of_ble_eq_true rfl⟩ ⟨congrArg jJ (by subst_vars; first | rfl | omega | ((repeat' split) <;> omega)), rfl, rfl⟩
    · refine lv_lconst (v := jJ 0) hx hb dX12_mul_12 (by decide) ?_
      exact g_lret S hr hlk hG (by omega) dX12_mul_13 ⟨Nat.le_of_ble_eq_true rfl, Nat.le_of_ble_eq_true rfl⟩ ⟨congrArg jJ (by subst_vars; first | rfl | omega | ((repeat' split) <;> omega)), rfl, rfl⟩
set_option maxHeartbeats 4000000 in
set_option maxRecDepth 100000 in
theorem wX12_add (l : Launch) {D : va_G} {cy : Nat → ClassId} {b n : Nat} (hn : 105 ≤ n) {E : Nat → va_E}   (a1 : Int) (a2 : Int) (a3 : Int) (had : 0 ≤ a1 ∧ a1 ≤ 1000000000000000000 ∧ 0 ≤ a2 ∧ a2 ≤ 1000000000000000000) (hb1 : (-9223372036854775808 ≤ a1 ∧ a1 ≤ 9223372036854775807)) (hb2 : (-9223372036854775808 ≤ a2 ∧ a2 ≤ 9223372036854775807)) (hb3 : (-9223372036854775808 ≤ a3 ∧ a3 ≤ 9223372036854775807)) : gL l yX12_add cX12_add 6 1 0 0 D cy b n E [.long (jJ a1), .long (jJ a2), .long (jJ a3)] (fun r u => r = jJ (min a3 (a1 + a2)) ∧ u.1 = n ∧ u.2 = E) := by
  refine gL_of (by decide) (Nat.le_of_ble_eq_true rfl) ?_
  intro p e s m args below meth c S hr hlk hin hsz ls hl hG
  have hx := S.1
  have hb := S.2.1
  have hl : lv_has ls 6 [(0, .long (jJ a1)), (2, .long (jJ a2)), (4, .long (jJ a3))] := hl
  refine lv_lload hx hb dX12_add_0 (lv_at hl 2 rfl) ?_
  refine lv_lload_n hx hb dX12_add_2 rfl (lv_at hl 0 rfl) ?_
  refine lv_lload_n hx hb dX12_add_3 rfl (lv_at hl 1 rfl) ?_
  refine gj_add hx hb dX12_add_4 ?_
  refine gj_nm (fun x_1 ex_1 => ?_)
  refine gj_min S wm_2046 wm_1002 wm_189 wm_1003 hl.1 dX12_add_5 ⟨Nat.le_of_ble_eq_true rfl, Nat.le_of_ble_eq_true rfl, Nat.le_of_ble_eq_true rfl, Nat.le_of_ble_eq_true rfl⟩ (by omega) (by omega) ?_
  exact g_lret S hr hlk hG (by omega) dX12_add_8 ⟨Nat.le_of_ble_eq_true rfl, Nat.le_of_ble_eq_true rfl⟩ ⟨congrArg jJ (by subst_vars; first | rfl | omega | ((repeat' split) <;> omega)), rfl, rfl⟩
