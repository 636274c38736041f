theorem dX12_stands_0 : decode cX12_stands 0 = .ok (.iconst 0, 1) := by decide +kernel
theorem dX12_stands_1 : decode cX12_stands 1 = .ok (.istore_n 3, 1) := by decide +kernel
theorem dX12_stands_2 : decode cX12_stands 2 = .ok (.iconst 0, 1) := by decide +kernel
theorem dX12_stands_3 : decode cX12_stands 3 = .ok (.istore 4, 2) := by decide +kernel
theorem dX12_stands_5 : decode cX12_stands 5 = .ok (.aload_n 0, 1) := by decide +kernel
theorem dX12_stands_6 : decode cX12_stands 6 = .ok (.getfield 15, 3) := by decide +kernel
theorem dX12_stands_9 : decode cX12_stands 9 = .ok (.sipush 168, 3) := by decide +kernel
theorem dX12_stands_12 : decode cX12_stands 12 = .ok (.iload_n 1, 1) := by decide +kernel
theorem dX12_stands_13 : decode cX12_stands 13 = .ok (.iadd, 1) := by decide +kernel
theorem dX12_stands_14 : decode cX12_stands 14 = .ok (.iaload, 1) := by decide +kernel
theorem dX12_stands_15 : decode cX12_stands 15 = .ok (.istore 5, 2) := by decide +kernel
theorem dX12_stands_17 : decode cX12_stands 17 = .ok (.iload 5, 2) := by decide +kernel
theorem dX12_stands_19 : decode cX12_stands 19 = .ok (.ifCond .lt 78, 3) := by decide +kernel
theorem dX12_stands_22 : decode cX12_stands 22 = .ok (.aload_n 0, 1) := by decide +kernel
theorem dX12_stands_23 : decode cX12_stands 23 = .ok (.iload_n 1, 1) := by decide +kernel
theorem dX12_stands_24 : decode cX12_stands 24 = .ok (.iload 4, 2) := by decide +kernel
theorem dX12_stands_26 : decode cX12_stands 26 = .ok (.invokevirtual 231, 3) := by decide +kernel
theorem dX12_stands_29 : decode cX12_stands 29 = .ok (.ifCond .eq 7, 3) := by decide +kernel
theorem dX12_stands_36 : decode cX12_stands 36 = .ok (.aload_n 0, 1) := by decide +kernel
theorem dX12_stands_37 : decode cX12_stands 37 = .ok (.getfield 15, 3) := by decide +kernel
theorem dX12_stands_40 : decode cX12_stands 40 = .ok (.bipush 120, 2) := by decide +kernel
theorem dX12_stands_42 : decode cX12_stands 42 = .ok (.iload 5, 2) := by decide +kernel
theorem dX12_stands_44 : decode cX12_stands 44 = .ok (.iadd, 1) := by decide +kernel
theorem dX12_stands_45 : decode cX12_stands 45 = .ok (.iaload, 1) := by decide +kernel
theorem dX12_stands_32 : decode cX12_stands 32 = .ok (.iconst (-1), 1) := by decide +kernel
theorem dX12_stands_33 : decode cX12_stands 33 = .ok (.goto 13, 3) := by decide +kernel
theorem dX12_stands_46 : decode cX12_stands 46 = .ok (.istore 6, 2) := by decide +kernel
theorem dX12_stands_48 : decode cX12_stands 48 = .ok (.iload 6, 2) := by decide +kernel
theorem dX12_stands_50 : decode cX12_stands 50 = .ok (.ifCond .lt 28, 3) := by decide +kernel
theorem dX12_stands_53 : decode cX12_stands 53 = .ok (.iload_n 3, 1) := by decide +kernel
theorem dX12_stands_54 : decode cX12_stands 54 = .ok (.aload_n 0, 1) := by decide +kernel
theorem dX12_stands_55 : decode cX12_stands 55 = .ok (.iload 6, 2) := by decide +kernel
theorem dX12_stands_57 : decode cX12_stands 57 = .ok (.iload_n 2, 1) := by decide +kernel
theorem dX12_stands_58 : decode cX12_stands 58 = .ok (.invokevirtual 234, 3) := by decide +kernel
theorem wm_1998 : (Jvm.Cond.methodLink "GrownKindsModel" (234 : Nat) ({ cls := "GrownKindsModel", name := "standsIn", desc := "(II)I" } : Jvm.MethodName)) ∈ gT := gT_in (List.mem_of_getElem? (i := 1998) (by decide +kernel)) (by decide +kernel)
theorem wm_2000 : (Jvm.Cond.instanceMethod ({ cls := "GrownKindsModel", name := "standsIn", desc := "(II)I" } : Jvm.MethodName)) ∈ gT := gT_in (List.mem_of_getElem? (i := 2000) (by decide +kernel)) (by decide +kernel)
theorem wm_115 : Cond.selects "GrownKindsModel" ⟨"GrownKindsModel", "standsIn", "(II)I"⟩ ⟨"GrownKindsModel", "standsIn", "(II)I"⟩ ∈ gT := gT_in (List.mem_of_getElem? (i := 115) (by decide +kernel)) (by decide +kernel)
theorem wm_2001 : (Jvm.Cond.code ({ cls := "GrownKindsModel", name := "standsIn", desc := "(II)I" } : Jvm.MethodName) prog_14_method_37_code (4 : Nat) (Option.some Jvm.ClassFile.FieldType.int)) ∈ gT := gT_in (List.mem_of_getElem? (i := 2001) (by decide +kernel)) (by decide +kernel)
theorem dX12_stands_61 : decode cX12_stands 61 = .ok (.ior, 1) := by decide +kernel
theorem dX12_stands_62 : decode cX12_stands 62 = .ok (.istore_n 3, 1) := by decide +kernel
theorem dX12_stands_63 : decode cX12_stands 63 = .ok (.aload_n 0, 1) := by decide +kernel
theorem dX12_stands_64 : decode cX12_stands 64 = .ok (.getfield 15, 3) := by decide +kernel
theorem dX12_stands_67 : decode cX12_stands 67 = .ok (.bipush 96, 2) := by decide +kernel
theorem dX12_stands_69 : decode cX12_stands 69 = .ok (.iload 6, 2) := by decide +kernel
theorem dX12_stands_71 : decode cX12_stands 71 = .ok (.iadd, 1) := by decide +kernel
theorem dX12_stands_72 : decode cX12_stands 72 = .ok (.iaload, 1) := by decide +kernel
theorem dX12_stands_73 : decode cX12_stands 73 = .ok (.istore 6, 2) := by decide +kernel
theorem dX12_stands_75 : decode cX12_stands 75 = .ok (.goto (-27), 3) := by decide +kernel
theorem dX12_stands_78 : decode cX12_stands 78 = .ok (.iinc 4 1, 3) := by decide +kernel
theorem dX12_stands_81 : decode cX12_stands 81 = .ok (.aload_n 0, 1) := by decide +kernel
theorem dX12_stands_82 : decode cX12_stands 82 = .ok (.getfield 15, 3) := by decide +kernel
theorem dX12_stands_85 : decode cX12_stands 85 = .ok (.sipush 144, 3) := by decide +kernel
theorem dX12_stands_88 : decode cX12_stands 88 = .ok (.iload 5, 2) := by decide +kernel
theorem dX12_stands_90 : decode cX12_stands 90 = .ok (.iadd, 1) := by decide +kernel
theorem dX12_stands_91 : decode cX12_stands 91 = .ok (.iaload, 1) := by decide +kernel
theorem dX12_stands_92 : decode cX12_stands 92 = .ok (.istore 5, 2) := by decide +kernel
theorem dX12_stands_94 : decode cX12_stands 94 = .ok (.goto (-77), 3) := by decide +kernel
theorem dX12_stands_97 : decode cX12_stands 97 = .ok (.iload_n 3, 1) := by decide +kernel
theorem dX12_stands_98 : decode cX12_stands 98 = .ok (.ireturn, 1) := by decide +kernel
theorem dX12_standsIn_0 : decode cX12_standsIn 0 = .ok (.iload_n 1, 1) := by decide +kernel
theorem dX12_standsIn_1 : decode cX12_standsIn 1 = .ok (.istore_n 3, 1) := by decide +kernel
theorem dX12_standsIn_2 : decode cX12_standsIn 2 = .ok (.aload_n 0, 1) := by decide +kernel
theorem dX12_standsIn_3 : decode cX12_standsIn 3 = .ok (.getfield 15, 3) := by decide +kernel
theorem dX12_standsIn_6 : decode cX12_standsIn 6 = .ok (.bipush 24, 2) := by decide +kernel
theorem dX12_standsIn_8 : decode cX12_standsIn 8 = .ok (.iload_n 3, 1) := by decide +kernel
theorem dX12_standsIn_9 : decode cX12_standsIn 9 = .ok (.iadd, 1) := by decide +kernel
theorem dX12_standsIn_10 : decode cX12_standsIn 10 = .ok (.iaload, 1) := by decide +kernel
theorem dX12_standsIn_11 : decode cX12_standsIn 11 = .ok (.i2l, 1) := by decide +kernel
theorem dX12_standsIn_12 : decode cX12_standsIn 12 = .ok (.ldc2_w 237, 3) := by decide +kernel
theorem dX12_standsIn_15 : decode cX12_standsIn 15 = .ok (.ldc2_w 239, 3) := by decide +kernel
theorem dX12_standsIn_18 : decode cX12_standsIn 18 = .ok (.invokestatic 97, 3) := by decide +kernel
theorem dX12_standsIn_21 : decode cX12_standsIn 21 = .ok (.ifCond .eq 16, 3) := by decide +kernel
theorem dX12_standsIn_24 : decode cX12_standsIn 24 = .ok (.aload_n 0, 1) := by decide +kernel
theorem dX12_standsIn_25 : decode cX12_standsIn 25 = .ok (.getfield 15, 3) := by decide +kernel
theorem dX12_standsIn_28 : decode cX12_standsIn 28 = .ok (.bipush 72, 2) := by decide +kernel
theorem dX12_standsIn_30 : decode cX12_standsIn 30 = .ok (.iload_n 3, 1) := by decide +kernel
theorem dX12_standsIn_31 : decode cX12_standsIn 31 = .ok (.iadd, 1) := by decide +kernel
theorem dX12_standsIn_32 : decode cX12_standsIn 32 = .ok (.iaload, 1) := by decide +kernel
theorem dX12_standsIn_33 : decode cX12_standsIn 33 = .ok (.istore_n 3, 1) := by decide +kernel
theorem dX12_standsIn_34 : decode cX12_standsIn 34 = .ok (.goto (-32), 3) := by decide +kernel
theorem dX12_standsIn_37 : decode cX12_standsIn 37 = .ok (.aload_n 0, 1) := by decide +kernel
theorem dX12_standsIn_38 : decode cX12_standsIn 38 = .ok (.getfield 15, 3) := by decide +kernel
theorem dX12_standsIn_41 : decode cX12_standsIn 41 = .ok (.bipush 24, 2) := by decide +kernel
theorem dX12_standsIn_43 : decode cX12_standsIn 43 = .ok (.iload_n 3, 1) := by decide +kernel
theorem dX12_standsIn_44 : decode cX12_standsIn 44 = .ok (.iadd, 1) := by decide +kernel
theorem dX12_standsIn_45 : decode cX12_standsIn 45 = .ok (.iaload, 1) := by decide +kernel
theorem dX12_standsIn_46 : decode cX12_standsIn 46 = .ok (.bipush 7, 2) := by decide +kernel
theorem dX12_standsIn_48 : decode cX12_standsIn 48 = .ok (.if_icmp .ne 18, 3) := by decide +kernel
theorem dX12_standsIn_66 : decode cX12_standsIn 66 = .ok (.aload_n 0, 1) := by decide +kernel
theorem dX12_standsIn_67 : decode cX12_standsIn 67 = .ok (.getfield 15, 3) := by decide +kernel
theorem dX12_standsIn_70 : decode cX12_standsIn 70 = .ok (.bipush 24, 2) := by decide +kernel
theorem dX12_standsIn_72 : decode cX12_standsIn 72 = .ok (.iload_n 3, 1) := by decide +kernel
theorem dX12_standsIn_73 : decode cX12_standsIn 73 = .ok (.iadd, 1) := by decide +kernel
theorem dX12_standsIn_74 : decode cX12_standsIn 74 = .ok (.iaload, 1) := by decide +kernel
theorem dX12_standsIn_75 : decode cX12_standsIn 75 = .ok (.iload_n 2, 1) := by decide +kernel
theorem dX12_standsIn_76 : decode cX12_standsIn 76 = .ok (.if_icmp .ne 17, 3) := by decide +kernel
theorem dX12_standsIn_93 : decode cX12_standsIn 93 = .ok (.iconst 0, 1) := by decide +kernel
theorem dX12_standsIn_94 : decode cX12_standsIn 94 = .ok (.ireturn, 1) := by decide +kernel
theorem dX12_standsIn_79 : decode cX12_standsIn 79 = .ok (.iconst 1, 1) := by decide +kernel
theorem dX12_standsIn_80 : decode cX12_standsIn 80 = .ok (.aload_n 0, 1) := by decide +kernel
theorem dX12_standsIn_81 : decode cX12_standsIn 81 = .ok (.getfield 15, 3) := by decide +kernel
theorem dX12_standsIn_84 : decode cX12_standsIn 84 = .ok (.bipush 48, 2) := by decide +kernel
theorem dX12_standsIn_86 : decode cX12_standsIn 86 = .ok (.iload_n 3, 1) := by decide +kernel
theorem dX12_standsIn_87 : decode cX12_standsIn 87 = .ok (.iadd, 1) := by decide +kernel
theorem dX12_standsIn_88 : decode cX12_standsIn 88 = .ok (.iaload, 1) := by decide +kernel
theorem dX12_standsIn_89 : decode cX12_standsIn 89 = .ok (.ishl, 1) := by decide +kernel
theorem dX12_standsIn_90 : decode cX12_standsIn 90 = .ok (.goto 4, 3) := by decide +kernel
theorem dX12_standsIn_51 : decode cX12_standsIn 51 = .ok (.aload_n 0, 1) := by decide +kernel
theorem dX12_standsIn_52 : decode cX12_standsIn 52 = .ok (.aload_n 0, 1) := by decide +kernel
theorem dX12_standsIn_53 : decode cX12_standsIn 53 = .ok (.getfield 15, 3) := by decide +kernel
theorem dX12_standsIn_56 : decode cX12_standsIn 56 = .ok (.bipush 48, 2) := by decide +kernel
theorem dX12_standsIn_58 : decode cX12_standsIn 58 = .ok (.iload_n 3, 1) := by decide +kernel
theorem dX12_standsIn_59 : decode cX12_standsIn 59 = .ok (.iadd, 1) := by decide +kernel
theorem dX12_standsIn_60 : decode cX12_standsIn 60 = .ok (.iaload, 1) := by decide +kernel
theorem dX12_standsIn_61 : decode cX12_standsIn 61 = .ok (.iload_n 2, 1) := by decide +kernel
theorem dX12_standsIn_62 : decode cX12_standsIn 62 = .ok (.invokevirtual 241, 3) := by decide +kernel
theorem wm_1994 : (Jvm.Cond.methodLink "GrownKindsModel" (241 : Nat) ({ cls := "GrownKindsModel", name := "stands", desc := "(II)I" } : Jvm.MethodName)) ∈ gT := gT_in (List.mem_of_getElem? (i := 1994) (by decide +kernel)) (by decide +kernel)
theorem wm_1996 : (Jvm.Cond.instanceMethod ({ cls := "GrownKindsModel", name := "stands", desc := "(II)I" } : Jvm.MethodName)) ∈ gT := gT_in (List.mem_of_getElem? (i := 1996) (by decide +kernel)) (by decide +kernel)
theorem wm_114 : Cond.selects "GrownKindsModel" ⟨"GrownKindsModel", "stands", "(II)I"⟩ ⟨"GrownKindsModel", "stands", "(II)I"⟩ ∈ gT := gT_in (List.mem_of_getElem? (i := 114) (by decide +kernel)) (by decide +kernel)
theorem wm_1997 : (Jvm.Cond.code ({ cls := "GrownKindsModel", name := "stands", desc := "(II)I" } : Jvm.MethodName) prog_14_method_36_code (7 : Nat) (Option.some Jvm.ClassFile.FieldType.int)) ∈ gT := gT_in (List.mem_of_getElem? (i := 1997) (by decide +kernel)) (by decide +kernel)
theorem dX12_standsIn_65 : decode cX12_standsIn 65 = .ok (.ireturn, 1) := by decide +kernel
theorem dX12_letters_0 : decode cX12_letters 0 = .ok (.aload_n 0, 1) := by decide +kernel
theorem dX12_letters_1 : decode cX12_letters 1 = .ok (.iload_n 1, 1) := by decide +kernel
theorem dX12_letters_2 : decode cX12_letters 2 = .ok (.invokevirtual 225, 3) := by decide +kernel
theorem dX12_letters_5 : decode cX12_letters 5 = .ok (.ifCond .eq 12, 3) := by decide +kernel
theorem dX12_letters_17 : decode cX12_letters 17 = .ok (.bipush (-2), 2) := by decide +kernel
theorem dX12_letters_19 : decode cX12_letters 19 = .ok (.ireturn, 1) := by decide +kernel
theorem dX12_letters_8 : decode cX12_letters 8 = .ok (.aload_n 0, 1) := by decide +kernel
theorem dX12_letters_9 : decode cX12_letters 9 = .ok (.iload_n 1, 1) := by decide +kernel
theorem dX12_letters_10 : decode cX12_letters 10 = .ok (.iconst 0, 1) := by decide +kernel
theorem dX12_letters_11 : decode cX12_letters 11 = .ok (.invokevirtual 241, 3) := by decide +kernel
theorem dX12_letters_14 : decode cX12_letters 14 = .ok (.goto 5, 3) := by decide +kernel
theorem dX12_uses_0 : decode cX12_uses 0 = .ok (.aload_n 0, 1) := by decide +kernel
theorem dX12_uses_1 : decode cX12_uses 1 = .ok (.iload_n 1, 1) := by decide +kernel
theorem dX12_uses_2 : decode cX12_uses 2 = .ok (.invokevirtual 225, 3) := by decide +kernel
theorem dX12_uses_5 : decode cX12_uses 5 = .ok (.ifCond .eq 12, 3) := by decide +kernel
theorem dX12_uses_17 : decode cX12_uses 17 = .ok (.bipush (-2), 2) := by decide +kernel
theorem dX12_uses_19 : decode cX12_uses 19 = .ok (.ireturn, 1) := by decide +kernel
theorem dX12_uses_8 : decode cX12_uses 8 = .ok (.aload_n 0, 1) := by decide +kernel
theorem dX12_uses_9 : decode cX12_uses 9 = .ok (.iload_n 1, 1) := by decide +kernel
theorem dX12_uses_10 : decode cX12_uses 10 = .ok (.iconst 2, 1) := by decide +kernel
theorem dX12_uses_11 : decode cX12_uses 11 = .ok (.invokevirtual 241, 3) := by decide +kernel
theorem dX12_uses_14 : decode cX12_uses 14 = .ok (.goto 5, 3) := by decide +kernel
theorem dX12_reaches_0 : decode cX12_reaches 0 = .ok (.aload_n 0, 1) := by decide +kernel
theorem dX12_reaches_1 : decode cX12_reaches 1 = .ok (.iload_n 1, 1) := by decide +kernel
theorem dX12_reaches_2 : decode cX12_reaches 2 = .ok (.invokevirtual 225, 3) := by decide +kernel
theorem dX12_reaches_5 : decode cX12_reaches 5 = .ok (.ifCond .ne 6, 3) := by decide +kernel
theorem dX12_reaches_11 : decode cX12_reaches 11 = .ok (.aload_n 0, 1) := by decide +kernel
theorem dX12_reaches_12 : decode cX12_reaches 12 = .ok (.iload_n 1, 1) := by decide +kernel
theorem dX12_reaches_13 : decode cX12_reaches 13 = .ok (.iconst 2, 1) := by decide +kernel
theorem dX12_reaches_14 : decode cX12_reaches 14 = .ok (.invokevirtual 241, 3) := by decide +kernel
theorem dX12_reaches_17 : decode cX12_reaches 17 = .ok (.istore_n 2, 1) := by decide +kernel
theorem dX12_reaches_18 : decode cX12_reaches 18 = .ok (.iconst 0, 1) := by decide +kernel
theorem dX12_reaches_19 : decode cX12_reaches 19 = .ok (.istore_n 3, 1) := by decide +kernel
theorem dX12_reaches_20 : decode cX12_reaches 20 = .ok (.iload_n 3, 1) := by decide +kernel
theorem dX12_reaches_21 : decode cX12_reaches 21 = .ok (.bipush 6, 2) := by decide +kernel
theorem dX12_reaches_23 : decode cX12_reaches 23 = .ok (.if_icmp .ge 52, 3) := by decide +kernel
theorem dX12_reaches_26 : decode cX12_reaches 26 = .ok (.iconst 0, 1) := by decide +kernel
theorem dX12_reaches_27 : decode cX12_reaches 27 = .ok (.istore 4, 2) := by decide +kernel
theorem dX12_reaches_29 : decode cX12_reaches 29 = .ok (.iload 4, 2) := by decide +kernel
theorem dX12_reaches_31 : decode cX12_reaches 31 = .ok (.aload_n 0, 1) := by decide +kernel
theorem dX12_reaches_32 : decode cX12_reaches 32 = .ok (.getfield 15, 3) := by decide +kernel
theorem dX12_reaches_35 : decode cX12_reaches 35 = .ok (.iconst 0, 1) := by decide +kernel
theorem dX12_reaches_36 : decode cX12_reaches 36 = .ok (.iaload, 1) := by decide +kernel
theorem dX12_reaches_37 : decode cX12_reaches 37 = .ok (.if_icmp .ge 32, 3) := by decide +kernel
theorem dX12_reaches_40 : decode cX12_reaches 40 = .ok (.iload_n 2, 1) := by decide +kernel
theorem dX12_reaches_41 : decode cX12_reaches 41 = .ok (.iload_n 2, 1) := by decide +kernel
theorem dX12_reaches_42 : decode cX12_reaches 42 = .ok (.iload 4, 2) := by decide +kernel
theorem dX12_reaches_44 : decode cX12_reaches 44 = .ok (.invokestatic 228, 3) := by decide +kernel
theorem dX12_reaches_47 : decode cX12_reaches 47 = .ok (.ifCond .eq 13, 3) := by decide +kernel
theorem dX12_reaches_60 : decode cX12_reaches 60 = .ok (.iconst 0, 1) := by decide +kernel
theorem dX12_reaches_61 : decode cX12_reaches 61 = .ok (.ior, 1) := by decide +kernel
theorem dX12_reaches_62 : decode cX12_reaches 62 = .ok (.istore_n 2, 1) := by decide +kernel
theorem dX12_reaches_63 : decode cX12_reaches 63 = .ok (.iinc 4 1, 3) := by decide +kernel
theorem dX12_reaches_66 : decode cX12_reaches 66 = .ok (.goto (-37), 3) := by decide +kernel
theorem dX12_reaches_50 : decode cX12_reaches 50 = .ok (.aload_n 0, 1) := by decide +kernel
theorem dX12_reaches_51 : decode cX12_reaches 51 = .ok (.iload 4, 2) := by decide +kernel
theorem dX12_reaches_53 : decode cX12_reaches 53 = .ok (.iconst 2, 1) := by decide +kernel
theorem dX12_reaches_54 : decode cX12_reaches 54 = .ok (.invokevirtual 241, 3) := by decide +kernel
theorem dX12_reaches_57 : decode cX12_reaches 57 = .ok (.goto 4, 3) := by decide +kernel
theorem dX12_reaches_69 : decode cX12_reaches 69 = .ok (.iinc 3 1, 3) := by decide +kernel
theorem dX12_reaches_72 : decode cX12_reaches 72 = .ok (.goto (-52), 3) := by decide +kernel
theorem dX12_reaches_75 : decode cX12_reaches 75 = .ok (.iload_n 2, 1) := by decide +kernel
theorem dX12_reaches_76 : decode cX12_reaches 76 = .ok (.ireturn, 1) := by decide +kernel
theorem dX12_reaches_8 : decode cX12_reaches 8 = .ok (.bipush (-2), 2) := by decide +kernel
theorem dX12_reaches_10 : decode cX12_reaches 10 = .ok (.ireturn, 1) := by decide +kernel
theorem dX12_leansIn_0 : decode cX12_leansIn 0 = .ok (.iload_n 1, 1) := by decide +kernel
theorem dX12_leansIn_1 : decode cX12_leansIn 1 = .ok (.istore_n 2, 1) := by decide +kernel
theorem dX12_leansIn_2 : decode cX12_leansIn 2 = .ok (.aload_n 0, 1) := by decide +kernel
theorem dX12_leansIn_3 : decode cX12_leansIn 3 = .ok (.getfield 15, 3) := by decide +kernel
theorem dX12_leansIn_6 : decode cX12_leansIn 6 = .ok (.bipush 24, 2) := by decide +kernel
theorem dX12_leansIn_8 : decode cX12_leansIn 8 = .ok (.iload_n 2, 1) := by decide +kernel
theorem dX12_leansIn_9 : decode cX12_leansIn 9 = .ok (.iadd, 1) := by decide +kernel
theorem dX12_leansIn_10 : decode cX12_leansIn 10 = .ok (.iaload, 1) := by decide +kernel
theorem dX12_leansIn_11 : decode cX12_leansIn 11 = .ok (.i2l, 1) := by decide +kernel
theorem dX12_leansIn_12 : decode cX12_leansIn 12 = .ok (.ldc2_w 237, 3) := by decide +kernel
theorem dX12_leansIn_15 : decode cX12_leansIn 15 = .ok (.ldc2_w 239, 3) := by decide +kernel
theorem dX12_leansIn_18 : decode cX12_leansIn 18 = .ok (.invokestatic 97, 3) := by decide +kernel
theorem dX12_leansIn_21 : decode cX12_leansIn 21 = .ok (.ifCond .eq 31, 3) := by decide +kernel
theorem dX12_leansIn_24 : decode cX12_leansIn 24 = .ok (.aload_n 0, 1) := by decide +kernel
theorem dX12_leansIn_25 : decode cX12_leansIn 25 = .ok (.getfield 15, 3) := by decide +kernel
theorem dX12_leansIn_28 : decode cX12_leansIn 28 = .ok (.bipush 48, 2) := by decide +kernel
theorem dX12_leansIn_30 : decode cX12_leansIn 30 = .ok (.iload_n 2, 1) := by decide +kernel
theorem dX12_leansIn_31 : decode cX12_leansIn 31 = .ok (.iadd, 1) := by decide +kernel
theorem dX12_leansIn_32 : decode cX12_leansIn 32 = .ok (.iaload, 1) := by decide +kernel
theorem dX12_leansIn_33 : decode cX12_leansIn 33 = .ok (.iconst 1, 1) := by decide +kernel
theorem dX12_leansIn_34 : decode cX12_leansIn 34 = .ok (.if_icmp .le 5, 3) := by decide +kernel
theorem dX12_leansIn_39 : decode cX12_leansIn 39 = .ok (.aload_n 0, 1) := by decide +kernel
theorem dX12_leansIn_40 : decode cX12_leansIn 40 = .ok (.getfield 15, 3) := by decide +kernel
theorem dX12_leansIn_43 : decode cX12_leansIn 43 = .ok (.bipush 72, 2) := by decide +kernel
theorem dX12_leansIn_45 : decode cX12_leansIn 45 = .ok (.iload_n 2, 1) := by decide +kernel
theorem dX12_leansIn_46 : decode cX12_leansIn 46 = .ok (.iadd, 1) := by decide +kernel
theorem dX12_leansIn_47 : decode cX12_leansIn 47 = .ok (.iaload, 1) := by decide +kernel
theorem dX12_leansIn_48 : decode cX12_leansIn 48 = .ok (.istore_n 2, 1) := by decide +kernel
theorem dX12_leansIn_49 : decode cX12_leansIn 49 = .ok (.goto (-47), 3) := by decide +kernel
theorem dX12_leansIn_37 : decode cX12_leansIn 37 = .ok (.iconst 0, 1) := by decide +kernel
theorem dX12_leansIn_38 : decode cX12_leansIn 38 = .ok (.ireturn, 1) := by decide +kernel
theorem dX12_leansIn_52 : decode cX12_leansIn 52 = .ok (.aload_n 0, 1) := by decide +kernel
theorem dX12_leansIn_53 : decode cX12_leansIn 53 = .ok (.getfield 15, 3) := by decide +kernel
theorem dX12_leansIn_56 : decode cX12_leansIn 56 = .ok (.bipush 24, 2) := by decide +kernel
theorem dX12_leansIn_58 : decode cX12_leansIn 58 = .ok (.iload_n 2, 1) := by decide +kernel
theorem dX12_leansIn_59 : decode cX12_leansIn 59 = .ok (.iadd, 1) := by decide +kernel
theorem dX12_leansIn_60 : decode cX12_leansIn 60 = .ok (.iaload, 1) := by decide +kernel
theorem dX12_leansIn_61 : decode cX12_leansIn 61 = .ok (.iconst 2, 1) := by decide +kernel
theorem dX12_leansIn_62 : decode cX12_leansIn 62 = .ok (.if_icmp .ne 17, 3) := by decide +kernel
theorem dX12_leansIn_79 : decode cX12_leansIn 79 = .ok (.aload_n 0, 1) := by decide +kernel
theorem dX12_leansIn_80 : decode cX12_leansIn 80 = .ok (.getfield 15, 3) := by decide +kernel
theorem dX12_leansIn_83 : decode cX12_leansIn 83 = .ok (.bipush 24, 2) := by decide +kernel
theorem dX12_leansIn_85 : decode cX12_leansIn 85 = .ok (.iload_n 2, 1) := by decide +kernel
theorem dX12_leansIn_86 : decode cX12_leansIn 86 = .ok (.iadd, 1) := by decide +kernel
theorem dX12_leansIn_87 : decode cX12_leansIn 87 = .ok (.iaload, 1) := by decide +kernel
theorem dX12_leansIn_88 : decode cX12_leansIn 88 = .ok (.bipush 7, 2) := by decide +kernel
theorem dX12_leansIn_90 : decode cX12_leansIn 90 = .ok (.if_icmp .ne 19, 3) := by decide +kernel
theorem dX12_leansIn_109 : decode cX12_leansIn 109 = .ok (.iconst 0, 1) := by decide +kernel
theorem dX12_leansIn_110 : decode cX12_leansIn 110 = .ok (.ireturn, 1) := by decide +kernel
theorem dX12_leansIn_93 : decode cX12_leansIn 93 = .ok (.aload_n 0, 1) := by decide +kernel
theorem dX12_leansIn_94 : decode cX12_leansIn 94 = .ok (.aload_n 0, 1) := by decide +kernel
theorem dX12_leansIn_95 : decode cX12_leansIn 95 = .ok (.getfield 15, 3) := by decide +kernel
theorem dX12_leansIn_98 : decode cX12_leansIn 98 = .ok (.bipush 48, 2) := by decide +kernel
theorem dX12_leansIn_100 : decode cX12_leansIn 100 = .ok (.iload_n 2, 1) := by decide +kernel
theorem dX12_leansIn_101 : decode cX12_leansIn 101 = .ok (.iadd, 1) := by decide +kernel
theorem dX12_leansIn_102 : decode cX12_leansIn 102 = .ok (.iaload, 1) := by decide +kernel
theorem dX12_leansIn_103 : decode cX12_leansIn 103 = .ok (.invokevirtual 256, 3) := by decide +kernel
theorem wm_1956 : (Jvm.Cond.methodLink "GrownKindsModel" (256 : Nat) ({ cls := "GrownKindsModel", name := "leansOf", desc := "(I)I" } : Jvm.MethodName)) ∈ gT := gT_in (List.mem_of_getElem? (i := 1956) (by decide +kernel)) (by decide +kernel)
theorem wm_1958 : (Jvm.Cond.instanceMethod ({ cls := "GrownKindsModel", name := "leansOf", desc := "(I)I" } : Jvm.MethodName)) ∈ gT := gT_in (List.mem_of_getElem? (i := 1958) (by decide +kernel)) (by decide +kernel)
theorem wm_110 : Cond.selects "GrownKindsModel" ⟨"GrownKindsModel", "leansOf", "(I)I"⟩ ⟨"GrownKindsModel", "leansOf", "(I)I"⟩ ∈ gT := gT_in (List.mem_of_getElem? (i := 110) (by decide +kernel)) (by decide +kernel)
theorem wm_1959 : (Jvm.Cond.code ({ cls := "GrownKindsModel", name := "leansOf", desc := "(I)I" } : Jvm.MethodName) prog_14_method_45_code (6 : Nat) (Option.some Jvm.ClassFile.FieldType.int)) ∈ gT := gT_in (List.mem_of_getElem? (i := 1959) (by decide +kernel)) (by decide +kernel)
theorem dX12_leansIn_106 : decode cX12_leansIn 106 = .ok (.goto 4, 3) := by decide +kernel
theorem dX12_leansIn_65 : decode cX12_leansIn 65 = .ok (.iconst 1, 1) := by decide +kernel
theorem dX12_leansIn_66 : decode cX12_leansIn 66 = .ok (.aload_n 0, 1) := by decide +kernel
theorem dX12_leansIn_67 : decode cX12_leansIn 67 = .ok (.getfield 15, 3) := by decide +kernel
theorem dX12_leansIn_70 : decode cX12_leansIn 70 = .ok (.bipush 48, 2) := by decide +kernel
theorem dX12_leansIn_72 : decode cX12_leansIn 72 = .ok (.iload_n 2, 1) := by decide +kernel
theorem dX12_leansIn_73 : decode cX12_leansIn 73 = .ok (.iadd, 1) := by decide +kernel
theorem dX12_leansIn_74 : decode cX12_leansIn 74 = .ok (.iaload, 1) := by decide +kernel
theorem dX12_leansIn_75 : decode cX12_leansIn 75 = .ok (.ishl, 1) := by decide +kernel
theorem dX12_leansIn_76 : decode cX12_leansIn 76 = .ok (.goto 34, 3) := by decide +kernel
theorem dX12_leansOf_0 : decode cX12_leansOf 0 = .ok (.iconst 0, 1) := by decide +kernel
theorem dX12_leansOf_1 : decode cX12_leansOf 1 = .ok (.istore_n 2, 1) := by decide +kernel
theorem dX12_leansOf_2 : decode cX12_leansOf 2 = .ok (.iconst 0, 1) := by decide +kernel
theorem dX12_leansOf_3 : decode cX12_leansOf 3 = .ok (.istore_n 3, 1) := by decide +kernel
theorem dX12_leansOf_4 : decode cX12_leansOf 4 = .ok (.aload_n 0, 1) := by decide +kernel
theorem dX12_leansOf_5 : decode cX12_leansOf 5 = .ok (.getfield 15, 3) := by decide +kernel
theorem dX12_leansOf_8 : decode cX12_leansOf 8 = .ok (.sipush 168, 3) := by decide +kernel
theorem dX12_leansOf_11 : decode cX12_leansOf 11 = .ok (.iload_n 1, 1) := by decide +kernel
theorem dX12_leansOf_12 : decode cX12_leansOf 12 = .ok (.iadd, 1) := by decide +kernel
theorem dX12_leansOf_13 : decode cX12_leansOf 13 = .ok (.iaload, 1) := by decide +kernel
theorem dX12_leansOf_14 : decode cX12_leansOf 14 = .ok (.istore 4, 2) := by decide +kernel
theorem dX12_leansOf_16 : decode cX12_leansOf 16 = .ok (.iload 4, 2) := by decide +kernel
theorem dX12_leansOf_18 : decode cX12_leansOf 18 = .ok (.ifCond .lt 91, 3) := by decide +kernel
theorem dX12_leansOf_21 : decode cX12_leansOf 21 = .ok (.aload_n 0, 1) := by decide +kernel
theorem dX12_leansOf_22 : decode cX12_leansOf 22 = .ok (.iload_n 1, 1) := by decide +kernel
theorem dX12_leansOf_23 : decode cX12_leansOf 23 = .ok (.iload_n 3, 1) := by decide +kernel
theorem dX12_leansOf_24 : decode cX12_leansOf 24 = .ok (.invokevirtual 231, 3) := by decide +kernel
theorem dX12_leansOf_27 : decode cX12_leansOf 27 = .ok (.ifCond .eq 7, 3) := by decide +kernel
theorem dX12_leansOf_34 : decode cX12_leansOf 34 = .ok (.aload_n 0, 1) := by decide +kernel
theorem dX12_leansOf_35 : decode cX12_leansOf 35 = .ok (.getfield 15, 3) := by decide +kernel
theorem dX12_leansOf_38 : decode cX12_leansOf 38 = .ok (.bipush 120, 2) := by decide +kernel
theorem dX12_leansOf_40 : decode cX12_leansOf 40 = .ok (.iload 4, 2) := by decide +kernel
theorem dX12_leansOf_42 : decode cX12_leansOf 42 = .ok (.iadd, 1) := by decide +kernel
theorem dX12_leansOf_43 : decode cX12_leansOf 43 = .ok (.iaload, 1) := by decide +kernel
theorem dX12_leansOf_30 : decode cX12_leansOf 30 = .ok (.iconst (-1), 1) := by decide +kernel
theorem dX12_leansOf_31 : decode cX12_leansOf 31 = .ok (.goto 13, 3) := by decide +kernel
theorem dX12_leansOf_44 : decode cX12_leansOf 44 = .ok (.istore 5, 2) := by decide +kernel
theorem dX12_leansOf_46 : decode cX12_leansOf 46 = .ok (.iload 5, 2) := by decide +kernel
theorem dX12_leansOf_48 : decode cX12_leansOf 48 = .ok (.ifCond .lt 42, 3) := by decide +kernel
theorem dX12_leansOf_51 : decode cX12_leansOf 51 = .ok (.iload_n 2, 1) := by decide +kernel
theorem dX12_leansOf_52 : decode cX12_leansOf 52 = .ok (.aload_n 0, 1) := by decide +kernel
theorem dX12_leansOf_53 : decode cX12_leansOf 53 = .ok (.iload 4, 2) := by decide +kernel
theorem dX12_leansOf_55 : decode cX12_leansOf 55 = .ok (.iload 5, 2) := by decide +kernel
theorem dX12_leansOf_57 : decode cX12_leansOf 57 = .ok (.invokevirtual 244, 3) := by decide +kernel
theorem dX12_leansOf_60 : decode cX12_leansOf 60 = .ok (.ifCond .eq 12, 3) := by decide +kernel
theorem dX12_leansOf_72 : decode cX12_leansOf 72 = .ok (.iconst 0, 1) := by decide +kernel
theorem dX12_leansOf_63 : decode cX12_leansOf 63 = .ok (.aload_n 0, 1) := by decide +kernel
theorem dX12_leansOf_64 : decode cX12_leansOf 64 = .ok (.iload 5, 2) := by decide +kernel
theorem dX12_leansOf_66 : decode cX12_leansOf 66 = .ok (.invokevirtual 253, 3) := by decide +kernel
theorem wm_1960 : (Jvm.Cond.methodLink "GrownKindsModel" (253 : Nat) ({ cls := "GrownKindsModel", name := "leansIn", desc := "(I)I" } : Jvm.MethodName)) ∈ gT := gT_in (List.mem_of_getElem? (i := 1960) (by decide +kernel)) (by decide +kernel)
theorem wm_1962 : (Jvm.Cond.instanceMethod ({ cls := "GrownKindsModel", name := "leansIn", desc := "(I)I" } : Jvm.MethodName)) ∈ gT := gT_in (List.mem_of_getElem? (i := 1962) (by decide +kernel)) (by decide +kernel)
theorem wm_111 : Cond.selects "GrownKindsModel" ⟨"GrownKindsModel", "leansIn", "(I)I"⟩ ⟨"GrownKindsModel", "leansIn", "(I)I"⟩ ∈ gT := gT_in (List.mem_of_getElem? (i := 111) (by decide +kernel)) (by decide +kernel)
theorem wm_1963 : (Jvm.Cond.code ({ cls := "GrownKindsModel", name := "leansIn", desc := "(I)I" } : Jvm.MethodName) prog_14_method_46_code (3 : Nat) (Option.some Jvm.ClassFile.FieldType.int)) ∈ gT := gT_in (List.mem_of_getElem? (i := 1963) (by decide +kernel)) (by decide +kernel)
theorem dX12_leansOf_69 : decode cX12_leansOf 69 = .ok (.goto 4, 3) := by decide +kernel
theorem dX12_leansOf_73 : decode cX12_leansOf 73 = .ok (.ior, 1) := by decide +kernel
theorem dX12_leansOf_74 : decode cX12_leansOf 74 = .ok (.istore_n 2, 1) := by decide +kernel
theorem dX12_leansOf_75 : decode cX12_leansOf 75 = .ok (.aload_n 0, 1) := by decide +kernel
theorem dX12_leansOf_76 : decode cX12_leansOf 76 = .ok (.getfield 15, 3) := by decide +kernel
theorem dX12_leansOf_79 : decode cX12_leansOf 79 = .ok (.bipush 96, 2) := by decide +kernel
theorem dX12_leansOf_81 : decode cX12_leansOf 81 = .ok (.iload 5, 2) := by decide +kernel
theorem dX12_leansOf_83 : decode cX12_leansOf 83 = .ok (.iadd, 1) := by decide +kernel
theorem dX12_leansOf_84 : decode cX12_leansOf 84 = .ok (.iaload, 1) := by decide +kernel
theorem dX12_leansOf_85 : decode cX12_leansOf 85 = .ok (.istore 5, 2) := by decide +kernel
theorem dX12_leansOf_87 : decode cX12_leansOf 87 = .ok (.goto (-41), 3) := by decide +kernel
theorem dX12_leansOf_90 : decode cX12_leansOf 90 = .ok (.iinc 3 1, 3) := by decide +kernel
theorem dX12_leansOf_93 : decode cX12_leansOf 93 = .ok (.aload_n 0, 1) := by decide +kernel
theorem dX12_leansOf_94 : decode cX12_leansOf 94 = .ok (.getfield 15, 3) := by decide +kernel
theorem dX12_leansOf_97 : decode cX12_leansOf 97 = .ok (.sipush 144, 3) := by decide +kernel
theorem dX12_leansOf_100 : decode cX12_leansOf 100 = .ok (.iload 4, 2) := by decide +kernel
theorem dX12_leansOf_102 : decode cX12_leansOf 102 = .ok (.iadd, 1) := by decide +kernel
theorem dX12_leansOf_103 : decode cX12_leansOf 103 = .ok (.iaload, 1) := by decide +kernel
theorem dX12_leansOf_104 : decode cX12_leansOf 104 = .ok (.istore 4, 2) := by decide +kernel
theorem dX12_leansOf_106 : decode cX12_leansOf 106 = .ok (.goto (-90), 3) := by decide +kernel
theorem dX12_leansOf_109 : decode cX12_leansOf 109 = .ok (.iload_n 2, 1) := by decide +kernel
theorem dX12_leansOf_110 : decode cX12_leansOf 110 = .ok (.ireturn, 1) := by decide +kernel
theorem dX12_isOfEmpty_0 : decode cX12_isOfEmpty 0 = .ok (.aload_n 0, 1) := by decide +kernel
theorem dX12_isOfEmpty_1 : decode cX12_isOfEmpty 1 = .ok (.getfield 15, 3) := by decide +kernel
theorem dX12_isOfEmpty_4 : decode cX12_isOfEmpty 4 = .ok (.sipush 168, 3) := by decide +kernel
theorem dX12_isOfEmpty_7 : decode cX12_isOfEmpty 7 = .ok (.iload_n 1, 1) := by decide +kernel
theorem dX12_isOfEmpty_8 : decode cX12_isOfEmpty 8 = .ok (.iadd, 1) := by decide +kernel
theorem dX12_isOfEmpty_9 : decode cX12_isOfEmpty 9 = .ok (.iaload, 1) := by decide +kernel
theorem dX12_isOfEmpty_10 : decode cX12_isOfEmpty 10 = .ok (.istore_n 2, 1) := by decide +kernel
theorem dX12_isOfEmpty_11 : decode cX12_isOfEmpty 11 = .ok (.iload_n 2, 1) := by decide +kernel
theorem dX12_isOfEmpty_12 : decode cX12_isOfEmpty 12 = .ok (.ifCond .lt 128, 3) := by decide +kernel
theorem dX12_isOfEmpty_15 : decode cX12_isOfEmpty 15 = .ok (.aload_n 0, 1) := by decide +kernel
theorem dX12_isOfEmpty_16 : decode cX12_isOfEmpty 16 = .ok (.getfield 15, 3) := by decide +kernel
theorem dX12_isOfEmpty_19 : decode cX12_isOfEmpty 19 = .ok (.bipush 120, 2) := by decide +kernel
theorem dX12_isOfEmpty_21 : decode cX12_isOfEmpty 21 = .ok (.iload_n 2, 1) := by decide +kernel
theorem dX12_isOfEmpty_22 : decode cX12_isOfEmpty 22 = .ok (.iadd, 1) := by decide +kernel
theorem dX12_isOfEmpty_23 : decode cX12_isOfEmpty 23 = .ok (.iaload, 1) := by decide +kernel
theorem dX12_isOfEmpty_24 : decode cX12_isOfEmpty 24 = .ok (.istore_n 3, 1) := by decide +kernel
theorem dX12_isOfEmpty_25 : decode cX12_isOfEmpty 25 = .ok (.iload_n 3, 1) := by decide +kernel
theorem dX12_isOfEmpty_26 : decode cX12_isOfEmpty 26 = .ok (.ifCond .lt 100, 3) := by decide +kernel
theorem dX12_isOfEmpty_29 : decode cX12_isOfEmpty 29 = .ok (.iload_n 3, 1) := by decide +kernel
theorem dX12_isOfEmpty_30 : decode cX12_isOfEmpty 30 = .ok (.istore 4, 2) := by decide +kernel
theorem dX12_isOfEmpty_32 : decode cX12_isOfEmpty 32 = .ok (.aload_n 0, 1) := by decide +kernel
theorem dX12_isOfEmpty_33 : decode cX12_isOfEmpty 33 = .ok (.getfield 15, 3) := by decide +kernel
theorem dX12_isOfEmpty_36 : decode cX12_isOfEmpty 36 = .ok (.bipush 24, 2) := by decide +kernel
theorem dX12_isOfEmpty_38 : decode cX12_isOfEmpty 38 = .ok (.iload 4, 2) := by decide +kernel
theorem dX12_isOfEmpty_40 : decode cX12_isOfEmpty 40 = .ok (.iadd, 1) := by decide +kernel
theorem dX12_isOfEmpty_41 : decode cX12_isOfEmpty 41 = .ok (.iaload, 1) := by decide +kernel
theorem dX12_isOfEmpty_42 : decode cX12_isOfEmpty 42 = .ok (.i2l, 1) := by decide +kernel
theorem dX12_isOfEmpty_43 : decode cX12_isOfEmpty 43 = .ok (.ldc2_w 237, 3) := by decide +kernel
theorem dX12_isOfEmpty_46 : decode cX12_isOfEmpty 46 = .ok (.ldc2_w 239, 3) := by decide +kernel
theorem dX12_isOfEmpty_49 : decode cX12_isOfEmpty 49 = .ok (.invokestatic 97, 3) := by decide +kernel
theorem dX12_isOfEmpty_52 : decode cX12_isOfEmpty 52 = .ok (.ifCond .eq 27, 3) := by decide +kernel
theorem dX12_isOfEmpty_55 : decode cX12_isOfEmpty 55 = .ok (.aload_n 0, 1) := by decide +kernel
theorem dX12_isOfEmpty_56 : decode cX12_isOfEmpty 56 = .ok (.getfield 15, 3) := by decide +kernel
theorem dX12_isOfEmpty_59 : decode cX12_isOfEmpty 59 = .ok (.bipush 72, 2) := by decide +kernel
theorem dX12_isOfEmpty_61 : decode cX12_isOfEmpty 61 = .ok (.iload 4, 2) := by decide +kernel
theorem dX12_isOfEmpty_63 : decode cX12_isOfEmpty 63 = .ok (.iadd, 1) := by decide +kernel
theorem dX12_isOfEmpty_64 : decode cX12_isOfEmpty 64 = .ok (.iaload, 1) := by decide +kernel
theorem dX12_isOfEmpty_65 : decode cX12_isOfEmpty 65 = .ok (.istore 4, 2) := by decide +kernel
theorem dX12_isOfEmpty_67 : decode cX12_isOfEmpty 67 = .ok (.aload_n 0, 1) := by decide +kernel
theorem dX12_isOfEmpty_68 : decode cX12_isOfEmpty 68 = .ok (.getfield 35, 3) := by decide +kernel
theorem dX12_isOfEmpty_71 : decode cX12_isOfEmpty 71 = .ok (.iload 4, 2) := by decide +kernel
theorem dX12_isOfEmpty_73 : decode cX12_isOfEmpty 73 = .ok (.baload, 1) := by decide +kernel
theorem dX12_isOfEmpty_74 : decode cX12_isOfEmpty 74 = .ok (.ifCond .eq (-42), 3) := by decide +kernel
theorem dX12_isOfEmpty_79 : decode cX12_isOfEmpty 79 = .ok (.aload_n 0, 1) := by decide +kernel
theorem dX12_isOfEmpty_80 : decode cX12_isOfEmpty 80 = .ok (.getfield 15, 3) := by decide +kernel
theorem dX12_isOfEmpty_83 : decode cX12_isOfEmpty 83 = .ok (.bipush 24, 2) := by decide +kernel
theorem dX12_isOfEmpty_85 : decode cX12_isOfEmpty 85 = .ok (.iload 4, 2) := by decide +kernel
theorem dX12_isOfEmpty_87 : decode cX12_isOfEmpty 87 = .ok (.iadd, 1) := by decide +kernel
theorem dX12_isOfEmpty_88 : decode cX12_isOfEmpty 88 = .ok (.iaload, 1) := by decide +kernel
theorem dX12_isOfEmpty_89 : decode cX12_isOfEmpty 89 = .ok (.bipush 7, 2) := by decide +kernel
theorem dX12_isOfEmpty_91 : decode cX12_isOfEmpty 91 = .ok (.if_icmp .ne 22, 3) := by decide +kernel
theorem dX12_isOfEmpty_94 : decode cX12_isOfEmpty 94 = .ok (.aload_n 0, 1) := by decide +kernel
theorem dX12_isOfEmpty_95 : decode cX12_isOfEmpty 95 = .ok (.aload_n 0, 1) := by decide +kernel
theorem dX12_isOfEmpty_96 : decode cX12_isOfEmpty 96 = .ok (.getfield 15, 3) := by decide +kernel
theorem dX12_isOfEmpty_99 : decode cX12_isOfEmpty 99 = .ok (.bipush 48, 2) := by decide +kernel
theorem dX12_isOfEmpty_101 : decode cX12_isOfEmpty 101 = .ok (.iload 4, 2) := by decide +kernel
theorem dX12_isOfEmpty_103 : decode cX12_isOfEmpty 103 = .ok (.iadd, 1) := by decide +kernel
theorem dX12_isOfEmpty_104 : decode cX12_isOfEmpty 104 = .ok (.iaload, 1) := by decide +kernel
theorem dX12_isOfEmpty_105 : decode cX12_isOfEmpty 105 = .ok (.invokevirtual 259, 3) := by decide +kernel
theorem wm_1966 : (Jvm.Cond.methodLink "GrownKindsModel" (259 : Nat) ({ cls := "GrownKindsModel", name := "isOfEmpty", desc := "(I)Z" } : Jvm.MethodName)) ∈ gT := gT_in (List.mem_of_getElem? (i := 1966) (by decide +kernel)) (by decide +kernel)
theorem wm_1968 : (Jvm.Cond.instanceMethod ({ cls := "GrownKindsModel", name := "isOfEmpty", desc := "(I)Z" } : Jvm.MethodName)) ∈ gT := gT_in (List.mem_of_getElem? (i := 1968) (by decide +kernel)) (by decide +kernel)
theorem wm_112 : Cond.selects "GrownKindsModel" ⟨"GrownKindsModel", "isOfEmpty", "(I)Z"⟩ ⟨"GrownKindsModel", "isOfEmpty", "(I)Z"⟩ ∈ gT := gT_in (List.mem_of_getElem? (i := 112) (by decide +kernel)) (by decide +kernel)
theorem wm_1969 : (Jvm.Cond.code ({ cls := "GrownKindsModel", name := "isOfEmpty", desc := "(I)Z" } : Jvm.MethodName) prog_14_method_47_code (5 : Nat) (Option.some Jvm.ClassFile.FieldType.boolean)) ∈ gT := gT_in (List.mem_of_getElem? (i := 1969) (by decide +kernel)) (by decide +kernel)
theorem dX12_isOfEmpty_108 : decode cX12_isOfEmpty 108 = .ok (.ifCond .eq 5, 3) := by decide +kernel
theorem dX12_isOfEmpty_113 : decode cX12_isOfEmpty 113 = .ok (.aload_n 0, 1) := by decide +kernel
theorem dX12_isOfEmpty_114 : decode cX12_isOfEmpty 114 = .ok (.getfield 15, 3) := by decide +kernel
theorem dX12_isOfEmpty_117 : decode cX12_isOfEmpty 117 = .ok (.bipush 96, 2) := by decide +kernel
theorem dX12_isOfEmpty_119 : decode cX12_isOfEmpty 119 = .ok (.iload_n 3, 1) := by decide +kernel
theorem dX12_isOfEmpty_120 : decode cX12_isOfEmpty 120 = .ok (.iadd, 1) := by decide +kernel
theorem dX12_isOfEmpty_121 : decode cX12_isOfEmpty 121 = .ok (.iaload, 1) := by decide +kernel
theorem dX12_isOfEmpty_122 : decode cX12_isOfEmpty 122 = .ok (.istore_n 3, 1) := by decide +kernel
theorem dX12_isOfEmpty_123 : decode cX12_isOfEmpty 123 = .ok (.goto (-98), 3) := by decide +kernel
theorem dX12_isOfEmpty_126 : decode cX12_isOfEmpty 126 = .ok (.aload_n 0, 1) := by decide +kernel
theorem dX12_isOfEmpty_127 : decode cX12_isOfEmpty 127 = .ok (.getfield 15, 3) := by decide +kernel
theorem dX12_isOfEmpty_130 : decode cX12_isOfEmpty 130 = .ok (.sipush 144, 3) := by decide +kernel
theorem dX12_isOfEmpty_133 : decode cX12_isOfEmpty 133 = .ok (.iload_n 2, 1) := by decide +kernel
theorem dX12_isOfEmpty_134 : decode cX12_isOfEmpty 134 = .ok (.iadd, 1) := by decide +kernel
theorem dX12_isOfEmpty_135 : decode cX12_isOfEmpty 135 = .ok (.iaload, 1) := by decide +kernel
theorem dX12_isOfEmpty_136 : decode cX12_isOfEmpty 136 = .ok (.istore_n 2, 1) := by decide +kernel
theorem dX12_isOfEmpty_137 : decode cX12_isOfEmpty 137 = .ok (.goto (-126), 3) := by decide +kernel
theorem dX12_isOfEmpty_77 : decode cX12_isOfEmpty 77 = .ok (.iconst 1, 1) := by decide +kernel
theorem dX12_isOfEmpty_78 : decode cX12_isOfEmpty 78 = .ok (.ireturn, 1) := by decide +kernel
theorem dX12_isOfEmpty_111 : decode cX12_isOfEmpty 111 = .ok (.iconst 1, 1) := by decide +kernel
theorem dX12_isOfEmpty_112 : decode cX12_isOfEmpty 112 = .ok (.ireturn, 1) := by decide +kernel
theorem dX12_isOfEmpty_140 : decode cX12_isOfEmpty 140 = .ok (.iconst 0, 1) := by decide +kernel
theorem dX12_isOfEmpty_141 : decode cX12_isOfEmpty 141 = .ok (.ireturn, 1) := by decide +kernel
theorem dX12_wrongKind_0 : decode cX12_wrongKind 0 = .ok (.aload_n 0, 1) := by decide +kernel
theorem dX12_wrongKind_1 : decode cX12_wrongKind 1 = .ok (.invokevirtual 262, 3) := by decide +kernel
theorem dX12_wrongKind_4 : decode cX12_wrongKind 4 = .ok (.iconst 0, 1) := by decide +kernel
theorem dX12_wrongKind_5 : decode cX12_wrongKind 5 = .ok (.istore_n 1, 1) := by decide +kernel
theorem dX12_wrongKind_6 : decode cX12_wrongKind 6 = .ok (.iload_n 1, 1) := by decide +kernel
theorem dX12_wrongKind_7 : decode cX12_wrongKind 7 = .ok (.aload_n 0, 1) := by decide +kernel
theorem dX12_wrongKind_8 : decode cX12_wrongKind 8 = .ok (.getfield 15, 3) := by decide +kernel
theorem dX12_wrongKind_11 : decode cX12_wrongKind 11 = .ok (.iconst 0, 1) := by decide +kernel
theorem dX12_wrongKind_12 : decode cX12_wrongKind 12 = .ok (.iaload, 1) := by decide +kernel
theorem dX12_wrongKind_13 : decode cX12_wrongKind 13 = .ok (.if_icmp .ge 89, 3) := by decide +kernel
theorem dX12_wrongKind_16 : decode cX12_wrongKind 16 = .ok (.aload_n 0, 1) := by decide +kernel
theorem dX12_wrongKind_17 : decode cX12_wrongKind 17 = .ok (.iload_n 1, 1) := by decide +kernel
theorem dX12_wrongKind_18 : decode cX12_wrongKind 18 = .ok (.invokevirtual 256, 3) := by decide +kernel
theorem dX12_wrongKind_21 : decode cX12_wrongKind 21 = .ok (.istore_n 2, 1) := by decide +kernel
theorem dX12_wrongKind_22 : decode cX12_wrongKind 22 = .ok (.iconst 0, 1) := by decide +kernel
theorem dX12_wrongKind_23 : decode cX12_wrongKind 23 = .ok (.istore_n 3, 1) := by decide +kernel
theorem dX12_wrongKind_24 : decode cX12_wrongKind 24 = .ok (.iload_n 3, 1) := by decide +kernel
theorem dX12_wrongKind_25 : decode cX12_wrongKind 25 = .ok (.bipush 6, 2) := by decide +kernel
theorem dX12_wrongKind_27 : decode cX12_wrongKind 27 = .ok (.if_icmp .ge 51, 3) := by decide +kernel
theorem dX12_wrongKind_30 : decode cX12_wrongKind 30 = .ok (.iconst 0, 1) := by decide +kernel
theorem dX12_wrongKind_31 : decode cX12_wrongKind 31 = .ok (.istore 4, 2) := by decide +kernel
theorem dX12_wrongKind_33 : decode cX12_wrongKind 33 = .ok (.iload 4, 2) := by decide +kernel
theorem dX12_wrongKind_35 : decode cX12_wrongKind 35 = .ok (.aload_n 0, 1) := by decide +kernel
theorem dX12_wrongKind_36 : decode cX12_wrongKind 36 = .ok (.getfield 15, 3) := by decide +kernel
theorem dX12_wrongKind_39 : decode cX12_wrongKind 39 = .ok (.iconst 0, 1) := by decide +kernel
theorem dX12_wrongKind_40 : decode cX12_wrongKind 40 = .ok (.iaload, 1) := by decide +kernel
theorem dX12_wrongKind_41 : decode cX12_wrongKind 41 = .ok (.if_icmp .ge 31, 3) := by decide +kernel
theorem dX12_wrongKind_44 : decode cX12_wrongKind 44 = .ok (.iload_n 2, 1) := by decide +kernel
theorem dX12_wrongKind_45 : decode cX12_wrongKind 45 = .ok (.iload_n 2, 1) := by decide +kernel
theorem dX12_wrongKind_46 : decode cX12_wrongKind 46 = .ok (.iload 4, 2) := by decide +kernel
theorem dX12_wrongKind_48 : decode cX12_wrongKind 48 = .ok (.invokestatic 228, 3) := by decide +kernel
theorem dX12_wrongKind_51 : decode cX12_wrongKind 51 = .ok (.ifCond .eq 12, 3) := by decide +kernel
theorem dX12_wrongKind_63 : decode cX12_wrongKind 63 = .ok (.iconst 0, 1) := by decide +kernel
theorem dX12_wrongKind_64 : decode cX12_wrongKind 64 = .ok (.ior, 1) := by decide +kernel
theorem dX12_wrongKind_65 : decode cX12_wrongKind 65 = .ok (.istore_n 2, 1) := by decide +kernel
theorem dX12_wrongKind_66 : decode cX12_wrongKind 66 = .ok (.iinc 4 1, 3) := by decide +kernel
theorem dX12_wrongKind_69 : decode cX12_wrongKind 69 = .ok (.goto (-36), 3) := by decide +kernel
theorem dX12_wrongKind_54 : decode cX12_wrongKind 54 = .ok (.aload_n 0, 1) := by decide +kernel
theorem dX12_wrongKind_55 : decode cX12_wrongKind 55 = .ok (.iload 4, 2) := by decide +kernel
theorem dX12_wrongKind_57 : decode cX12_wrongKind 57 = .ok (.invokevirtual 256, 3) := by decide +kernel
theorem dX12_wrongKind_60 : decode cX12_wrongKind 60 = .ok (.goto 4, 3) := by decide +kernel
theorem dX12_wrongKind_72 : decode cX12_wrongKind 72 = .ok (.iinc 3 1, 3) := by decide +kernel
theorem dX12_wrongKind_75 : decode cX12_wrongKind 75 = .ok (.goto (-51), 3) := by decide +kernel
theorem dX12_wrongKind_78 : decode cX12_wrongKind 78 = .ok (.iload_n 2, 1) := by decide +kernel
theorem dX12_wrongKind_79 : decode cX12_wrongKind 79 = .ok (.iload_n 1, 1) := by decide +kernel
theorem dX12_wrongKind_80 : decode cX12_wrongKind 80 = .ok (.invokestatic 228, 3) := by decide +kernel
theorem dX12_wrongKind_83 : decode cX12_wrongKind 83 = .ok (.ifCond .ne 11, 3) := by decide +kernel
theorem dX12_wrongKind_86 : decode cX12_wrongKind 86 = .ok (.aload_n 0, 1) := by decide +kernel
theorem dX12_wrongKind_87 : decode cX12_wrongKind 87 = .ok (.iload_n 1, 1) := by decide +kernel
theorem dX12_wrongKind_88 : decode cX12_wrongKind 88 = .ok (.invokevirtual 259, 3) := by decide +kernel
theorem dX12_wrongKind_91 : decode cX12_wrongKind 91 = .ok (.ifCond .eq 5, 3) := by decide +kernel
theorem dX12_wrongKind_96 : decode cX12_wrongKind 96 = .ok (.iinc 1 1, 3) := by decide +kernel
theorem dX12_wrongKind_99 : decode cX12_wrongKind 99 = .ok (.goto (-93), 3) := by decide +kernel
theorem dX12_wrongKind_94 : decode cX12_wrongKind 94 = .ok (.iload_n 1, 1) := by decide +kernel
theorem dX12_wrongKind_95 : decode cX12_wrongKind 95 = .ok (.ireturn, 1) := by decide +kernel
theorem dX12_wrongKind_102 : decode cX12_wrongKind 102 = .ok (.iconst (-1), 1) := by decide +kernel
theorem dX12_wrongKind_103 : decode cX12_wrongKind 103 = .ok (.ireturn, 1) := by decide +kernel
theorem dX12_leans_0 : decode cX12_leans 0 = .ok (.aload_n 0, 1) := by decide +kernel
theorem dX12_leans_1 : decode cX12_leans 1 = .ok (.iload_n 1, 1) := by decide +kernel
theorem dX12_leans_2 : decode cX12_leans 2 = .ok (.invokevirtual 225, 3) := by decide +kernel
theorem dX12_leans_5 : decode cX12_leans 5 = .ok (.ifCond .ne 6, 3) := by decide +kernel
theorem dX12_leans_11 : decode cX12_leans 11 = .ok (.aload_n 0, 1) := by decide +kernel
theorem dX12_leans_12 : decode cX12_leans 12 = .ok (.invokevirtual 262, 3) := by decide +kernel
theorem dX12_leans_15 : decode cX12_leans 15 = .ok (.aload_n 0, 1) := by decide +kernel
theorem dX12_leans_16 : decode cX12_leans 16 = .ok (.iload_n 1, 1) := by decide +kernel
theorem dX12_leans_17 : decode cX12_leans 17 = .ok (.invokevirtual 256, 3) := by decide +kernel
theorem dX12_leans_20 : decode cX12_leans 20 = .ok (.ireturn, 1) := by decide +kernel
theorem dX12_leans_8 : decode cX12_leans 8 = .ok (.bipush (-2), 2) := by decide +kernel
theorem dX12_leans_10 : decode cX12_leans 10 = .ok (.ireturn, 1) := by decide +kernel
theorem dX12_rowsOf_0 : decode cX12_rowsOf 0 = .ok (.iload_n 2, 1) := by decide +kernel
theorem dX12_rowsOf_1 : decode cX12_rowsOf 1 = .ok (.ifCond .ne 13, 3) := by decide +kernel
theorem dX12_rowsOf_14 : decode cX12_rowsOf 14 = .ok (.iload_n 3, 1) := by decide +kernel
theorem dX12_rowsOf_15 : decode cX12_rowsOf 15 = .ok (.ifCond .ne 5, 3) := by decide +kernel
theorem dX12_rowsOf_20 : decode cX12_rowsOf 20 = .ok (.lconst 0, 1) := by decide +kernel
theorem dX12_rowsOf_21 : decode cX12_rowsOf 21 = .ok (.lstore 4, 2) := by decide +kernel
theorem dX12_rowsOf_23 : decode cX12_rowsOf 23 = .ok (.iconst 1, 1) := by decide +kernel
theorem dX12_rowsOf_24 : decode cX12_rowsOf 24 = .ok (.istore 6, 2) := by decide +kernel
theorem dX12_rowsOf_26 : decode cX12_rowsOf 26 = .ok (.iload 6, 2) := by decide +kernel
theorem dX12_rowsOf_28 : decode cX12_rowsOf 28 = .ok (.iload_n 2, 1) := by decide +kernel
theorem dX12_rowsOf_29 : decode cX12_rowsOf 29 = .ok (.if_icmp .gt 67, 3) := by decide +kernel
theorem dX12_rowsOf_32 : decode cX12_rowsOf 32 = .ok (.aload_n 0, 1) := by decide +kernel
theorem dX12_rowsOf_33 : decode cX12_rowsOf 33 = .ok (.getfield 39, 3) := by decide +kernel
theorem dX12_rowsOf_36 : decode cX12_rowsOf 36 = .ok (.iload_n 1, 1) := by decide +kernel
theorem dX12_rowsOf_37 : decode cX12_rowsOf 37 = .ok (.iload 6, 2) := by decide +kernel
theorem dX12_rowsOf_39 : decode cX12_rowsOf 39 = .ok (.iconst 0, 1) := by decide +kernel
theorem dX12_rowsOf_40 : decode cX12_rowsOf 40 = .ok (.invokestatic 276, 3) := by decide +kernel
theorem dX12_rowsOf_43 : decode cX12_rowsOf 43 = .ok (.laload, 1) := by decide +kernel
theorem dX12_rowsOf_44 : decode cX12_rowsOf 44 = .ok (.lconst 0, 1) := by decide +kernel
theorem dX12_rowsOf_45 : decode cX12_rowsOf 45 = .ok (.lcmp, 1) := by decide +kernel
theorem dX12_rowsOf_46 : decode cX12_rowsOf 46 = .ok (.ifCond .le 44, 3) := by decide +kernel
theorem dX12_rowsOf_90 : decode cX12_rowsOf 90 = .ok (.iinc 6 1, 3) := by decide +kernel
theorem dX12_rowsOf_93 : decode cX12_rowsOf 93 = .ok (.goto (-67), 3) := by decide +kernel
theorem dX12_rowsOf_49 : decode cX12_rowsOf 49 = .ok (.lload 4, 2) := by decide +kernel
theorem dX12_rowsOf_51 : decode cX12_rowsOf 51 = .ok (.aload_n 0, 1) := by decide +kernel
theorem dX12_rowsOf_52 : decode cX12_rowsOf 52 = .ok (.getfield 39, 3) := by decide +kernel
theorem dX12_rowsOf_55 : decode cX12_rowsOf 55 = .ok (.iload_n 1, 1) := by decide +kernel
theorem dX12_rowsOf_56 : decode cX12_rowsOf 56 = .ok (.iload 6, 2) := by decide +kernel
theorem dX12_rowsOf_58 : decode cX12_rowsOf 58 = .ok (.iconst 0, 1) := by decide +kernel
theorem dX12_rowsOf_59 : decode cX12_rowsOf 59 = .ok (.invokestatic 276, 3) := by decide +kernel
theorem dX12_rowsOf_62 : decode cX12_rowsOf 62 = .ok (.laload, 1) := by decide +kernel
theorem dX12_rowsOf_63 : decode cX12_rowsOf 63 = .ok (.aload_n 0, 1) := by decide +kernel
theorem dX12_rowsOf_64 : decode cX12_rowsOf 64 = .ok (.iload_n 1, 1) := by decide +kernel
theorem dX12_rowsOf_65 : decode cX12_rowsOf 65 = .ok (.iload_n 2, 1) := by decide +kernel
theorem dX12_rowsOf_66 : decode cX12_rowsOf 66 = .ok (.iload 6, 2) := by decide +kernel
theorem dX12_rowsOf_68 : decode cX12_rowsOf 68 = .ok (.isub, 1) := by decide +kernel
theorem dX12_rowsOf_69 : decode cX12_rowsOf 69 = .ok (.iload_n 3, 1) := by decide +kernel
theorem dX12_rowsOf_70 : decode cX12_rowsOf 70 = .ok (.invokestatic 450, 3) := by decide +kernel
theorem wm_2215 : (Jvm.Cond.methodLink "GrownKindsModel" (450 : Nat) ({ cls := "GrownKindsModel", name := "less", desc := "(I)I" } : Jvm.MethodName)) ∈ gT := gT_in (List.mem_of_getElem? (i := 2215) (by decide +kernel)) (by decide +kernel)
theorem wm_2216 : (Jvm.Cond.static ({ cls := "GrownKindsModel", name := "less", desc := "(I)I" } : Jvm.MethodName)) ∈ gT := gT_in (List.mem_of_getElem? (i := 2216) (by decide +kernel)) (by decide +kernel)
theorem wm_2217 : (Jvm.Cond.code ({ cls := "GrownKindsModel", name := "less", desc := "(I)I" } : Jvm.MethodName) prog_14_method_97_code (1 : Nat) (Option.some Jvm.ClassFile.FieldType.int)) ∈ gT := gT_in (List.mem_of_getElem? (i := 2217) (by decide +kernel)) (by decide +kernel)
theorem dX12_rowsOf_73 : decode cX12_rowsOf 73 = .ok (.invokevirtual 453, 3) := by decide +kernel
theorem wm_2218 : (Jvm.Cond.methodLink "GrownKindsModel" (453 : Nat) ({ cls := "GrownKindsModel", name := "rowsOf", desc := "(III)J" } : Jvm.MethodName)) ∈ gT := gT_in (List.mem_of_getElem? (i := 2218) (by decide +kernel)) (by decide +kernel)
theorem wm_2220 : (Jvm.Cond.instanceMethod ({ cls := "GrownKindsModel", name := "rowsOf", desc := "(III)J" } : Jvm.MethodName)) ∈ gT := gT_in (List.mem_of_getElem? (i := 2220) (by decide +kernel)) (by decide +kernel)
theorem wm_146 : Cond.selects "GrownKindsModel" ⟨"GrownKindsModel", "rowsOf", "(III)J"⟩ ⟨"GrownKindsModel", "rowsOf", "(III)J"⟩ ∈ gT := gT_in (List.mem_of_getElem? (i := 146) (by decide +kernel)) (by decide +kernel)
theorem wm_2221 : (Jvm.Cond.code ({ cls := "GrownKindsModel", name := "rowsOf", desc := "(III)J" } : Jvm.MethodName) prog_14_method_98_code (7 : Nat) (Option.some Jvm.ClassFile.FieldType.long)) ∈ gT := gT_in (List.mem_of_getElem? (i := 2221) (by decide +kernel)) (by decide +kernel)
theorem dX12_rowsOf_76 : decode cX12_rowsOf 76 = .ok (.ldc2_w 280, 3) := by decide +kernel
theorem dX12_rowsOf_79 : decode cX12_rowsOf 79 = .ok (.invokestatic 286, 3) := by decide +kernel
theorem dX12_rowsOf_82 : decode cX12_rowsOf 82 = .ok (.ldc2_w 280, 3) := by decide +kernel
theorem dX12_rowsOf_85 : decode cX12_rowsOf 85 = .ok (.invokestatic 282, 3) := by decide +kernel
theorem dX12_rowsOf_88 : decode cX12_rowsOf 88 = .ok (.lstore 4, 2) := by decide +kernel
theorem dX12_rowsOf_96 : decode cX12_rowsOf 96 = .ok (.lload 4, 2) := by decide +kernel
theorem dX12_rowsOf_98 : decode cX12_rowsOf 98 = .ok (.lreturn, 1) := by decide +kernel
theorem dX12_rowsOf_18 : decode cX12_rowsOf 18 = .ok (.lconst 0, 1) := by decide +kernel
theorem dX12_rowsOf_19 : decode cX12_rowsOf 19 = .ok (.lreturn, 1) := by decide +kernel
theorem dX12_rowsOf_4 : decode cX12_rowsOf 4 = .ok (.iload_n 3, 1) := by decide +kernel
theorem dX12_rowsOf_5 : decode cX12_rowsOf 5 = .ok (.ifCond .gt 7, 3) := by decide +kernel
theorem dX12_rowsOf_12 : decode cX12_rowsOf 12 = .ok (.lconst 0, 1) := by decide +kernel
theorem dX12_rowsOf_13 : decode cX12_rowsOf 13 = .ok (.lreturn, 1) := by decide +kernel
theorem dX12_rowsOf_8 : decode cX12_rowsOf 8 = .ok (.lconst 1, 1) := by decide +kernel
theorem dX12_rowsOf_9 : decode cX12_rowsOf 9 = .ok (.goto 4, 3) := by decide +kernel
theorem dX12_findsRow_0 : decode cX12_findsRow 0 = .ok (.iload_n 2, 1) := by decide +kernel
theorem dX12_findsRow_1 : decode cX12_findsRow 1 = .ok (.istore 4, 2) := by decide +kernel
theorem dX12_findsRow_3 : decode cX12_findsRow 3 = .ok (.iload_n 3, 1) := by decide +kernel
theorem dX12_findsRow_4 : decode cX12_findsRow 4 = .ok (.istore 5, 2) := by decide +kernel
theorem dX12_findsRow_6 : decode cX12_findsRow 6 = .ok (.iload 4, 2) := by decide +kernel
theorem dX12_findsRow_8 : decode cX12_findsRow 8 = .ok (.ifCond .le 153, 3) := by decide +kernel
theorem dX12_findsRow_11 : decode cX12_findsRow 11 = .ok (.iconst 1, 1) := by decide +kernel
theorem dX12_findsRow_12 : decode cX12_findsRow 12 = .ok (.istore 6, 2) := by decide +kernel
theorem dX12_findsRow_14 : decode cX12_findsRow 14 = .ok (.iload 5, 2) := by decide +kernel
theorem dX12_findsRow_16 : decode cX12_findsRow 16 = .ok (.invokestatic 450, 3) := by decide +kernel
theorem dX12_findsRow_19 : decode cX12_findsRow 19 = .ok (.istore 5, 2) := by decide +kernel
theorem dX12_findsRow_21 : decode cX12_findsRow 21 = .ok (.aload_n 0, 1) := by decide +kernel
theorem dX12_findsRow_22 : decode cX12_findsRow 22 = .ok (.getfield 39, 3) := by decide +kernel
theorem dX12_findsRow_25 : decode cX12_findsRow 25 = .ok (.iload_n 1, 1) := by decide +kernel
theorem dX12_findsRow_26 : decode cX12_findsRow 26 = .ok (.iload 6, 2) := by decide +kernel
theorem dX12_findsRow_28 : decode cX12_findsRow 28 = .ok (.iconst 0, 1) := by decide +kernel
theorem dX12_findsRow_29 : decode cX12_findsRow 29 = .ok (.invokestatic 276, 3) := by decide +kernel
theorem dX12_findsRow_32 : decode cX12_findsRow 32 = .ok (.laload, 1) := by decide +kernel
theorem dX12_findsRow_33 : decode cX12_findsRow 33 = .ok (.aload_n 0, 1) := by decide +kernel
theorem dX12_findsRow_34 : decode cX12_findsRow 34 = .ok (.iload_n 1, 1) := by decide +kernel
theorem dX12_findsRow_35 : decode cX12_findsRow 35 = .ok (.iload 4, 2) := by decide +kernel
theorem dX12_findsRow_37 : decode cX12_findsRow 37 = .ok (.iload 6, 2) := by decide +kernel
theorem dX12_findsRow_39 : decode cX12_findsRow 39 = .ok (.isub, 1) := by decide +kernel
theorem dX12_findsRow_40 : decode cX12_findsRow 40 = .ok (.iload 5, 2) := by decide +kernel
theorem dX12_findsRow_42 : decode cX12_findsRow 42 = .ok (.invokevirtual 453, 3) := by decide +kernel
theorem dX12_findsRow_45 : decode cX12_findsRow 45 = .ok (.ldc2_w 280, 3) := by decide +kernel
theorem dX12_findsRow_48 : decode cX12_findsRow 48 = .ok (.invokestatic 286, 3) := by decide +kernel
theorem dX12_findsRow_51 : decode cX12_findsRow 51 = .ok (.lstore 7, 2) := by decide +kernel
theorem dX12_findsRow_53 : decode cX12_findsRow 53 = .ok (.aload_n 0, 1) := by decide +kernel
theorem dX12_findsRow_54 : decode cX12_findsRow 54 = .ok (.getfield 420, 3) := by decide +kernel
theorem wm_1705 : (Jvm.Cond.fieldLink "GrownKindsModel" (420 : Nat) "GrownKindsModel" "left" "J") ∈ gT := gT_in (List.mem_of_getElem? (i := 1705) (by decide +kernel)) (by decide +kernel)
theorem dX12_findsRow_57 : decode cX12_findsRow 57 = .ok (.lload 7, 2) := by decide +kernel
theorem dX12_findsRow_59 : decode cX12_findsRow 59 = .ok (.lcmp, 1) := by decide +kernel
theorem dX12_findsRow_60 : decode cX12_findsRow 60 = .ok (.ifCond .lt 52, 3) := by decide +kernel
theorem dX12_findsRow_63 : decode cX12_findsRow 63 = .ok (.aload_n 0, 1) := by decide +kernel
theorem dX12_findsRow_64 : decode cX12_findsRow 64 = .ok (.dup, 1) := by decide +kernel
theorem dX12_findsRow_65 : decode cX12_findsRow 65 = .ok (.getfield 420, 3) := by decide +kernel
theorem dX12_findsRow_68 : decode cX12_findsRow 68 = .ok (.lload 7, 2) := by decide +kernel
theorem dX12_findsRow_70 : decode cX12_findsRow 70 = .ok (.lsub, 1) := by decide +kernel
theorem dX12_findsRow_71 : decode cX12_findsRow 71 = .ok (.putfield 420, 3) := by decide +kernel
theorem dX12_findsRow_74 : decode cX12_findsRow 74 = .ok (.iinc 6 1, 3) := by decide +kernel
theorem dX12_findsRow_77 : decode cX12_findsRow 77 = .ok (.aload_n 0, 1) := by decide +kernel
theorem dX12_findsRow_78 : decode cX12_findsRow 78 = .ok (.getfield 39, 3) := by decide +kernel
theorem dX12_findsRow_81 : decode cX12_findsRow 81 = .ok (.iload_n 1, 1) := by decide +kernel
theorem dX12_findsRow_82 : decode cX12_findsRow 82 = .ok (.iload 6, 2) := by decide +kernel
theorem dX12_findsRow_84 : decode cX12_findsRow 84 = .ok (.iconst 0, 1) := by decide +kernel
theorem dX12_findsRow_85 : decode cX12_findsRow 85 = .ok (.invokestatic 276, 3) := by decide +kernel
theorem dX12_findsRow_88 : decode cX12_findsRow 88 = .ok (.laload, 1) := by decide +kernel
theorem dX12_findsRow_89 : decode cX12_findsRow 89 = .ok (.aload_n 0, 1) := by decide +kernel
theorem dX12_findsRow_90 : decode cX12_findsRow 90 = .ok (.iload_n 1, 1) := by decide +kernel
theorem dX12_findsRow_91 : decode cX12_findsRow 91 = .ok (.iload 4, 2) := by decide +kernel
theorem dX12_findsRow_93 : decode cX12_findsRow 93 = .ok (.iload 6, 2) := by decide +kernel
theorem dX12_findsRow_95 : decode cX12_findsRow 95 = .ok (.isub, 1) := by decide +kernel
theorem dX12_findsRow_96 : decode cX12_findsRow 96 = .ok (.iload 5, 2) := by decide +kernel
theorem dX12_findsRow_98 : decode cX12_findsRow 98 = .ok (.invokevirtual 453, 3) := by decide +kernel
theorem dX12_findsRow_101 : decode cX12_findsRow 101 = .ok (.ldc2_w 280, 3) := by decide +kernel
theorem dX12_findsRow_104 : decode cX12_findsRow 104 = .ok (.invokestatic 286, 3) := by decide +kernel
theorem dX12_findsRow_107 : decode cX12_findsRow 107 = .ok (.lstore 7, 2) := by decide +kernel
theorem dX12_findsRow_109 : decode cX12_findsRow 109 = .ok (.goto (-56), 3) := by decide +kernel
theorem dX12_findsRow_112 : decode cX12_findsRow 112 = .ok (.aload_n 0, 1) := by decide +kernel
theorem dX12_findsRow_113 : decode cX12_findsRow 113 = .ok (.iload_n 1, 1) := by decide +kernel
theorem dX12_findsRow_114 : decode cX12_findsRow 114 = .ok (.iload 4, 2) := by decide +kernel
theorem dX12_findsRow_116 : decode cX12_findsRow 116 = .ok (.iload 6, 2) := by decide +kernel
theorem dX12_findsRow_118 : decode cX12_findsRow 118 = .ok (.isub, 1) := by decide +kernel
theorem dX12_findsRow_119 : decode cX12_findsRow 119 = .ok (.iload 5, 2) := by decide +kernel
theorem dX12_findsRow_121 : decode cX12_findsRow 121 = .ok (.invokevirtual 453, 3) := by decide +kernel
theorem dX12_findsRow_124 : decode cX12_findsRow 124 = .ok (.lstore 9, 2) := by decide +kernel
theorem dX12_findsRow_126 : decode cX12_findsRow 126 = .ok (.aload_n 0, 1) := by decide +kernel
theorem dX12_findsRow_127 : decode cX12_findsRow 127 = .ok (.iload 6, 2) := by decide +kernel
theorem dX12_findsRow_129 : decode cX12_findsRow 129 = .ok (.aload_n 0, 1) := by decide +kernel
theorem dX12_findsRow_130 : decode cX12_findsRow 130 = .ok (.getfield 420, 3) := by decide +kernel
theorem dX12_findsRow_133 : decode cX12_findsRow 133 = .ok (.lload 9, 2) := by decide +kernel
theorem dX12_findsRow_135 : decode cX12_findsRow 135 = .ok (.ldiv, 1) := by decide +kernel
theorem dX12_findsRow_136 : decode cX12_findsRow 136 = .ok (.l2i, 1) := by decide +kernel
theorem dX12_findsRow_137 : decode cX12_findsRow 137 = .ok (.invokevirtual 456, 3) := by decide +kernel
theorem wm_2222 : (Jvm.Cond.methodLink "GrownKindsModel" (456 : Nat) ({ cls := "GrownKindsModel", name := "pushes", desc := "(II)V" } : Jvm.MethodName)) ∈ gT := gT_in (List.mem_of_getElem? (i := 2222) (by decide +kernel)) (by decide +kernel)
theorem wm_2224 : (Jvm.Cond.instanceMethod ({ cls := "GrownKindsModel", name := "pushes", desc := "(II)V" } : Jvm.MethodName)) ∈ gT := gT_in (List.mem_of_getElem? (i := 2224) (by decide +kernel)) (by decide +kernel)
theorem wm_147 : Cond.selects "GrownKindsModel" ⟨"GrownKindsModel", "pushes", "(II)V"⟩ ⟨"GrownKindsModel", "pushes", "(II)V"⟩ ∈ gT := gT_in (List.mem_of_getElem? (i := 147) (by decide +kernel)) (by decide +kernel)
theorem wm_2225 : (Jvm.Cond.code ({ cls := "GrownKindsModel", name := "pushes", desc := "(II)V" } : Jvm.MethodName) prog_14_method_93_code (3 : Nat) (Option.none : Option Jvm.ClassFile.FieldType)) ∈ gT := gT_in (List.mem_of_getElem? (i := 2225) (by decide +kernel)) (by decide +kernel)
theorem dX12_findsRow_140 : decode cX12_findsRow 140 = .ok (.aload_n 0, 1) := by decide +kernel
theorem dX12_findsRow_141 : decode cX12_findsRow 141 = .ok (.dup, 1) := by decide +kernel
theorem dX12_findsRow_142 : decode cX12_findsRow 142 = .ok (.getfield 420, 3) := by decide +kernel
theorem dX12_findsRow_145 : decode cX12_findsRow 145 = .ok (.lload 9, 2) := by decide +kernel
theorem dX12_findsRow_147 : decode cX12_findsRow 147 = .ok (.lrem, 1) := by decide +kernel
theorem dX12_findsRow_148 : decode cX12_findsRow 148 = .ok (.putfield 420, 3) := by decide +kernel
theorem dX12_findsRow_151 : decode cX12_findsRow 151 = .ok (.iload 4, 2) := by decide +kernel
theorem dX12_findsRow_153 : decode cX12_findsRow 153 = .ok (.iload 6, 2) := by decide +kernel
theorem dX12_findsRow_155 : decode cX12_findsRow 155 = .ok (.isub, 1) := by decide +kernel
theorem dX12_findsRow_156 : decode cX12_findsRow 156 = .ok (.istore 4, 2) := by decide +kernel
theorem dX12_findsRow_158 : decode cX12_findsRow 158 = .ok (.goto (-152), 3) := by decide +kernel
theorem dX12_findsRow_161 : decode cX12_findsRow 161 = .ok (.return_, 1) := by decide +kernel
theorem dX12_bagsOf_0 : decode cX12_bagsOf 0 = .ok (.iload_n 2, 1) := by decide +kernel
theorem dX12_bagsOf_1 : decode cX12_bagsOf 1 = .ok (.ifCond .ne 13, 3) := by decide +kernel
theorem dX12_bagsOf_14 : decode cX12_bagsOf 14 = .ok (.iload 4, 2) := by decide +kernel
theorem dX12_bagsOf_16 : decode cX12_bagsOf 16 = .ok (.ifCond .eq 7, 3) := by decide +kernel
theorem dX12_bagsOf_23 : decode cX12_bagsOf 23 = .ok (.lconst 0, 1) := by decide +kernel
theorem dX12_bagsOf_24 : decode cX12_bagsOf 24 = .ok (.lreturn, 1) := by decide +kernel
theorem dX12_bagsOf_19 : decode cX12_bagsOf 19 = .ok (.iload_n 3, 1) := by decide +kernel
theorem dX12_bagsOf_20 : decode cX12_bagsOf 20 = .ok (.ifCond .ne 5, 3) := by decide +kernel
theorem dX12_bagsOf_25 : decode cX12_bagsOf 25 = .ok (.lconst 0, 1) := by decide +kernel
theorem dX12_bagsOf_26 : decode cX12_bagsOf 26 = .ok (.lstore 8, 2) := by decide +kernel
theorem dX12_bagsOf_28 : decode cX12_bagsOf 28 = .ok (.iconst 0, 1) := by decide +kernel
theorem dX12_bagsOf_29 : decode cX12_bagsOf 29 = .ok (.istore 10, 2) := by decide +kernel
theorem dX12_bagsOf_31 : decode cX12_bagsOf 31 = .ok (.iload 10, 2) := by decide +kernel
theorem dX12_bagsOf_33 : decode cX12_bagsOf 33 = .ok (.iload 4, 2) := by decide +kernel
theorem dX12_bagsOf_35 : decode cX12_bagsOf 35 = .ok (.imul, 1) := by decide +kernel
theorem dX12_bagsOf_36 : decode cX12_bagsOf 36 = .ok (.iload_n 2, 1) := by decide +kernel
theorem dX12_bagsOf_37 : decode cX12_bagsOf 37 = .ok (.if_icmp .gt 113, 3) := by decide +kernel
theorem dX12_bagsOf_40 : decode cX12_bagsOf 40 = .ok (.iload_n 3, 1) := by decide +kernel
theorem dX12_bagsOf_41 : decode cX12_bagsOf 41 = .ok (.ifCond .lt 9, 3) := by decide +kernel
theorem dX12_bagsOf_44 : decode cX12_bagsOf 44 = .ok (.iload 10, 2) := by decide +kernel
theorem dX12_bagsOf_46 : decode cX12_bagsOf 46 = .ok (.iload_n 3, 1) := by decide +kernel
theorem dX12_bagsOf_47 : decode cX12_bagsOf 47 = .ok (.if_icmp .gt 103, 3) := by decide +kernel
theorem dX12_bagsOf_50 : decode cX12_bagsOf 50 = .ok (.lload 5, 2) := by decide +kernel
theorem dX12_bagsOf_52 : decode cX12_bagsOf 52 = .ok (.iload 10, 2) := by decide +kernel
theorem dX12_bagsOf_54 : decode cX12_bagsOf 54 = .ok (.iload 7, 2) := by decide +kernel
theorem dX12_bagsOf_56 : decode cX12_bagsOf 56 = .ok (.invokestatic 316, 3) := by decide +kernel
theorem dX12_bagsOf_59 : decode cX12_bagsOf 59 = .ok (.lstore 11, 2) := by decide +kernel
theorem dX12_bagsOf_61 : decode cX12_bagsOf 61 = .ok (.lload 11, 2) := by decide +kernel
theorem dX12_bagsOf_63 : decode cX12_bagsOf 63 = .ok (.lconst 0, 1) := by decide +kernel
theorem dX12_bagsOf_64 : decode cX12_bagsOf 64 = .ok (.lcmp, 1) := by decide +kernel
theorem dX12_bagsOf_65 : decode cX12_bagsOf 65 = .ok (.ifCond .le 79, 3) := by decide +kernel
theorem dX12_bagsOf_144 : decode cX12_bagsOf 144 = .ok (.iinc 10 1, 3) := by decide +kernel
theorem dX12_bagsOf_147 : decode cX12_bagsOf 147 = .ok (.goto (-116), 3) := by decide +kernel
theorem dX12_bagsOf_68 : decode cX12_bagsOf 68 = .ok (.iload 4, 2) := by decide +kernel
theorem dX12_bagsOf_70 : decode cX12_bagsOf 70 = .ok (.iconst 1, 1) := by decide +kernel
theorem dX12_bagsOf_71 : decode cX12_bagsOf 71 = .ok (.if_icmp .ne 7, 3) := by decide +kernel
theorem dX12_bagsOf_78 : decode cX12_bagsOf 78 = .ok (.aload_n 0, 1) := by decide +kernel
theorem dX12_bagsOf_79 : decode cX12_bagsOf 79 = .ok (.getfield 39, 3) := by decide +kernel
theorem dX12_bagsOf_82 : decode cX12_bagsOf 82 = .ok (.iload_n 1, 1) := by decide +kernel
theorem dX12_bagsOf_83 : decode cX12_bagsOf 83 = .ok (.iload 4, 2) := by decide +kernel
theorem dX12_bagsOf_85 : decode cX12_bagsOf 85 = .ok (.iconst 1, 1) := by decide +kernel
theorem dX12_bagsOf_86 : decode cX12_bagsOf 86 = .ok (.isub, 1) := by decide +kernel
theorem dX12_bagsOf_87 : decode cX12_bagsOf 87 = .ok (.iconst 0, 1) := by decide +kernel
theorem dX12_bagsOf_88 : decode cX12_bagsOf 88 = .ok (.invokestatic 276, 3) := by decide +kernel
theorem dX12_bagsOf_91 : decode cX12_bagsOf 91 = .ok (.laload, 1) := by decide +kernel
theorem dX12_bagsOf_74 : decode cX12_bagsOf 74 = .ok (.lconst 0, 1) := by decide +kernel
theorem dX12_bagsOf_75 : decode cX12_bagsOf 75 = .ok (.goto 17, 3) := by decide +kernel
theorem dX12_bagsOf_92 : decode cX12_bagsOf 92 = .ok (.lstore 13, 2) := by decide +kernel
theorem dX12_bagsOf_94 : decode cX12_bagsOf 94 = .ok (.lload 8, 2) := by decide +kernel
theorem dX12_bagsOf_96 : decode cX12_bagsOf 96 = .ok (.lload 11, 2) := by decide +kernel
theorem dX12_bagsOf_98 : decode cX12_bagsOf 98 = .ok (.aload_n 0, 1) := by decide +kernel
theorem dX12_bagsOf_99 : decode cX12_bagsOf 99 = .ok (.iload_n 1, 1) := by decide +kernel
theorem dX12_bagsOf_100 : decode cX12_bagsOf 100 = .ok (.iload_n 2, 1) := by decide +kernel
theorem dX12_bagsOf_101 : decode cX12_bagsOf 101 = .ok (.iload 10, 2) := by decide +kernel
theorem dX12_bagsOf_103 : decode cX12_bagsOf 103 = .ok (.iload 4, 2) := by decide +kernel
theorem dX12_bagsOf_105 : decode cX12_bagsOf 105 = .ok (.imul, 1) := by decide +kernel
theorem dX12_bagsOf_106 : decode cX12_bagsOf 106 = .ok (.isub, 1) := by decide +kernel
theorem dX12_bagsOf_107 : decode cX12_bagsOf 107 = .ok (.iload_n 3, 1) := by decide +kernel
theorem dX12_bagsOf_108 : decode cX12_bagsOf 108 = .ok (.ifCond .ge 7, 3) := by decide +kernel
theorem dX12_bagsOf_115 : decode cX12_bagsOf 115 = .ok (.iload_n 3, 1) := by decide +kernel
theorem dX12_bagsOf_116 : decode cX12_bagsOf 116 = .ok (.iload 10, 2) := by decide +kernel
theorem dX12_bagsOf_118 : decode cX12_bagsOf 118 = .ok (.isub, 1) := by decide +kernel
theorem dX12_bagsOf_111 : decode cX12_bagsOf 111 = .ok (.iconst (-1), 1) := by decide +kernel
theorem dX12_bagsOf_112 : decode cX12_bagsOf 112 = .ok (.goto 7, 3) := by decide +kernel
theorem dX12_bagsOf_119 : decode cX12_bagsOf 119 = .ok (.iload 4, 2) := by decide +kernel
theorem dX12_bagsOf_121 : decode cX12_bagsOf 121 = .ok (.iconst 1, 1) := by decide +kernel
theorem dX12_bagsOf_122 : decode cX12_bagsOf 122 = .ok (.isub, 1) := by decide +kernel
theorem dX12_bagsOf_123 : decode cX12_bagsOf 123 = .ok (.lload 13, 2) := by decide +kernel
theorem dX12_bagsOf_125 : decode cX12_bagsOf 125 = .ok (.iload 7, 2) := by decide +kernel
theorem dX12_bagsOf_127 : decode cX12_bagsOf 127 = .ok (.invokevirtual 459, 3) := by decide +kernel
theorem wm_2246 : (Jvm.Cond.methodLink "GrownKindsModel" (459 : Nat) ({ cls := "GrownKindsModel", name := "bagsOf", desc := "(IIIIJZ)J" } : Jvm.MethodName)) ∈ gT := gT_in (List.mem_of_getElem? (i := 2246) (by decide +kernel)) (by decide +kernel)
theorem wm_2248 : (Jvm.Cond.instanceMethod ({ cls := "GrownKindsModel", name := "bagsOf", desc := "(IIIIJZ)J" } : Jvm.MethodName)) ∈ gT := gT_in (List.mem_of_getElem? (i := 2248) (by decide +kernel)) (by decide +kernel)
theorem wm_153 : Cond.selects "GrownKindsModel" ⟨"GrownKindsModel", "bagsOf", "(IIIIJZ)J"⟩ ⟨"GrownKindsModel", "bagsOf", "(IIIIJZ)J"⟩ ∈ gT := gT_in (List.mem_of_getElem? (i := 153) (by decide +kernel)) (by decide +kernel)
theorem wm_2249 : (Jvm.Cond.code ({ cls := "GrownKindsModel", name := "bagsOf", desc := "(IIIIJZ)J" } : Jvm.MethodName) prog_14_method_100_code (15 : Nat) (Option.some Jvm.ClassFile.FieldType.long)) ∈ gT := gT_in (List.mem_of_getElem? (i := 2249) (by decide +kernel)) (by decide +kernel)
theorem dX12_bagsOf_130 : decode cX12_bagsOf 130 = .ok (.ldc2_w 280, 3) := by decide +kernel
theorem dX12_bagsOf_133 : decode cX12_bagsOf 133 = .ok (.invokestatic 286, 3) := by decide +kernel
theorem dX12_bagsOf_136 : decode cX12_bagsOf 136 = .ok (.ldc2_w 280, 3) := by decide +kernel
theorem dX12_bagsOf_139 : decode cX12_bagsOf 139 = .ok (.invokestatic 282, 3) := by decide +kernel
theorem dX12_bagsOf_142 : decode cX12_bagsOf 142 = .ok (.lstore 8, 2) := by decide +kernel
theorem dX12_bagsOf_150 : decode cX12_bagsOf 150 = .ok (.lload 8, 2) := by decide +kernel
theorem dX12_bagsOf_152 : decode cX12_bagsOf 152 = .ok (.lreturn, 1) := by decide +kernel
theorem dX12_bagsOf_4 : decode cX12_bagsOf 4 = .ok (.iload_n 3, 1) := by decide +kernel
theorem dX12_bagsOf_5 : decode cX12_bagsOf 5 = .ok (.ifCond .gt 7, 3) := by decide +kernel
theorem dX12_bagsOf_12 : decode cX12_bagsOf 12 = .ok (.lconst 0, 1) := by decide +kernel
theorem dX12_bagsOf_13 : decode cX12_bagsOf 13 = .ok (.lreturn, 1) := by decide +kernel
theorem dX12_bagsOf_8 : decode cX12_bagsOf 8 = .ok (.lconst 1, 1) := by decide +kernel
theorem dX12_bagsOf_9 : decode cX12_bagsOf 9 = .ok (.goto 4, 3) := by decide +kernel
theorem dX12_findsBag_0 : decode cX12_findsBag 0 = .ok (.iload_n 2, 1) := by decide +kernel
theorem dX12_findsBag_1 : decode cX12_findsBag 1 = .ok (.istore 5, 2) := by decide +kernel
theorem dX12_findsBag_3 : decode cX12_findsBag 3 = .ok (.iload_n 3, 1) := by decide +kernel
theorem dX12_findsBag_4 : decode cX12_findsBag 4 = .ok (.istore 6, 2) := by decide +kernel
theorem dX12_findsBag_6 : decode cX12_findsBag 6 = .ok (.bipush 8, 2) := by decide +kernel
theorem dX12_findsBag_8 : decode cX12_findsBag 8 = .ok (.istore 7, 2) := by decide +kernel
theorem dX12_findsBag_10 : decode cX12_findsBag 10 = .ok (.lconst 0, 1) := by decide +kernel
theorem dX12_findsBag_11 : decode cX12_findsBag 11 = .ok (.lstore 8, 2) := by decide +kernel
theorem dX12_findsBag_13 : decode cX12_findsBag 13 = .ok (.iload 5, 2) := by decide +kernel
theorem dX12_findsBag_15 : decode cX12_findsBag 15 = .ok (.ifCond .le 232, 3) := by decide +kernel
theorem dX12_findsBag_18 : decode cX12_findsBag 18 = .ok (.iload 6, 2) := by decide +kernel
theorem dX12_findsBag_20 : decode cX12_findsBag 20 = .ok (.invokestatic 450, 3) := by decide +kernel
theorem dX12_findsBag_23 : decode cX12_findsBag 23 = .ok (.istore 6, 2) := by decide +kernel
theorem dX12_findsBag_25 : decode cX12_findsBag 25 = .ok (.iconst 0, 1) := by decide +kernel
theorem dX12_findsBag_26 : decode cX12_findsBag 26 = .ok (.istore 10, 2) := by decide +kernel
theorem dX12_findsBag_28 : decode cX12_findsBag 28 = .ok (.iconst (-1), 1) := by decide +kernel
theorem dX12_findsBag_29 : decode cX12_findsBag 29 = .ok (.istore 11, 2) := by decide +kernel
theorem dX12_findsBag_31 : decode cX12_findsBag 31 = .ok (.iload 11, 2) := by decide +kernel
theorem dX12_findsBag_33 : decode cX12_findsBag 33 = .ok (.ifCond .ge 174, 3) := by decide +kernel
theorem dX12_findsBag_36 : decode cX12_findsBag 36 = .ok (.iinc 10 1, 3) := by decide +kernel
theorem dX12_findsBag_39 : decode cX12_findsBag 39 = .ok (.iload 10, 2) := by decide +kernel
theorem dX12_findsBag_41 : decode cX12_findsBag 41 = .ok (.iload 7, 2) := by decide +kernel
theorem dX12_findsBag_43 : decode cX12_findsBag 43 = .ok (.if_icmp .ne 8, 3) := by decide +kernel
theorem dX12_findsBag_51 : decode cX12_findsBag 51 = .ok (.aload_n 0, 1) := by decide +kernel
theorem dX12_findsBag_52 : decode cX12_findsBag 52 = .ok (.getfield 39, 3) := by decide +kernel
theorem dX12_findsBag_55 : decode cX12_findsBag 55 = .ok (.iload_n 1, 1) := by decide +kernel
theorem dX12_findsBag_56 : decode cX12_findsBag 56 = .ok (.iload 10, 2) := by decide +kernel
theorem dX12_findsBag_58 : decode cX12_findsBag 58 = .ok (.iconst 0, 1) := by decide +kernel
theorem dX12_findsBag_59 : decode cX12_findsBag 59 = .ok (.invokestatic 276, 3) := by decide +kernel
theorem dX12_findsBag_62 : decode cX12_findsBag 62 = .ok (.laload, 1) := by decide +kernel
theorem dX12_findsBag_46 : decode cX12_findsBag 46 = .ok (.lload 8, 2) := by decide +kernel
theorem dX12_findsBag_48 : decode cX12_findsBag 48 = .ok (.goto 15, 3) := by decide +kernel
theorem dX12_findsBag_63 : decode cX12_findsBag 63 = .ok (.lstore 12, 2) := by decide +kernel
theorem dX12_findsBag_65 : decode cX12_findsBag 65 = .ok (.lload 12, 2) := by decide +kernel
theorem dX12_findsBag_67 : decode cX12_findsBag 67 = .ok (.lconst 0, 1) := by decide +kernel
theorem dX12_findsBag_68 : decode cX12_findsBag 68 = .ok (.lcmp, 1) := by decide +kernel
theorem dX12_findsBag_69 : decode cX12_findsBag 69 = .ok (.ifCond .le 42, 3) := by decide +kernel
theorem dX12_findsBag_111 : decode cX12_findsBag 111 = .ok (.iconst 0, 1) := by decide +kernel
theorem dX12_findsBag_72 : decode cX12_findsBag 72 = .ok (.aload_n 0, 1) := by decide +kernel
theorem dX12_findsBag_73 : decode cX12_findsBag 73 = .ok (.iload_n 1, 1) := by decide +kernel
theorem dX12_findsBag_74 : decode cX12_findsBag 74 = .ok (.iload 5, 2) := by decide +kernel
theorem dX12_findsBag_76 : decode cX12_findsBag 76 = .ok (.iload 10, 2) := by decide +kernel
theorem dX12_findsBag_78 : decode cX12_findsBag 78 = .ok (.isub, 1) := by decide +kernel
theorem dX12_findsBag_79 : decode cX12_findsBag 79 = .ok (.iload 6, 2) := by decide +kernel
theorem dX12_findsBag_81 : decode cX12_findsBag 81 = .ok (.iload 10, 2) := by decide +kernel
theorem dX12_findsBag_83 : decode cX12_findsBag 83 = .ok (.iload 4, 2) := by decide +kernel
theorem dX12_findsBag_85 : decode cX12_findsBag 85 = .ok (.ifCond .eq 10, 3) := by decide +kernel
theorem dX12_findsBag_95 : decode cX12_findsBag 95 = .ok (.lload 12, 2) := by decide +kernel
theorem dX12_findsBag_88 : decode cX12_findsBag 88 = .ok (.lload 12, 2) := by decide +kernel
theorem dX12_findsBag_90 : decode cX12_findsBag 90 = .ok (.lconst 1, 1) := by decide +kernel
theorem dX12_findsBag_91 : decode cX12_findsBag 91 = .ok (.lsub, 1) := by decide +kernel
theorem dX12_findsBag_92 : decode cX12_findsBag 92 = .ok (.goto 5, 3) := by decide +kernel
theorem dX12_findsBag_97 : decode cX12_findsBag 97 = .ok (.iload 4, 2) := by decide +kernel
theorem dX12_findsBag_99 : decode cX12_findsBag 99 = .ok (.invokevirtual 459, 3) := by decide +kernel
theorem dX12_findsBag_102 : decode cX12_findsBag 102 = .ok (.lconst 0, 1) := by decide +kernel
theorem dX12_findsBag_103 : decode cX12_findsBag 103 = .ok (.lcmp, 1) := by decide +kernel
theorem dX12_findsBag_104 : decode cX12_findsBag 104 = .ok (.ifCond .le 7, 3) := by decide +kernel
theorem dX12_findsBag_107 : decode cX12_findsBag 107 = .ok (.iconst 1, 1) := by decide +kernel
theorem dX12_findsBag_108 : decode cX12_findsBag 108 = .ok (.goto 4, 3) := by decide +kernel
theorem dX12_findsBag_112 : decode cX12_findsBag 112 = .ok (.istore 14, 2) := by decide +kernel
theorem dX12_findsBag_114 : decode cX12_findsBag 114 = .ok (.iconst 0, 1) := by decide +kernel
theorem dX12_findsBag_115 : decode cX12_findsBag 115 = .ok (.istore 15, 2) := by decide +kernel
theorem dX12_findsBag_117 : decode cX12_findsBag 117 = .ok (.iload 14, 2) := by decide +kernel
theorem dX12_findsBag_119 : decode cX12_findsBag 119 = .ok (.ifCond .eq 85, 3) := by decide +kernel
theorem dX12_findsBag_122 : decode cX12_findsBag 122 = .ok (.iload 15, 2) := by decide +kernel
theorem dX12_findsBag_124 : decode cX12_findsBag 124 = .ok (.i2l, 1) := by decide +kernel
theorem dX12_findsBag_125 : decode cX12_findsBag 125 = .ok (.lload 12, 2) := by decide +kernel
theorem dX12_findsBag_127 : decode cX12_findsBag 127 = .ok (.lcmp, 1) := by decide +kernel
theorem dX12_findsBag_128 : decode cX12_findsBag 128 = .ok (.ifCond .ge 76, 3) := by decide +kernel
theorem dX12_findsBag_131 : decode cX12_findsBag 131 = .ok (.iload 11, 2) := by decide +kernel
theorem dX12_findsBag_133 : decode cX12_findsBag 133 = .ok (.ifCond .ge 71, 3) := by decide +kernel
theorem dX12_findsBag_136 : decode cX12_findsBag 136 = .ok (.aload_n 0, 1) := by decide +kernel
theorem dX12_findsBag_137 : decode cX12_findsBag 137 = .ok (.iload_n 1, 1) := by decide +kernel
theorem dX12_findsBag_138 : decode cX12_findsBag 138 = .ok (.iload 5, 2) := by decide +kernel
theorem dX12_findsBag_140 : decode cX12_findsBag 140 = .ok (.iload 10, 2) := by decide +kernel
theorem dX12_findsBag_142 : decode cX12_findsBag 142 = .ok (.isub, 1) := by decide +kernel
theorem dX12_findsBag_143 : decode cX12_findsBag 143 = .ok (.iload 6, 2) := by decide +kernel
theorem dX12_findsBag_145 : decode cX12_findsBag 145 = .ok (.iload 10, 2) := by decide +kernel
theorem dX12_findsBag_147 : decode cX12_findsBag 147 = .ok (.iload 4, 2) := by decide +kernel
theorem dX12_findsBag_149 : decode cX12_findsBag 149 = .ok (.ifCond .eq 9, 3) := by decide +kernel
theorem dX12_findsBag_158 : decode cX12_findsBag 158 = .ok (.iload 15, 2) := by decide +kernel
theorem dX12_findsBag_160 : decode cX12_findsBag 160 = .ok (.iconst 1, 1) := by decide +kernel
theorem dX12_findsBag_161 : decode cX12_findsBag 161 = .ok (.iadd, 1) := by decide +kernel
theorem dX12_findsBag_162 : decode cX12_findsBag 162 = .ok (.i2l, 1) := by decide +kernel
theorem dX12_findsBag_152 : decode cX12_findsBag 152 = .ok (.iload 15, 2) := by decide +kernel
theorem dX12_findsBag_154 : decode cX12_findsBag 154 = .ok (.i2l, 1) := by decide +kernel
theorem dX12_findsBag_155 : decode cX12_findsBag 155 = .ok (.goto 8, 3) := by decide +kernel
theorem dX12_findsBag_163 : decode cX12_findsBag 163 = .ok (.iload 4, 2) := by decide +kernel
theorem dX12_findsBag_165 : decode cX12_findsBag 165 = .ok (.invokevirtual 459, 3) := by decide +kernel
theorem dX12_findsBag_168 : decode cX12_findsBag 168 = .ok (.lstore 16, 2) := by decide +kernel
theorem dX12_findsBag_170 : decode cX12_findsBag 170 = .ok (.aload_n 0, 1) := by decide +kernel
theorem dX12_findsBag_171 : decode cX12_findsBag 171 = .ok (.getfield 420, 3) := by decide +kernel
theorem dX12_findsBag_174 : decode cX12_findsBag 174 = .ok (.lload 16, 2) := by decide +kernel
theorem dX12_findsBag_176 : decode cX12_findsBag 176 = .ok (.lcmp, 1) := by decide +kernel
theorem dX12_findsBag_177 : decode cX12_findsBag 177 = .ok (.ifCond .ge 10, 3) := by decide +kernel
theorem dX12_findsBag_187 : decode cX12_findsBag 187 = .ok (.aload_n 0, 1) := by decide +kernel
theorem dX12_findsBag_188 : decode cX12_findsBag 188 = .ok (.dup, 1) := by decide +kernel
theorem dX12_findsBag_189 : decode cX12_findsBag 189 = .ok (.getfield 420, 3) := by decide +kernel
theorem dX12_findsBag_192 : decode cX12_findsBag 192 = .ok (.lload 16, 2) := by decide +kernel
theorem dX12_findsBag_194 : decode cX12_findsBag 194 = .ok (.lsub, 1) := by decide +kernel
theorem dX12_findsBag_195 : decode cX12_findsBag 195 = .ok (.putfield 420, 3) := by decide +kernel
theorem dX12_findsBag_198 : decode cX12_findsBag 198 = .ok (.iinc 15 1, 3) := by decide +kernel
theorem dX12_findsBag_201 : decode cX12_findsBag 201 = .ok (.goto (-84), 3) := by decide +kernel
theorem dX12_findsBag_180 : decode cX12_findsBag 180 = .ok (.iload 15, 2) := by decide +kernel
theorem dX12_findsBag_182 : decode cX12_findsBag 182 = .ok (.istore 11, 2) := by decide +kernel
theorem dX12_findsBag_184 : decode cX12_findsBag 184 = .ok (.goto 14, 3) := by decide +kernel
theorem dX12_findsBag_204 : decode cX12_findsBag 204 = .ok (.goto (-173), 3) := by decide +kernel
theorem dX12_findsBag_207 : decode cX12_findsBag 207 = .ok (.aload_n 0, 1) := by decide +kernel
theorem dX12_findsBag_208 : decode cX12_findsBag 208 = .ok (.iload 10, 2) := by decide +kernel
theorem dX12_findsBag_210 : decode cX12_findsBag 210 = .ok (.iload 11, 2) := by decide +kernel
theorem dX12_findsBag_212 : decode cX12_findsBag 212 = .ok (.invokevirtual 456, 3) := by decide +kernel
theorem dX12_findsBag_215 : decode cX12_findsBag 215 = .ok (.iload 5, 2) := by decide +kernel
theorem dX12_findsBag_217 : decode cX12_findsBag 217 = .ok (.iload 10, 2) := by decide +kernel
theorem dX12_findsBag_219 : decode cX12_findsBag 219 = .ok (.isub, 1) := by decide +kernel
theorem dX12_findsBag_220 : decode cX12_findsBag 220 = .ok (.istore 5, 2) := by decide +kernel
theorem dX12_findsBag_222 : decode cX12_findsBag 222 = .ok (.iload 10, 2) := by decide +kernel
theorem dX12_findsBag_224 : decode cX12_findsBag 224 = .ok (.istore 7, 2) := by decide +kernel
theorem dX12_findsBag_226 : decode cX12_findsBag 226 = .ok (.iload 4, 2) := by decide +kernel
theorem dX12_findsBag_228 : decode cX12_findsBag 228 = .ok (.ifCond .eq 9, 3) := by decide +kernel
theorem dX12_findsBag_237 : decode cX12_findsBag 237 = .ok (.iload 11, 2) := by decide +kernel
theorem dX12_findsBag_239 : decode cX12_findsBag 239 = .ok (.iconst 1, 1) := by decide +kernel
theorem dX12_findsBag_240 : decode cX12_findsBag 240 = .ok (.iadd, 1) := by decide +kernel
theorem dX12_findsBag_241 : decode cX12_findsBag 241 = .ok (.i2l, 1) := by decide +kernel
theorem dX12_findsBag_242 : decode cX12_findsBag 242 = .ok (.lstore 8, 2) := by decide +kernel
theorem dX12_findsBag_244 : decode cX12_findsBag 244 = .ok (.goto (-231), 3) := by decide +kernel
theorem dX12_findsBag_231 : decode cX12_findsBag 231 = .ok (.iload 11, 2) := by decide +kernel
theorem dX12_findsBag_233 : decode cX12_findsBag 233 = .ok (.i2l, 1) := by decide +kernel
theorem dX12_findsBag_234 : decode cX12_findsBag 234 = .ok (.goto 8, 3) := by decide +kernel
theorem dX12_findsBag_247 : decode cX12_findsBag 247 = .ok (.return_, 1) := by decide +kernel
theorem dX12_seeks_0 : decode cX12_seeks 0 = .ok (.iload_n 3, 1) := by decide +kernel
theorem dX12_seeks_1 : decode cX12_seeks 1 = .ok (.ifCond .ne 51, 3) := by decide +kernel
theorem dX12_seeks_52 : decode cX12_seeks 52 = .ok (.iconst 1, 1) := by decide +kernel
theorem dX12_seeks_53 : decode cX12_seeks 53 = .ok (.istore 5, 2) := by decide +kernel
theorem dX12_seeks_55 : decode cX12_seeks 55 = .ok (.iload 5, 2) := by decide +kernel
theorem dX12_seeks_57 : decode cX12_seeks 57 = .ok (.iload_n 3, 1) := by decide +kernel
theorem dX12_seeks_58 : decode cX12_seeks 58 = .ok (.if_icmp .gt 136, 3) := by decide +kernel
theorem dX12_seeks_61 : decode cX12_seeks 61 = .ok (.iload 4, 2) := by decide +kernel
theorem dX12_seeks_63 : decode cX12_seeks 63 = .ok (.ifCond .eq 131, 3) := by decide +kernel
theorem dX12_seeks_66 : decode cX12_seeks 66 = .ok (.aload_n 0, 1) := by decide +kernel
theorem dX12_seeks_67 : decode cX12_seeks 67 = .ok (.getfield 39, 3) := by decide +kernel
theorem dX12_seeks_70 : decode cX12_seeks 70 = .ok (.iload_n 1, 1) := by decide +kernel
theorem dX12_seeks_71 : decode cX12_seeks 71 = .ok (.iload 5, 2) := by decide +kernel
theorem dX12_seeks_73 : decode cX12_seeks 73 = .ok (.iconst 0, 1) := by decide +kernel
theorem dX12_seeks_74 : decode cX12_seeks 74 = .ok (.invokestatic 276, 3) := by decide +kernel
theorem dX12_seeks_77 : decode cX12_seeks 77 = .ok (.laload, 1) := by decide +kernel
theorem dX12_seeks_78 : decode cX12_seeks 78 = .ok (.lstore 6, 2) := by decide +kernel
theorem dX12_seeks_80 : decode cX12_seeks 80 = .ok (.lload 6, 2) := by decide +kernel
theorem dX12_seeks_82 : decode cX12_seeks 82 = .ok (.lconst 0, 1) := by decide +kernel
theorem dX12_seeks_83 : decode cX12_seeks 83 = .ok (.lcmp, 1) := by decide +kernel
theorem dX12_seeks_84 : decode cX12_seeks 84 = .ok (.ifCond .eq 104, 3) := by decide +kernel
theorem dX12_seeks_188 : decode cX12_seeks 188 = .ok (.iinc 5 1, 3) := by decide +kernel
theorem dX12_seeks_191 : decode cX12_seeks 191 = .ok (.goto (-136), 3) := by decide +kernel
theorem dX12_seeks_87 : decode cX12_seeks 87 = .ok (.aload_n 0, 1) := by decide +kernel
theorem dX12_seeks_88 : decode cX12_seeks 88 = .ok (.iload_n 1, 1) := by decide +kernel
theorem dX12_seeks_89 : decode cX12_seeks 89 = .ok (.iload_n 3, 1) := by decide +kernel
theorem dX12_seeks_90 : decode cX12_seeks 90 = .ok (.iload 5, 2) := by decide +kernel
theorem dX12_seeks_92 : decode cX12_seeks 92 = .ok (.isub, 1) := by decide +kernel
theorem dX12_seeks_93 : decode cX12_seeks 93 = .ok (.iload 4, 2) := by decide +kernel
theorem dX12_seeks_95 : decode cX12_seeks 95 = .ok (.invokestatic 450, 3) := by decide +kernel
theorem dX12_seeks_98 : decode cX12_seeks 98 = .ok (.invokevirtual 453, 3) := by decide +kernel
theorem dX12_seeks_101 : decode cX12_seeks 101 = .ok (.lconst 0, 1) := by decide +kernel
theorem dX12_seeks_102 : decode cX12_seeks 102 = .ok (.lcmp, 1) := by decide +kernel
theorem dX12_seeks_103 : decode cX12_seeks 103 = .ok (.ifCond .ne 6, 3) := by decide +kernel
theorem dX12_seeks_109 : decode cX12_seeks 109 = .ok (.iconst 0, 1) := by decide +kernel
theorem dX12_seeks_110 : decode cX12_seeks 110 = .ok (.istore 8, 2) := by decide +kernel
theorem dX12_seeks_112 : decode cX12_seeks 112 = .ok (.iload 8, 2) := by decide +kernel
theorem dX12_seeks_114 : decode cX12_seeks 114 = .ok (.i2l, 1) := by decide +kernel
theorem dX12_seeks_115 : decode cX12_seeks 115 = .ok (.lload 6, 2) := by decide +kernel
theorem dX12_seeks_117 : decode cX12_seeks 117 = .ok (.lcmp, 1) := by decide +kernel
theorem dX12_seeks_118 : decode cX12_seeks 118 = .ok (.ifCond .ge 70, 3) := by decide +kernel
theorem dX12_seeks_121 : decode cX12_seeks 121 = .ok (.aload_n 0, 1) := by decide +kernel
theorem dX12_seeks_122 : decode cX12_seeks 122 = .ok (.getfield 398, 3) := by decide +kernel
theorem dX12_seeks_125 : decode cX12_seeks 125 = .ok (.iload_n 2, 1) := by decide +kernel
theorem dX12_seeks_126 : decode cX12_seeks 126 = .ok (.if_icmp .le 18, 3) := by decide +kernel
theorem dX12_seeks_144 : decode cX12_seeks 144 = .ok (.aload_n 0, 1) := by decide +kernel
theorem dX12_seeks_145 : decode cX12_seeks 145 = .ok (.iload 5, 2) := by decide +kernel
theorem dX12_seeks_147 : decode cX12_seeks 147 = .ok (.iload 8, 2) := by decide +kernel
theorem dX12_seeks_149 : decode cX12_seeks 149 = .ok (.invokevirtual 456, 3) := by decide +kernel
theorem dX12_seeks_152 : decode cX12_seeks 152 = .ok (.aload_n 0, 1) := by decide +kernel
theorem dX12_seeks_153 : decode cX12_seeks 153 = .ok (.iload_n 1, 1) := by decide +kernel
theorem dX12_seeks_154 : decode cX12_seeks 154 = .ok (.iload_n 2, 1) := by decide +kernel
theorem dX12_seeks_155 : decode cX12_seeks 155 = .ok (.iload_n 3, 1) := by decide +kernel
theorem dX12_seeks_156 : decode cX12_seeks 156 = .ok (.iload 5, 2) := by decide +kernel
theorem dX12_seeks_158 : decode cX12_seeks 158 = .ok (.isub, 1) := by decide +kernel
theorem dX12_seeks_159 : decode cX12_seeks 159 = .ok (.iload 4, 2) := by decide +kernel
theorem dX12_seeks_161 : decode cX12_seeks 161 = .ok (.invokestatic 450, 3) := by decide +kernel
theorem dX12_seeks_164 : decode cX12_seeks 164 = .ok (.invokevirtual 427, 3) := by decide +kernel
theorem wm_2226 : (Jvm.Cond.methodLink "GrownKindsModel" (427 : Nat) ({ cls := "GrownKindsModel", name := "seeks", desc := "(IIII)Z" } : Jvm.MethodName)) ∈ gT := gT_in (List.mem_of_getElem? (i := 2226) (by decide +kernel)) (by decide +kernel)
theorem wm_2228 : (Jvm.Cond.instanceMethod ({ cls := "GrownKindsModel", name := "seeks", desc := "(IIII)Z" } : Jvm.MethodName)) ∈ gT := gT_in (List.mem_of_getElem? (i := 2228) (by decide +kernel)) (by decide +kernel)
theorem wm_148 : Cond.selects "GrownKindsModel" ⟨"GrownKindsModel", "seeks", "(IIII)Z"⟩ ⟨"GrownKindsModel", "seeks", "(IIII)Z"⟩ ∈ gT := gT_in (List.mem_of_getElem? (i := 148) (by decide +kernel)) (by decide +kernel)
theorem wm_2229 : (Jvm.Cond.code ({ cls := "GrownKindsModel", name := "seeks", desc := "(IIII)Z" } : Jvm.MethodName) prog_14_method_104_code (9 : Nat) (Option.some Jvm.ClassFile.FieldType.boolean)) ∈ gT := gT_in (List.mem_of_getElem? (i := 2229) (by decide +kernel)) (by decide +kernel)
theorem dX12_seeks_167 : decode cX12_seeks 167 = .ok (.ifCond .eq 5, 3) := by decide +kernel
theorem dX12_seeks_172 : decode cX12_seeks 172 = .ok (.aload_n 0, 1) := by decide +kernel
theorem dX12_seeks_173 : decode cX12_seeks 173 = .ok (.dup, 1) := by decide +kernel
theorem dX12_seeks_174 : decode cX12_seeks 174 = .ok (.getfield 398, 3) := by decide +kernel
theorem dX12_seeks_177 : decode cX12_seeks 177 = .ok (.iconst 1, 1) := by decide +kernel
theorem dX12_seeks_178 : decode cX12_seeks 178 = .ok (.isub, 1) := by decide +kernel
theorem dX12_seeks_179 : decode cX12_seeks 179 = .ok (.putfield 398, 3) := by decide +kernel
theorem dX12_seeks_182 : decode cX12_seeks 182 = .ok (.iinc 8 1, 3) := by decide +kernel
theorem dX12_seeks_185 : decode cX12_seeks 185 = .ok (.goto (-73), 3) := by decide +kernel
theorem dX12_seeks_129 : decode cX12_seeks 129 = .ok (.aload_n 0, 1) := by decide +kernel
theorem dX12_seeks_130 : decode cX12_seeks 130 = .ok (.iload 5, 2) := by decide +kernel
theorem dX12_seeks_132 : decode cX12_seeks 132 = .ok (.iload 8, 2) := by decide +kernel
theorem dX12_seeks_134 : decode cX12_seeks 134 = .ok (.iload_n 2, 1) := by decide +kernel
theorem dX12_seeks_135 : decode cX12_seeks 135 = .ok (.invokevirtual 463, 3) := by decide +kernel
theorem dX12_seeks_138 : decode cX12_seeks 138 = .ok (.ifCond .eq 6, 3) := by decide +kernel
theorem dX12_seeks_141 : decode cX12_seeks 141 = .ok (.goto 41, 3) := by decide +kernel
theorem dX12_seeks_106 : decode cX12_seeks 106 = .ok (.goto 82, 3) := by decide +kernel
theorem dX12_seeks_170 : decode cX12_seeks 170 = .ok (.iconst 1, 1) := by decide +kernel
theorem dX12_seeks_171 : decode cX12_seeks 171 = .ok (.ireturn, 1) := by decide +kernel
theorem dX12_seeks_194 : decode cX12_seeks 194 = .ok (.iconst 0, 1) := by decide +kernel
theorem dX12_seeks_195 : decode cX12_seeks 195 = .ok (.ireturn, 1) := by decide +kernel
theorem dX12_seeks_4 : decode cX12_seeks 4 = .ok (.iload 4, 2) := by decide +kernel
theorem dX12_seeks_6 : decode cX12_seeks 6 = .ok (.ifCond .gt 19, 3) := by decide +kernel
theorem dX12_seeks_25 : decode cX12_seeks 25 = .ok (.iconst 0, 1) := by decide +kernel
theorem dX12_seeks_26 : decode cX12_seeks 26 = .ok (.ireturn, 1) := by decide +kernel
theorem dX12_seeks_9 : decode cX12_seeks 9 = .ok (.aload_n 0, 1) := by decide +kernel
theorem dX12_seeks_10 : decode cX12_seeks 10 = .ok (.getfield 398, 3) := by decide +kernel
theorem dX12_seeks_13 : decode cX12_seeks 13 = .ok (.iload_n 2, 1) := by decide +kernel
theorem dX12_seeks_14 : decode cX12_seeks 14 = .ok (.if_icmp .eq 11, 3) := by decide +kernel
theorem dX12_seeks_17 : decode cX12_seeks 17 = .ok (.aload_n 0, 1) := by decide +kernel
theorem dX12_seeks_18 : decode cX12_seeks 18 = .ok (.iload_n 2, 1) := by decide +kernel
theorem dX12_seeks_19 : decode cX12_seeks 19 = .ok (.invokevirtual 467, 3) := by decide +kernel
theorem wm_2230 : (Jvm.Cond.methodLink "GrownKindsModel" (467 : Nat) ({ cls := "GrownKindsModel", name := "isLeast", desc := "(I)Z" } : Jvm.MethodName)) ∈ gT := gT_in (List.mem_of_getElem? (i := 2230) (by decide +kernel)) (by decide +kernel)
theorem wm_2232 : (Jvm.Cond.instanceMethod ({ cls := "GrownKindsModel", name := "isLeast", desc := "(I)Z" } : Jvm.MethodName)) ∈ gT := gT_in (List.mem_of_getElem? (i := 2232) (by decide +kernel)) (by decide +kernel)
theorem wm_149 : Cond.selects "GrownKindsModel" ⟨"GrownKindsModel", "isLeast", "(I)Z"⟩ ⟨"GrownKindsModel", "isLeast", "(I)Z"⟩ ∈ gT := gT_in (List.mem_of_getElem? (i := 149) (by decide +kernel)) (by decide +kernel)
theorem wm_2233 : (Jvm.Cond.code ({ cls := "GrownKindsModel", name := "isLeast", desc := "(I)Z" } : Jvm.MethodName) prog_14_method_103_code (5 : Nat) (Option.some Jvm.ClassFile.FieldType.boolean)) ∈ gT := gT_in (List.mem_of_getElem? (i := 2233) (by decide +kernel)) (by decide +kernel)
theorem dX12_seeks_22 : decode cX12_seeks 22 = .ok (.ifCond .ne 5, 3) := by decide +kernel
theorem dX12_seeks_27 : decode cX12_seeks 27 = .ok (.aload_n 0, 1) := by decide +kernel
theorem dX12_seeks_28 : decode cX12_seeks 28 = .ok (.dup, 1) := by decide +kernel
theorem dX12_seeks_29 : decode cX12_seeks 29 = .ok (.getfield 420, 3) := by decide +kernel
theorem dX12_seeks_32 : decode cX12_seeks 32 = .ok (.lconst 1, 1) := by decide +kernel
theorem dX12_seeks_33 : decode cX12_seeks 33 = .ok (.lsub, 1) := by decide +kernel
theorem dX12_seeks_34 : decode cX12_seeks 34 = .ok (.putfield 420, 3) := by decide +kernel
theorem dX12_seeks_37 : decode cX12_seeks 37 = .ok (.aload_n 0, 1) := by decide +kernel
theorem dX12_seeks_38 : decode cX12_seeks 38 = .ok (.getfield 420, 3) := by decide +kernel
theorem dX12_seeks_41 : decode cX12_seeks 41 = .ok (.lconst 0, 1) := by decide +kernel
theorem dX12_seeks_42 : decode cX12_seeks 42 = .ok (.lcmp, 1) := by decide +kernel
theorem dX12_seeks_43 : decode cX12_seeks 43 = .ok (.ifCond .ge 7, 3) := by decide +kernel
theorem dX12_seeks_50 : decode cX12_seeks 50 = .ok (.iconst 0, 1) := by decide +kernel
theorem dX12_seeks_51 : decode cX12_seeks 51 = .ok (.ireturn, 1) := by decide +kernel
theorem dX12_seeks_46 : decode cX12_seeks 46 = .ok (.iconst 1, 1) := by decide +kernel
theorem dX12_seeks_47 : decode cX12_seeks 47 = .ok (.goto 4, 3) := by decide +kernel
theorem dX12_areSame_0 : decode cX12_areSame 0 = .ok (.aload_n 0, 1) := by decide +kernel
theorem dX12_areSame_1 : decode cX12_areSame 1 = .ok (.getfield 67, 3) := by decide +kernel
theorem dX12_areSame_4 : decode cX12_areSame 4 = .ok (.iload_n 1, 1) := by decide +kernel
theorem dX12_areSame_5 : decode cX12_areSame 5 = .ok (.iaload, 1) := by decide +kernel
theorem dX12_areSame_6 : decode cX12_areSame 6 = .ok (.aload_n 0, 1) := by decide +kernel
theorem dX12_areSame_7 : decode cX12_areSame 7 = .ok (.getfield 67, 3) := by decide +kernel
theorem dX12_areSame_10 : decode cX12_areSame 10 = .ok (.iload_n 2, 1) := by decide +kernel
theorem dX12_areSame_11 : decode cX12_areSame 11 = .ok (.iaload, 1) := by decide +kernel
theorem dX12_areSame_12 : decode cX12_areSame 12 = .ok (.if_icmp .ne 33, 3) := by decide +kernel
theorem dX12_areSame_45 : decode cX12_areSame 45 = .ok (.iconst 0, 1) := by decide +kernel
theorem dX12_areSame_46 : decode cX12_areSame 46 = .ok (.ireturn, 1) := by decide +kernel
theorem dX12_areSame_15 : decode cX12_areSame 15 = .ok (.aload_n 0, 1) := by decide +kernel
theorem dX12_areSame_16 : decode cX12_areSame 16 = .ok (.getfield 70, 3) := by decide +kernel
theorem dX12_areSame_19 : decode cX12_areSame 19 = .ok (.iload_n 1, 1) := by decide +kernel
theorem dX12_areSame_20 : decode cX12_areSame 20 = .ok (.iaload, 1) := by decide +kernel
theorem dX12_areSame_21 : decode cX12_areSame 21 = .ok (.aload_n 0, 1) := by decide +kernel
theorem dX12_areSame_22 : decode cX12_areSame 22 = .ok (.getfield 70, 3) := by decide +kernel
theorem dX12_areSame_25 : decode cX12_areSame 25 = .ok (.iload_n 2, 1) := by decide +kernel
theorem dX12_areSame_26 : decode cX12_areSame 26 = .ok (.iaload, 1) := by decide +kernel
theorem dX12_areSame_27 : decode cX12_areSame 27 = .ok (.if_icmp .ne 18, 3) := by decide +kernel
theorem dX12_areSame_30 : decode cX12_areSame 30 = .ok (.aload_n 0, 1) := by decide +kernel
theorem dX12_areSame_31 : decode cX12_areSame 31 = .ok (.getfield 73, 3) := by decide +kernel
theorem dX12_areSame_34 : decode cX12_areSame 34 = .ok (.iload_n 1, 1) := by decide +kernel
theorem dX12_areSame_35 : decode cX12_areSame 35 = .ok (.iaload, 1) := by decide +kernel
theorem dX12_areSame_36 : decode cX12_areSame 36 = .ok (.aload_n 0, 1) := by decide +kernel
theorem dX12_areSame_37 : decode cX12_areSame 37 = .ok (.getfield 73, 3) := by decide +kernel
theorem dX12_areSame_40 : decode cX12_areSame 40 = .ok (.iload_n 2, 1) := by decide +kernel
theorem dX12_areSame_41 : decode cX12_areSame 41 = .ok (.iaload, 1) := by decide +kernel
theorem dX12_areSame_42 : decode cX12_areSame 42 = .ok (.if_icmp .eq 5, 3) := by decide +kernel
theorem dX12_areSame_47 : decode cX12_areSame 47 = .ok (.aload_n 0, 1) := by decide +kernel
theorem dX12_areSame_48 : decode cX12_areSame 48 = .ok (.getfield 67, 3) := by decide +kernel
theorem dX12_areSame_51 : decode cX12_areSame 51 = .ok (.iload_n 1, 1) := by decide +kernel
theorem dX12_areSame_52 : decode cX12_areSame 52 = .ok (.iaload, 1) := by decide +kernel
theorem dX12_areSame_53 : decode cX12_areSame 53 = .ok (.iconst 4, 1) := by decide +kernel
theorem dX12_areSame_54 : decode cX12_areSame 54 = .ok (.if_icmp .eq 13, 3) := by decide +kernel
theorem dX12_areSame_67 : decode cX12_areSame 67 = .ok (.aload_n 0, 1) := by decide +kernel
theorem dX12_areSame_68 : decode cX12_areSame 68 = .ok (.iload_n 1, 1) := by decide +kernel
theorem dX12_areSame_69 : decode cX12_areSame 69 = .ok (.iload_n 2, 1) := by decide +kernel
theorem dX12_areSame_70 : decode cX12_areSame 70 = .ok (.invokevirtual 522, 3) := by decide +kernel
theorem wm_2330 : (Jvm.Cond.methodLink "GrownKindsModel" (522 : Nat) ({ cls := "GrownKindsModel", name := "areSameBags", desc := "(II)Z" } : Jvm.MethodName)) ∈ gT := gT_in (List.mem_of_getElem? (i := 2330) (by decide +kernel)) (by decide +kernel)
theorem wm_2332 : (Jvm.Cond.instanceMethod ({ cls := "GrownKindsModel", name := "areSameBags", desc := "(II)Z" } : Jvm.MethodName)) ∈ gT := gT_in (List.mem_of_getElem? (i := 2332) (by decide +kernel)) (by decide +kernel)
theorem wm_166 : Cond.selects "GrownKindsModel" ⟨"GrownKindsModel", "areSameBags", "(II)Z"⟩ ⟨"GrownKindsModel", "areSameBags", "(II)Z"⟩ ∈ gT := gT_in (List.mem_of_getElem? (i := 166) (by decide +kernel)) (by decide +kernel)
theorem wm_2333 : (Jvm.Cond.code ({ cls := "GrownKindsModel", name := "areSameBags", desc := "(II)Z" } : Jvm.MethodName) prog_14_method_124_code (8 : Nat) (Option.some Jvm.ClassFile.FieldType.boolean)) ∈ gT := gT_in (List.mem_of_getElem? (i := 2333) (by decide +kernel)) (by decide +kernel)
theorem dX12_areSame_73 : decode cX12_areSame 73 = .ok (.ireturn, 1) := by decide +kernel
theorem dX12_areSame_57 : decode cX12_areSame 57 = .ok (.aload_n 0, 1) := by decide +kernel
theorem dX12_areSame_58 : decode cX12_areSame 58 = .ok (.getfield 67, 3) := by decide +kernel
theorem dX12_areSame_61 : decode cX12_areSame 61 = .ok (.iload_n 1, 1) := by decide +kernel
theorem dX12_areSame_62 : decode cX12_areSame 62 = .ok (.iaload, 1) := by decide +kernel
theorem dX12_areSame_63 : decode cX12_areSame 63 = .ok (.iconst 5, 1) := by decide +kernel
theorem dX12_areSame_64 : decode cX12_areSame 64 = .ok (.if_icmp .ne 10, 3) := by decide +kernel
theorem dX12_areSame_74 : decode cX12_areSame 74 = .ok (.aload_n 0, 1) := by decide +kernel
theorem dX12_areSame_75 : decode cX12_areSame 75 = .ok (.getfield 67, 3) := by decide +kernel
theorem dX12_areSame_78 : decode cX12_areSame 78 = .ok (.iload_n 1, 1) := by decide +kernel
theorem dX12_areSame_79 : decode cX12_areSame 79 = .ok (.iaload, 1) := by decide +kernel
theorem dX12_areSame_80 : decode cX12_areSame 80 = .ok (.bipush 6, 2) := by decide +kernel
theorem dX12_areSame_82 : decode cX12_areSame 82 = .ok (.if_icmp .eq 16, 3) := by decide +kernel
theorem dX12_areSame_98 : decode cX12_areSame 98 = .ok (.aload_n 0, 1) := by decide +kernel
theorem dX12_areSame_99 : decode cX12_areSame 99 = .ok (.getfield 76, 3) := by decide +kernel
theorem dX12_areSame_102 : decode cX12_areSame 102 = .ok (.iload_n 2, 1) := by decide +kernel
theorem dX12_areSame_103 : decode cX12_areSame 103 = .ok (.iaload, 1) := by decide +kernel
theorem dX12_areSame_104 : decode cX12_areSame 104 = .ok (.istore_n 3, 1) := by decide +kernel
theorem dX12_areSame_105 : decode cX12_areSame 105 = .ok (.iload_n 3, 1) := by decide +kernel
theorem dX12_areSame_106 : decode cX12_areSame 106 = .ok (.ifCond .lt 25, 3) := by decide +kernel
theorem dX12_areSame_109 : decode cX12_areSame 109 = .ok (.aload_n 0, 1) := by decide +kernel
theorem dX12_areSame_110 : decode cX12_areSame 110 = .ok (.iload_n 1, 1) := by decide +kernel
theorem dX12_areSame_111 : decode cX12_areSame 111 = .ok (.iload_n 2, 1) := by decide +kernel
theorem dX12_areSame_112 : decode cX12_areSame 112 = .ok (.iload_n 3, 1) := by decide +kernel
theorem dX12_areSame_113 : decode cX12_areSame 113 = .ok (.invokevirtual 525, 3) := by decide +kernel
theorem wm_2334 : (Jvm.Cond.methodLink "GrownKindsModel" (525 : Nat) ({ cls := "GrownKindsModel", name := "areSameFrom", desc := "(III)Z" } : Jvm.MethodName)) ∈ gT := gT_in (List.mem_of_getElem? (i := 2334) (by decide +kernel)) (by decide +kernel)
theorem wm_2336 : (Jvm.Cond.instanceMethod ({ cls := "GrownKindsModel", name := "areSameFrom", desc := "(III)Z" } : Jvm.MethodName)) ∈ gT := gT_in (List.mem_of_getElem? (i := 2336) (by decide +kernel)) (by decide +kernel)
theorem wm_167 : Cond.selects "GrownKindsModel" ⟨"GrownKindsModel", "areSameFrom", "(III)Z"⟩ ⟨"GrownKindsModel", "areSameFrom", "(III)Z"⟩ ∈ gT := gT_in (List.mem_of_getElem? (i := 167) (by decide +kernel)) (by decide +kernel)
theorem wm_2337 : (Jvm.Cond.code ({ cls := "GrownKindsModel", name := "areSameFrom", desc := "(III)Z" } : Jvm.MethodName) prog_14_method_123_code (6 : Nat) (Option.some Jvm.ClassFile.FieldType.boolean)) ∈ gT := gT_in (List.mem_of_getElem? (i := 2337) (by decide +kernel)) (by decide +kernel)
theorem dX12_areSame_116 : decode cX12_areSame 116 = .ok (.ifCond .eq 5, 3) := by decide +kernel
theorem dX12_areSame_121 : decode cX12_areSame 121 = .ok (.aload_n 0, 1) := by decide +kernel
theorem dX12_areSame_122 : decode cX12_areSame 122 = .ok (.getfield 79, 3) := by decide +kernel
theorem dX12_areSame_125 : decode cX12_areSame 125 = .ok (.iload_n 3, 1) := by decide +kernel
theorem dX12_areSame_126 : decode cX12_areSame 126 = .ok (.iaload, 1) := by decide +kernel
theorem dX12_areSame_127 : decode cX12_areSame 127 = .ok (.istore_n 3, 1) := by decide +kernel
theorem dX12_areSame_128 : decode cX12_areSame 128 = .ok (.goto (-23), 3) := by decide +kernel
theorem dX12_areSame_119 : decode cX12_areSame 119 = .ok (.iconst 1, 1) := by decide +kernel
theorem dX12_areSame_120 : decode cX12_areSame 120 = .ok (.ireturn, 1) := by decide +kernel
theorem dX12_areSame_131 : decode cX12_areSame 131 = .ok (.iconst 0, 1) := by decide +kernel
theorem dX12_areSame_132 : decode cX12_areSame 132 = .ok (.ireturn, 1) := by decide +kernel
theorem dX12_areSame_85 : decode cX12_areSame 85 = .ok (.aload_n 0, 1) := by decide +kernel
theorem dX12_areSame_86 : decode cX12_areSame 86 = .ok (.iload_n 1, 1) := by decide +kernel
theorem dX12_areSame_87 : decode cX12_areSame 87 = .ok (.iload_n 2, 1) := by decide +kernel
theorem dX12_areSame_88 : decode cX12_areSame 88 = .ok (.aload_n 0, 1) := by decide +kernel
theorem dX12_areSame_89 : decode cX12_areSame 89 = .ok (.getfield 76, 3) := by decide +kernel
theorem dX12_areSame_92 : decode cX12_areSame 92 = .ok (.iload_n 2, 1) := by decide +kernel
theorem dX12_areSame_93 : decode cX12_areSame 93 = .ok (.iaload, 1) := by decide +kernel
theorem dX12_areSame_94 : decode cX12_areSame 94 = .ok (.invokevirtual 525, 3) := by decide +kernel
theorem dX12_areSame_97 : decode cX12_areSame 97 = .ok (.ireturn, 1) := by decide +kernel
theorem dX12_areSameBags_0 : decode cX12_areSameBags 0 = .ok (.lconst 0, 1) := by decide +kernel
theorem dX12_areSameBags_1 : decode cX12_areSameBags 1 = .ok (.lstore_n 3, 1) := by decide +kernel
theorem dX12_areSameBags_2 : decode cX12_areSameBags 2 = .ok (.aload_n 0, 1) := by decide +kernel
theorem dX12_areSameBags_3 : decode cX12_areSameBags 3 = .ok (.getfield 76, 3) := by decide +kernel
theorem dX12_areSameBags_6 : decode cX12_areSameBags 6 = .ok (.iload_n 1, 1) := by decide +kernel
theorem dX12_areSameBags_7 : decode cX12_areSameBags 7 = .ok (.iaload, 1) := by decide +kernel
theorem dX12_areSameBags_8 : decode cX12_areSameBags 8 = .ok (.istore 5, 2) := by decide +kernel
theorem dX12_areSameBags_10 : decode cX12_areSameBags 10 = .ok (.iload 5, 2) := by decide +kernel
theorem dX12_areSameBags_12 : decode cX12_areSameBags 12 = .ok (.ifCond .lt 82, 3) := by decide +kernel
theorem dX12_areSameBags_15 : decode cX12_areSameBags 15 = .ok (.iconst 0, 1) := by decide +kernel
theorem dX12_areSameBags_16 : decode cX12_areSameBags 16 = .ok (.istore 6, 2) := by decide +kernel
theorem dX12_areSameBags_18 : decode cX12_areSameBags 18 = .ok (.aload_n 0, 1) := by decide +kernel
theorem dX12_areSameBags_19 : decode cX12_areSameBags 19 = .ok (.getfield 76, 3) := by decide +kernel
theorem dX12_areSameBags_22 : decode cX12_areSameBags 22 = .ok (.iload_n 2, 1) := by decide +kernel
theorem dX12_areSameBags_23 : decode cX12_areSameBags 23 = .ok (.iaload, 1) := by decide +kernel
theorem dX12_areSameBags_24 : decode cX12_areSameBags 24 = .ok (.istore 7, 2) := by decide +kernel
theorem dX12_areSameBags_26 : decode cX12_areSameBags 26 = .ok (.iload 7, 2) := by decide +kernel
theorem dX12_areSameBags_28 : decode cX12_areSameBags 28 = .ok (.ifCond .lt 40, 3) := by decide +kernel
theorem dX12_areSameBags_31 : decode cX12_areSameBags 31 = .ok (.lload_n 3, 1) := by decide +kernel
theorem dX12_areSameBags_32 : decode cX12_areSameBags 32 = .ok (.iload 6, 2) := by decide +kernel
theorem dX12_areSameBags_34 : decode cX12_areSameBags 34 = .ok (.lshr, 1) := by decide +kernel
theorem dX12_areSameBags_35 : decode cX12_areSameBags 35 = .ok (.lconst 1, 1) := by decide +kernel
theorem dX12_areSameBags_36 : decode cX12_areSameBags 36 = .ok (.land, 1) := by decide +kernel
theorem dX12_areSameBags_37 : decode cX12_areSameBags 37 = .ok (.lconst 1, 1) := by decide +kernel
theorem dX12_areSameBags_38 : decode cX12_areSameBags 38 = .ok (.lcmp, 1) := by decide +kernel
theorem dX12_areSameBags_39 : decode cX12_areSameBags 39 = .ok (.ifCond .eq 14, 3) := by decide +kernel
theorem dX12_areSameBags_42 : decode cX12_areSameBags 42 = .ok (.aload_n 0, 1) := by decide +kernel
theorem dX12_areSameBags_43 : decode cX12_areSameBags 43 = .ok (.iload 5, 2) := by decide +kernel
theorem dX12_areSameBags_45 : decode cX12_areSameBags 45 = .ok (.iload 7, 2) := by decide +kernel
theorem dX12_areSameBags_47 : decode cX12_areSameBags 47 = .ok (.invokevirtual 519, 3) := by decide +kernel
theorem wm_2326 : (Jvm.Cond.methodLink "GrownKindsModel" (519 : Nat) ({ cls := "GrownKindsModel", name := "areSame", desc := "(II)Z" } : Jvm.MethodName)) ∈ gT := gT_in (List.mem_of_getElem? (i := 2326) (by decide +kernel)) (by decide +kernel)
theorem wm_2328 : (Jvm.Cond.instanceMethod ({ cls := "GrownKindsModel", name := "areSame", desc := "(II)Z" } : Jvm.MethodName)) ∈ gT := gT_in (List.mem_of_getElem? (i := 2328) (by decide +kernel)) (by decide +kernel)
theorem wm_165 : Cond.selects "GrownKindsModel" ⟨"GrownKindsModel", "areSame", "(II)Z"⟩ ⟨"GrownKindsModel", "areSame", "(II)Z"⟩ ∈ gT := gT_in (List.mem_of_getElem? (i := 165) (by decide +kernel)) (by decide +kernel)
theorem wm_2329 : (Jvm.Cond.code ({ cls := "GrownKindsModel", name := "areSame", desc := "(II)Z" } : Jvm.MethodName) prog_14_method_122_code (4 : Nat) (Option.some Jvm.ClassFile.FieldType.boolean)) ∈ gT := gT_in (List.mem_of_getElem? (i := 2329) (by decide +kernel)) (by decide +kernel)
theorem dX12_areSameBags_50 : decode cX12_areSameBags 50 = .ok (.ifCond .ne 18, 3) := by decide +kernel
theorem dX12_areSameBags_53 : decode cX12_areSameBags 53 = .ok (.aload_n 0, 1) := by decide +kernel
theorem dX12_areSameBags_54 : decode cX12_areSameBags 54 = .ok (.getfield 79, 3) := by decide +kernel
theorem dX12_areSameBags_57 : decode cX12_areSameBags 57 = .ok (.iload 7, 2) := by decide +kernel
theorem dX12_areSameBags_59 : decode cX12_areSameBags 59 = .ok (.iaload, 1) := by decide +kernel
theorem dX12_areSameBags_60 : decode cX12_areSameBags 60 = .ok (.istore 7, 2) := by decide +kernel
theorem dX12_areSameBags_62 : decode cX12_areSameBags 62 = .ok (.iinc 6 1, 3) := by decide +kernel
theorem dX12_areSameBags_65 : decode cX12_areSameBags 65 = .ok (.goto (-39), 3) := by decide +kernel
theorem dX12_areSameBags_68 : decode cX12_areSameBags 68 = .ok (.iload 7, 2) := by decide +kernel
theorem dX12_areSameBags_70 : decode cX12_areSameBags 70 = .ok (.ifCond .ge 5, 3) := by decide +kernel
theorem dX12_areSameBags_75 : decode cX12_areSameBags 75 = .ok (.lload_n 3, 1) := by decide +kernel
theorem dX12_areSameBags_76 : decode cX12_areSameBags 76 = .ok (.lconst 1, 1) := by decide +kernel
theorem dX12_areSameBags_77 : decode cX12_areSameBags 77 = .ok (.iload 6, 2) := by decide +kernel
theorem dX12_areSameBags_79 : decode cX12_areSameBags 79 = .ok (.lshl, 1) := by decide +kernel
theorem dX12_areSameBags_80 : decode cX12_areSameBags 80 = .ok (.lor, 1) := by decide +kernel
theorem dX12_areSameBags_81 : decode cX12_areSameBags 81 = .ok (.lstore_n 3, 1) := by decide +kernel
theorem dX12_areSameBags_82 : decode cX12_areSameBags 82 = .ok (.aload_n 0, 1) := by decide +kernel
theorem dX12_areSameBags_83 : decode cX12_areSameBags 83 = .ok (.getfield 79, 3) := by decide +kernel
theorem dX12_areSameBags_86 : decode cX12_areSameBags 86 = .ok (.iload 5, 2) := by decide +kernel
theorem dX12_areSameBags_88 : decode cX12_areSameBags 88 = .ok (.iaload, 1) := by decide +kernel
theorem dX12_areSameBags_89 : decode cX12_areSameBags 89 = .ok (.istore 5, 2) := by decide +kernel
theorem dX12_areSameBags_91 : decode cX12_areSameBags 91 = .ok (.goto (-81), 3) := by decide +kernel
theorem dX12_areSameBags_73 : decode cX12_areSameBags 73 = .ok (.iconst 0, 1) := by decide +kernel
theorem dX12_areSameBags_74 : decode cX12_areSameBags 74 = .ok (.ireturn, 1) := by decide +kernel
theorem dX12_areSameBags_94 : decode cX12_areSameBags 94 = .ok (.iconst 1, 1) := by decide +kernel
theorem dX12_areSameBags_95 : decode cX12_areSameBags 95 = .ok (.ireturn, 1) := by decide +kernel
theorem dX12_areSameFrom_0 : decode cX12_areSameFrom 0 = .ok (.iload_n 3, 1) := by decide +kernel
theorem dX12_areSameFrom_1 : decode cX12_areSameFrom 1 = .ok (.istore 4, 2) := by decide +kernel
theorem dX12_areSameFrom_3 : decode cX12_areSameFrom 3 = .ok (.aload_n 0, 1) := by decide +kernel
theorem dX12_areSameFrom_4 : decode cX12_areSameFrom 4 = .ok (.getfield 76, 3) := by decide +kernel
theorem dX12_areSameFrom_7 : decode cX12_areSameFrom 7 = .ok (.iload_n 1, 1) := by decide +kernel
theorem dX12_areSameFrom_8 : decode cX12_areSameFrom 8 = .ok (.iaload, 1) := by decide +kernel
theorem dX12_areSameFrom_9 : decode cX12_areSameFrom 9 = .ok (.istore 5, 2) := by decide +kernel
theorem dX12_areSameFrom_11 : decode cX12_areSameFrom 11 = .ok (.iload 5, 2) := by decide +kernel
theorem dX12_areSameFrom_13 : decode cX12_areSameFrom 13 = .ok (.ifCond .lt 56, 3) := by decide +kernel
theorem dX12_areSameFrom_16 : decode cX12_areSameFrom 16 = .ok (.aload_n 0, 1) := by decide +kernel
theorem dX12_areSameFrom_17 : decode cX12_areSameFrom 17 = .ok (.iload 5, 2) := by decide +kernel
theorem dX12_areSameFrom_19 : decode cX12_areSameFrom 19 = .ok (.iload 4, 2) := by decide +kernel
theorem dX12_areSameFrom_21 : decode cX12_areSameFrom 21 = .ok (.invokevirtual 519, 3) := by decide +kernel
theorem dX12_areSameFrom_24 : decode cX12_areSameFrom 24 = .ok (.ifCond .ne 5, 3) := by decide +kernel
theorem dX12_areSameFrom_29 : decode cX12_areSameFrom 29 = .ok (.aload_n 0, 1) := by decide +kernel
theorem dX12_areSameFrom_30 : decode cX12_areSameFrom 30 = .ok (.getfield 79, 3) := by decide +kernel
theorem dX12_areSameFrom_33 : decode cX12_areSameFrom 33 = .ok (.iload 4, 2) := by decide +kernel
theorem dX12_areSameFrom_35 : decode cX12_areSameFrom 35 = .ok (.iaload, 1) := by decide +kernel
theorem dX12_areSameFrom_36 : decode cX12_areSameFrom 36 = .ok (.ifCond .ge 12, 3) := by decide +kernel
theorem dX12_areSameFrom_48 : decode cX12_areSameFrom 48 = .ok (.aload_n 0, 1) := by decide +kernel
theorem dX12_areSameFrom_49 : decode cX12_areSameFrom 49 = .ok (.getfield 79, 3) := by decide +kernel
theorem dX12_areSameFrom_52 : decode cX12_areSameFrom 52 = .ok (.iload 4, 2) := by decide +kernel
theorem dX12_areSameFrom_54 : decode cX12_areSameFrom 54 = .ok (.iaload, 1) := by decide +kernel
theorem dX12_areSameFrom_39 : decode cX12_areSameFrom 39 = .ok (.aload_n 0, 1) := by decide +kernel
theorem dX12_areSameFrom_40 : decode cX12_areSameFrom 40 = .ok (.getfield 76, 3) := by decide +kernel
theorem dX12_areSameFrom_43 : decode cX12_areSameFrom 43 = .ok (.iload_n 2, 1) := by decide +kernel
theorem dX12_areSameFrom_44 : decode cX12_areSameFrom 44 = .ok (.iaload, 1) := by decide +kernel
theorem dX12_areSameFrom_45 : decode cX12_areSameFrom 45 = .ok (.goto 10, 3) := by decide +kernel
theorem dX12_areSameFrom_55 : decode cX12_areSameFrom 55 = .ok (.istore 4, 2) := by decide +kernel
theorem dX12_areSameFrom_57 : decode cX12_areSameFrom 57 = .ok (.aload_n 0, 1) := by decide +kernel
theorem dX12_areSameFrom_58 : decode cX12_areSameFrom 58 = .ok (.getfield 79, 3) := by decide +kernel
theorem dX12_areSameFrom_61 : decode cX12_areSameFrom 61 = .ok (.iload 5, 2) := by decide +kernel
theorem dX12_areSameFrom_63 : decode cX12_areSameFrom 63 = .ok (.iaload, 1) := by decide +kernel
theorem dX12_areSameFrom_64 : decode cX12_areSameFrom 64 = .ok (.istore 5, 2) := by decide +kernel
theorem dX12_areSameFrom_66 : decode cX12_areSameFrom 66 = .ok (.goto (-55), 3) := by decide +kernel
theorem dX12_areSameFrom_27 : decode cX12_areSameFrom 27 = .ok (.iconst 0, 1) := by decide +kernel
theorem dX12_areSameFrom_28 : decode cX12_areSameFrom 28 = .ok (.ireturn, 1) := by decide +kernel
theorem dX12_areSameFrom_69 : decode cX12_areSameFrom 69 = .ok (.iconst 1, 1) := by decide +kernel
theorem dX12_areSameFrom_70 : decode cX12_areSameFrom 70 = .ok (.ireturn, 1) := by decide +kernel
theorem dX12_isAmong_0 : decode cX12_isAmong 0 = .ok (.aload_n 0, 1) := by decide +kernel
theorem dX12_isAmong_1 : decode cX12_isAmong 1 = .ok (.getfield 76, 3) := by decide +kernel
theorem dX12_isAmong_4 : decode cX12_isAmong 4 = .ok (.iload_n 1, 1) := by decide +kernel
theorem dX12_isAmong_5 : decode cX12_isAmong 5 = .ok (.iaload, 1) := by decide +kernel
theorem dX12_isAmong_6 : decode cX12_isAmong 6 = .ok (.istore_n 3, 1) := by decide +kernel
theorem dX12_isAmong_7 : decode cX12_isAmong 7 = .ok (.iload_n 3, 1) := by decide +kernel
theorem dX12_isAmong_8 : decode cX12_isAmong 8 = .ok (.ifCond .lt 24, 3) := by decide +kernel
theorem dX12_isAmong_11 : decode cX12_isAmong 11 = .ok (.aload_n 0, 1) := by decide +kernel
theorem dX12_isAmong_12 : decode cX12_isAmong 12 = .ok (.iload_n 3, 1) := by decide +kernel
theorem dX12_isAmong_13 : decode cX12_isAmong 13 = .ok (.iload_n 2, 1) := by decide +kernel
theorem dX12_isAmong_14 : decode cX12_isAmong 14 = .ok (.invokevirtual 519, 3) := by decide +kernel
theorem dX12_isAmong_17 : decode cX12_isAmong 17 = .ok (.ifCond .eq 5, 3) := by decide +kernel
theorem dX12_isAmong_22 : decode cX12_isAmong 22 = .ok (.aload_n 0, 1) := by decide +kernel
theorem dX12_isAmong_23 : decode cX12_isAmong 23 = .ok (.getfield 79, 3) := by decide +kernel
theorem dX12_isAmong_26 : decode cX12_isAmong 26 = .ok (.iload_n 3, 1) := by decide +kernel
theorem dX12_isAmong_27 : decode cX12_isAmong 27 = .ok (.iaload, 1) := by decide +kernel
theorem dX12_isAmong_28 : decode cX12_isAmong 28 = .ok (.istore_n 3, 1) := by decide +kernel
theorem dX12_isAmong_29 : decode cX12_isAmong 29 = .ok (.goto (-22), 3) := by decide +kernel
theorem dX12_isAmong_20 : decode cX12_isAmong 20 = .ok (.iconst 1, 1) := by decide +kernel
theorem dX12_isAmong_21 : decode cX12_isAmong 21 = .ok (.ireturn, 1) := by decide +kernel
theorem dX12_isAmong_32 : decode cX12_isAmong 32 = .ok (.iconst 0, 1) := by decide +kernel
theorem dX12_isAmong_33 : decode cX12_isAmong 33 = .ok (.ireturn, 1) := by decide +kernel
theorem wV_12_234 : gWV "GrownKindsModel" 234 yX12_standsIn cX12_standsIn 4 (some .int) := ⟨wm_1998, wm_2000, wm_115, wm_188, wm_2001, by decide +kernel, by decide +kernel⟩
theorem wV_12_241 : gWV "GrownKindsModel" 241 yX12_stands cX12_stands 7 (some .int) := ⟨wm_1994, wm_1996, wm_114, wm_188, wm_1997, by decide +kernel, by decide +kernel⟩
def mX12_stands_48 (rec : Nat → Int → Int → St → Option (Int)) (S0 : St) (v_3 : Int) (v_4 : Int) (a1 : Int) (a2 : Int) : Nat → Int → Int → Option (Int)
  | 0, _, _ => none
  | f + 1, v_19, v_20 => gd (inI v_19) <| if v_19 < 0 then (some (v_20)) else (bd1 (rec 1 v_19 a2 S0) fun r_32 => nx (orr v_20 r_32) fun x_33 => gd (0 ≤ (96 + v_19) ∧ (96 + v_19) < 228) <| nx (S0 84 (96 + v_19)) fun x_35 => mX12_stands_48 rec S0 v_3 v_4 a1 a2 f x_35 x_33)
def mX12_stands_17 (rec : Nat → Int → Int → St → Option (Int)) (S0 : St) (a1 : Int) (a2 : Int) : Nat → Int → Int → Int → Option (Int)
  | 0, _, _, _ => none
  | f + 1, v_3, v_4, v_5 => gd (inI v_3) <| if v_3 < 0 then (some (v_5)) else (bd1 (mX12_isOff S0 a1 v_4) fun r_15 => bd1 (gd (inI r_15) <| if r_15 = 0 then (gd (0 ≤ (120 + v_3) ∧ (120 + v_3) < 228) <| some ((S0 84 (120 + v_3)))) else (some ((-1)))) fun z_16 => bd1 (mX12_stands_48 rec S0 v_3 v_4 a1 a2 FU z_16 v_5) fun y_21 => gd (0 ≤ (144 + v_3) ∧ (144 + v_3) < 228) <| nx (S0 84 (144 + v_3)) fun x_25 => mX12_stands_17 rec S0 a1 a2 f x_25 (v_4 + 1) y_21)
def bX12_stands (rec : Nat → Int → Int → St → Option (Int)) (S0 : St) (a1 : Int) (a2 : Int) : Option (Int) := gd (0 ≤ (168 + a1) ∧ (168 + a1) < 228) <| nx (S0 84 (168 + a1)) fun x_2 => bd1 (mX12_stands_17 rec S0 a1 a2 FU x_2 0 0) fun y_6 => some (y_6)
set_option maxHeartbeats 4000000 in
set_option maxRecDepth 100000 in
theorem spX12_stands (l : Launch) {D : va_G} {cy : Nat → ClassId} {b n : Nat} (hn : 102 ≤ n) {X : Nat → va_E} (rec : Nat → Int → Int → St → Option (Int)) (d : Nat) (hd : 2 ≤ d) (hr0 : ∀ (S0 : St) (a1 : Int) (a2 : Int) (o1 : Int), rec 0 a1 a2 S0 = some o1 → gI l yX12_stands cX12_stands 7 (some .int) d 0 0 D cy b n (enc b cy X S0) [.ref (b + 80), .int (iI a1), .int (iI a2)] (fun r u => r = iI o1 ∧ u = (n, enc b cy X S0))) (hr1 : ∀ (S0 : St) (a1 : Int) (a2 : Int) (o1 : Int), rec 1 a1 a2 S0 = some o1 → gI l yX12_standsIn cX12_standsIn 4 (some .int) d 0 0 D cy b n (enc b cy X S0) [.ref (b + 80), .int (iI a1), .int (iI a2)] (fun r u => r = iI o1 ∧ u = (n, enc b cy X S0))) (S0 : St) (a1 : Int) (a2 : Int) (o1 : Int) (hM : bX12_stands rec S0 a1 a2 = some o1) : gI l yX12_stands cX12_stands 7 (some .int) (d + 1) 0 0 D cy b n (enc b cy X S0) [.ref (b + 80), .int (iI a1), .int (iI a2)] (fun r u => r = iI o1 ∧ u = (n, enc b cy X S0)) := by
  refine gI_of (by decide) (Nat.le_of_ble_eq_true rfl) ?_
  intro p e s m args below meth c S hr hlk hin hsz ls hl hG
  have hx := S.1
  have hb := S.2.1
  have hl : lv_has ls 7 [(0, .ref (b + 80)), (1, .int (iI a1)), (2, .int (iI a2))] := hl
  replace hG : gW D cy b n s s.heap [] (enc b cy X S0) := hG
  obtain ⟨H, eH⟩ : ∃ H, H = s.heap := ⟨_, rfl⟩
  obtain ⟨locs, elocs⟩ : ∃ locs : List Loc, locs = [] := ⟨_, rfl⟩
  rw [← eH, ← elocs] at hG
  rw [← eH, ← elocs]
  clear eH elocs
  unfold bX12_stands at hM
  refine lv_iconst (v := iI 0) hx hb dX12_stands_0 (by decide) ?_
  refine lv_istore_n (lv' := [(3, .int (iI 0)), (0, .ref (b + 80)), (1, .int (iI a1)), (2, .int (iI a2))]) hx hb dX12_stands_1 rfl hl (by decide) rfl (fun ls hl => ?_)
  refine lv_iconst (v := iI 0) hx hb dX12_stands_2 (by decide) ?_
  refine lv_istore (lv' := [(4, .int (iI 0)), (3, .int (iI 0)), (0, .ref (b + 80)), (1, .int (iI a1)), (2, .int (iI a2))]) hx hb dX12_stands_3 hl (by decide) rfl (fun ls hl => ?_)
  refine lv_aload_n hx hb dX12_stands_5 rfl (lv_at hl 2 rfl) ?_
  refine m_get S hG 80 83 0 rfl ec_83 cpX12 wm_1673 dX12_stands_6 rfl (Nat.lt_of_lt_of_le (Nat.le_of_ble_eq_true rfl) hn) (by decide) ?_
  refine lv_sipush (v := iI 168) hx hb dX12_stands_9 (by decide) ?_
  refine lv_iload_n hx hb dX12_stands_12 rfl (lv_at hl 3 rfl) ?_
  refine gi_add hx hb dX12_stands_13 ?_
  obtain ⟨hg_1, hM⟩ := gd_some hM
  refine mi_ald S hG 81 84 rfl ec_84 (Nat.lt_of_lt_of_le (Nat.le_of_ble_eq_true rfl) hn) dX12_stands_14 hg_1 (by decide) ?_
  refine gi_nm (fun x_2 ex_2 => ?_)
  replace hM := nx_at hM ex_2
  clear ex_2
  refine lv_istore (lv' := [(5, .int (iI x_2)), (4, .int (iI 0)), (3, .int (iI 0)), (0, .ref (b + 80)), (1, .int (iI a1)), (2, .int (iI a2))]) hx hb dX12_stands_15 hl (by decide) rfl (fun ls hl => ?_)
  obtain ⟨y_6, hc_7, hM⟩ := bd1_some hM
  have hK_8 : ∀ (H : Heap) (locs : List Loc) (ls : Array Slot), gW D cy b n s H locs (enc b cy X S0) → lv_has ls 7 [(3, .int (iI y_6))] → W p l e (gRm (d + 1) 0 0) s m args below meth c H locs 0 0 (gQI D cy b s args below 0 0 (fun r u => r = iI o1 ∧ u = (n, enc b cy X S0))) (F0 m 97 ls []) := by
    intro H locs ls hG hl
    refine lv_iload_n hx hb dX12_stands_97 rfl (lv_at hl 0 rfl) ?_
    cases hM
    exact g_iret S hr hlk hG hsz dX12_stands_98 ⟨Nat.le_of_ble_eq_true rfl, Nat.le_of_ble_eq_true rfl⟩ ⟨rfl, rfl⟩
  have loop_9 : ∀ (f : Nat) (v_3 : Int) (v_4 : Int) (v_5 : Int) (H : Heap) (locs : List Loc) (ls : Array Slot), mX12_stands_17 rec S0 a1 a2 f v_3 v_4 v_5 = some y_6 → gW D cy b n s H locs (enc b cy X S0) → lv_has ls 7 [(5, .int (iI v_3)), (4, .int (iI v_4)), (3, .int (iI v_5)), (0, .ref (b + 80)), (1, .int (iI a1)), (2, .int (iI a2))] → W p l e (gRm (d + 1) 0 0) s m args below meth c H locs 0 0 (gQI D cy b s args below 0 0 (fun r u => r = iI o1 ∧ u = (n, enc b cy X S0))) (F0 m 17 ls []) := by
    clear hM
    intro f
    induction f with
    | zero => intro v_3 v_4 v_5 H locs ls hM; rw [mX12_stands_17] at hM; cases hM
    | succ f_11 ih_10 =>
      intro v_3 v_4 v_5 H locs ls hM hG hl
      rw [mX12_stands_17] at hM
      refine lv_iload hx hb dX12_stands_17 (lv_at hl 0 rfl) ?_
      obtain ⟨hg_12, hM⟩ := gd_some hM
      refine gi_if_lt (tgt := 97) hx hb dX12_stands_19 (by decide) hg_12 (fun c_13 => ?_) (fun c_13 => ?_)
      · replace hM := ifp hM c_13
        cases hM
        exact hK_8 H locs ls hG (lv_sub hl [2] rfl)
      · replace hM := ifn hM c_13
        refine lv_aload_n hx hb dX12_stands_22 rfl (lv_at hl 3 rfl) ?_
        refine lv_iload_n hx hb dX12_stands_23 rfl (lv_at hl 4 rfl) ?_
        refine lv_iload hx hb dX12_stands_24 (lv_at hl 1 rfl) ?_
        obtain ⟨r_15, hc_14, hM⟩ := bd1_some hM
        refine g_vi (As := [.int (iI a1), .int (iI v_4)]) (rest := []) S hG hsz (vX12_isOff l hn a1 v_4 hc_14) wV_12_231 (ec_83 _) cpX12 (Nat.lt_of_lt_of_le (Nat.le_of_ble_eq_true rfl) hn) dX12_stands_26 rfl hl.1 (ar := 2) (by decide +kernel) rfl (by refine ⟨?_, ?_, ?_, ?_⟩ <;> first | exact Nat.le_of_ble_eq_true rfl | (simp only [gRm]; omega)) (Nat.le_of_ble_eq_true rfl) (fun rv uu H locs hp hG => ?_)
        obtain ⟨rfl, rfl⟩ := hp
        replace hG : gW D cy b n s H locs (enc b cy X S0) := hG
        obtain ⟨z_16, hc_17, hM⟩ := bd1_some hM
        have hK_18 : ∀ (H : Heap) (locs : List Loc) (ls : Array Slot), gW D cy b n s H locs (enc b cy X S0) → lv_has ls 7 [(5, .int (iI v_3)), (4, .int (iI v_4)), (3, .int (iI v_5)), (0, .ref (b + 80)), (1, .int (iI a1)), (2, .int (iI a2))] → W p l e (gRm (d + 1) 0 0) s m args below meth c H locs 0 0 (gQI D cy b s args below 0 0 (fun r u => r = iI o1 ∧ u = (n, enc b cy X S0))) (F0 m 46 ls [.int (iI z_16)]) := by
          intro H locs ls hG hl
          refine lv_istore (lv' := [(6, .int (iI z_16)), (5, .int (iI v_3)), (4, .int (iI v_4)), (3, .int (iI v_5)), (0, .ref (b + 80)), (1, .int (iI a1)), (2, .int (iI a2))]) hx hb dX12_stands_46 hl (by decide) rfl (fun ls hl => ?_)
          obtain ⟨y_21, hc_22, hM⟩ := bd1_some hM
          have hK_23 : ∀ (H : Heap) (locs : List Loc) (ls : Array Slot), gW D cy b n s H locs (enc b cy X S0) → lv_has ls 7 [(5, .int (iI v_3)), (4, .int (iI v_4)), (0, .ref (b + 80)), (1, .int (iI a1)), (2, .int (iI a2)), (3, .int (iI y_21))] → W p l e (gRm (d + 1) 0 0) s m args below meth c H locs 0 0 (gQI D cy b s args below 0 0 (fun r u => r = iI o1 ∧ u = (n, enc b cy X S0))) (F0 m 78 ls []) := by
            intro H locs ls hG hl
            refine lv_iinc (v := iI (v_4 + 1)) (lv' := [(4, .int (iI (v_4 + 1))), (5, .int (iI v_3)), (0, .ref (b + 80)), (1, .int (iI a1)), (2, .int (iI a2)), (3, .int (iI y_21))]) hx hb dX12_stands_78 hl (k := 1) rfl ((iI_add v_4 (1)).trans (congrArg iI (by omega))) (by decide) rfl (fun ls hl => ?_)
            refine lv_aload_n hx hb dX12_stands_81 rfl (lv_at hl 2 rfl) ?_
            refine m_get S hG 80 83 0 rfl ec_83 cpX12 wm_1673 dX12_stands_82 rfl (Nat.lt_of_lt_of_le (Nat.le_of_ble_eq_true rfl) hn) (by decide) ?_
            refine lv_sipush (v := iI 144) hx hb dX12_stands_85 (by decide) ?_
            refine lv_iload hx hb dX12_stands_88 (lv_at hl 1 rfl) ?_
            refine gi_add hx hb dX12_stands_90 ?_
            obtain ⟨hg_24, hM⟩ := gd_some hM
            refine mi_ald S hG 81 84 rfl ec_84 (Nat.lt_of_lt_of_le (Nat.le_of_ble_eq_true rfl) hn) dX12_stands_91 hg_24 (by decide) ?_
            refine gi_nm (fun x_25 ex_25 => ?_)
            replace hM := nx_at hM ex_25
            clear ex_25
            refine lv_istore (lv' := [(5, .int (iI x_25)), (4, .int (iI (v_4 + 1))), (0, .ref (b + 80)), (1, .int (iI a1)), (2, .int (iI a2)), (3, .int (iI y_21))]) hx hb dX12_stands_92 hl (by decide) rfl (fun ls hl => ?_)
            refine lv_goto (tgt := 17) hx hb dX12_stands_94 (by decide) ?_
            exact ih_10 x_25 (v_4 + 1) y_21 H locs ls hM hG (lv_sub hl [0, 1, 5, 2, 3, 4] rfl)
          have loop_26 : ∀ (f : Nat) (v_19 : Int) (v_20 : Int) (H : Heap) (locs : List Loc) (ls : Array Slot), mX12_stands_48 rec S0 v_3 v_4 a1 a2 f v_19 v_20 = some y_21 → gW D cy b n s H locs (enc b cy X S0) → lv_has ls 7 [(6, .int (iI v_19)), (5, .int (iI v_3)), (4, .int (iI v_4)), (3, .int (iI v_20)), (0, .ref (b + 80)), (1, .int (iI a1)), (2, .int (iI a2))] → W p l e (gRm (d + 1) 0 0) s m args below meth c H locs 0 0 (gQI D cy b s args below 0 0 (fun r u => r = iI o1 ∧ u = (n, enc b cy X S0))) (F0 m 48 ls []) := by
            clear hM
            intro f
            induction f with
            | zero => intro v_19 v_20 H locs ls hM; rw [mX12_stands_48] at hM; cases hM
            | succ f_28 ih_27 =>
              intro v_19 v_20 H locs ls hM hG hl
              rw [mX12_stands_48] at hM
              refine lv_iload hx hb dX12_stands_48 (lv_at hl 0 rfl) ?_
              obtain ⟨hg_29, hM⟩ := gd_some hM
              refine gi_if_lt (tgt := 78) hx hb dX12_stands_50 (by decide) hg_29 (fun c_30 => ?_) (fun c_30 => ?_)
              · replace hM := ifp hM c_30
                cases hM
                exact hK_23 H locs ls hG (lv_sub hl [1, 2, 4, 5, 6, 3] rfl)
              · replace hM := ifn hM c_30
                refine lv_iload_n hx hb dX12_stands_53 rfl (lv_at hl 3 rfl) ?_
                refine lv_aload_n hx hb dX12_stands_54 rfl (lv_at hl 4 rfl) ?_
                refine lv_iload hx hb dX12_stands_55 (lv_at hl 0 rfl) ?_
                refine lv_iload_n hx hb dX12_stands_57 rfl (lv_at hl 6 rfl) ?_
                obtain ⟨r_32, hc_31, hM⟩ := bd1_some hM
                refine g_vi (As := [.int (iI v_19), .int (iI a2)]) (rest := [.int (iI v_20)]) S hG hsz (hr1 _ v_19 a2 _ hc_31) wV_12_234 (ec_83 _) cpX12 (Nat.lt_of_lt_of_le (Nat.le_of_ble_eq_true rfl) hn) dX12_stands_58 rfl hl.1 (ar := 2) (by decide +kernel) rfl (by refine ⟨?_, ?_, ?_, ?_⟩ <;> first | exact Nat.le_of_ble_eq_true rfl | (simp only [gRm]; omega)) (Nat.le_of_ble_eq_true rfl) (fun rv uu H locs hp hG => ?_)
                obtain ⟨rfl, rfl⟩ := hp
                replace hG : gW D cy b n s H locs (enc b cy X S0) := hG
                refine gi_or hx hb dX12_stands_61 ?_
                refine gi_nm (fun x_33 ex_33 => ?_)
                replace hM := nx_at hM ex_33
                clear ex_33
                refine lv_istore_n (lv' := [(3, .int (iI x_33)), (6, .int (iI v_19)), (5, .int (iI v_3)), (4, .int (iI v_4)), (0, .ref (b + 80)), (1, .int (iI a1)), (2, .int (iI a2))]) hx hb dX12_stands_62 rfl hl (by decide) rfl (fun ls hl => ?_)
                refine lv_aload_n hx hb dX12_stands_63 rfl (lv_at hl 4 rfl) ?_
                refine m_get S hG 80 83 0 rfl ec_83 cpX12 wm_1673 dX12_stands_64 rfl (Nat.lt_of_lt_of_le (Nat.le_of_ble_eq_true rfl) hn) (by decide) ?_
                refine lv_bipush (v := iI 96) hx hb dX12_stands_67 (by decide) ?_
                refine lv_iload hx hb dX12_stands_69 (lv_at hl 1 rfl) ?_
                refine gi_add hx hb dX12_stands_71 ?_
                obtain ⟨hg_34, hM⟩ := gd_some hM
                refine mi_ald S hG 81 84 rfl ec_84 (Nat.lt_of_lt_of_le (Nat.le_of_ble_eq_true rfl) hn) dX12_stands_72 hg_34 (by decide) ?_
                refine gi_nm (fun x_35 ex_35 => ?_)
                replace hM := nx_at hM ex_35
                clear ex_35
                refine lv_istore (lv' := [(6, .int (iI x_35)), (3, .int (iI x_33)), (5, .int (iI v_3)), (4, .int (iI v_4)), (0, .ref (b + 80)), (1, .int (iI a1)), (2, .int (iI a2))]) hx hb dX12_stands_73 hl (by decide) rfl (fun ls hl => ?_)
                refine lv_goto (tgt := 48) hx hb dX12_stands_75 (by decide) ?_
                exact ih_27 x_35 x_33 H locs ls hM hG (lv_sub hl [0, 2, 3, 1, 4, 5, 6] rfl)
          exact loop_26 FU z_16 v_5 H locs ls hc_22 hG (lv_sub hl [0, 1, 2, 3, 4, 5, 6] rfl)
        clear hM
        replace hM := hc_17
        obtain ⟨hg_36, hM⟩ := gd_some hM
        refine gi_if_eq (tgt := 36) hx hb dX12_stands_29 (by decide) hg_36 (fun c_37 => ?_) (fun c_37 => ?_)
        · replace hM := ifp hM c_37
          refine lv_aload_n hx hb dX12_stands_36 rfl (lv_at hl 3 rfl) ?_
          refine m_get S hG 80 83 0 rfl ec_83 cpX12 wm_1673 dX12_stands_37 rfl (Nat.lt_of_lt_of_le (Nat.le_of_ble_eq_true rfl) hn) (by decide) ?_
          refine lv_bipush (v := iI 120) hx hb dX12_stands_40 (by decide) ?_
          refine lv_iload hx hb dX12_stands_42 (lv_at hl 0 rfl) ?_
          refine gi_add hx hb dX12_stands_44 ?_
          obtain ⟨hg_38, hM⟩ := gd_some hM
          refine mi_ald S hG 81 84 rfl ec_84 (Nat.lt_of_lt_of_le (Nat.le_of_ble_eq_true rfl) hn) dX12_stands_45 hg_38 (by decide) ?_
          cases hM
          exact hK_18 H locs ls hG (lv_sub hl [0, 1, 2, 3, 4, 5] rfl)
        · replace hM := ifn hM c_37
          refine lv_iconst (v := iI (-1)) hx hb dX12_stands_32 (by decide) ?_
          refine lv_goto (tgt := 46) hx hb dX12_stands_33 (by decide) ?_
          cases hM
          exact hK_18 H locs ls hG (lv_sub hl [0, 1, 2, 3, 4, 5] rfl)
  exact loop_9 FU x_2 0 0 H locs ls hc_7 hG (lv_sub hl [0, 1, 2, 3, 4, 5] rfl)
def mX12_standsIn_2 (rec : Nat → Int → Int → St → Option (Int)) (S0 : St) (a2 : Int) : Nat → Int → Option (Int)
  | 0, _ => none
  | f + 1, v_1 => gd (0 ≤ (24 + v_1) ∧ (24 + v_1) < 228) <| gd (inI (S0 84 (24 + v_1))) <| bd1 (mX12_in (S0 84 (24 + v_1)) 3 6) fun r_20 => gd (inI r_20) <| if r_20 = 0 then (some (v_1)) else (gd (0 ≤ (72 + v_1) ∧ (72 + v_1) < 228) <| nx (S0 84 (72 + v_1)) fun x_24 => mX12_standsIn_2 rec S0 a2 f x_24)
def bX12_standsIn (rec : Nat → Int → Int → St → Option (Int)) (S0 : St) (a1 : Int) (a2 : Int) : Option (Int) := bd1 (mX12_standsIn_2 rec S0 a2 FU a1) fun y_2 => gd (0 ≤ (24 + y_2) ∧ (24 + y_2) < 228) <| gd (inI (S0 84 (24 + y_2))) <| if (S0 84 (24 + y_2)) = 7 then (gd (0 ≤ (48 + y_2) ∧ (48 + y_2) < 228) <| bd1 (rec 0 (S0 84 (48 + y_2)) a2 S0) fun r_13 => some (r_13)) else (gd (inI a2) <| if (S0 84 (24 + y_2)) = a2 then (gd (0 ≤ (48 + y_2) ∧ (48 + y_2) < 228) <| some ((shl 1 (S0 84 (48 + y_2))))) else (some (0)))
set_option maxHeartbeats 4000000 in
set_option maxRecDepth 100000 in
theorem spX12_standsIn (l : Launch) {D : va_G} {cy : Nat → ClassId} {b n : Nat} (hn : 102 ≤ n) {X : Nat → va_E} (rec : Nat → Int → Int → St → Option (Int)) (d : Nat) (hd : 2 ≤ d) (hr0 : ∀ (S0 : St) (a1 : Int) (a2 : Int) (o1 : Int), rec 0 a1 a2 S0 = some o1 → gI l yX12_stands cX12_stands 7 (some .int) d 0 0 D cy b n (enc b cy X S0) [.ref (b + 80), .int (iI a1), .int (iI a2)] (fun r u => r = iI o1 ∧ u = (n, enc b cy X S0))) (hr1 : ∀ (S0 : St) (a1 : Int) (a2 : Int) (o1 : Int), rec 1 a1 a2 S0 = some o1 → gI l yX12_standsIn cX12_standsIn 4 (some .int) d 0 0 D cy b n (enc b cy X S0) [.ref (b + 80), .int (iI a1), .int (iI a2)] (fun r u => r = iI o1 ∧ u = (n, enc b cy X S0))) (S0 : St) (a1 : Int) (a2 : Int) (o1 : Int) (hM : bX12_standsIn rec S0 a1 a2 = some o1) : gI l yX12_standsIn cX12_standsIn 4 (some .int) (d + 1) 0 0 D cy b n (enc b cy X S0) [.ref (b + 80), .int (iI a1), .int (iI a2)] (fun r u => r = iI o1 ∧ u = (n, enc b cy X S0)) := by
  refine gI_of (by decide) (Nat.le_of_ble_eq_true rfl) ?_
  intro p e s m args below meth c S hr hlk hin hsz ls hl hG
  have hx := S.1
  have hb := S.2.1
  have hl : lv_has ls 4 [(0, .ref (b + 80)), (1, .int (iI a1)), (2, .int (iI a2))] := hl
  replace hG : gW D cy b n s s.heap [] (enc b cy X S0) := hG
  obtain ⟨H, eH⟩ : ∃ H, H = s.heap := ⟨_, rfl⟩
  obtain ⟨locs, elocs⟩ : ∃ locs : List Loc, locs = [] := ⟨_, rfl⟩
  rw [← eH, ← elocs] at hG
  rw [← eH, ← elocs]
  clear eH elocs
  unfold bX12_standsIn at hM
  refine lv_iload_n hx hb dX12_standsIn_0 rfl (lv_at hl 1 rfl) ?_
  refine lv_istore_n (lv' := [(3, .int (iI a1)), (0, .ref (b + 80)), (1, .int (iI a1)), (2, .int (iI a2))]) hx hb dX12_standsIn_1 rfl hl (by decide) rfl (fun ls hl => ?_)
  obtain ⟨y_2, hc_3, hM⟩ := bd1_some hM
  have hK_4 : ∀ (H : Heap) (locs : List Loc) (ls : Array Slot), gW D cy b n s H locs (enc b cy X S0) → lv_has ls 4 [(0, .ref (b + 80)), (2, .int (iI a2)), (3, .int (iI y_2))] → W p l e (gRm (d + 1) 0 0) s m args below meth c H locs 0 0 (gQI D cy b s args below 0 0 (fun r u => r = iI o1 ∧ u = (n, enc b cy X S0))) (F0 m 37 ls []) := by
    intro H locs ls hG hl
    refine lv_aload_n hx hb dX12_standsIn_37 rfl (lv_at hl 0 rfl) ?_
    refine m_get S hG 80 83 0 rfl ec_83 cpX12 wm_1673 dX12_standsIn_38 rfl (Nat.lt_of_lt_of_le (Nat.le_of_ble_eq_true rfl) hn) (by decide) ?_
    refine lv_bipush (v := iI 24) hx hb dX12_standsIn_41 (by decide) ?_
    refine lv_iload_n hx hb dX12_standsIn_43 rfl (lv_at hl 2 rfl) ?_
    refine gi_add hx hb dX12_standsIn_44 ?_
    obtain ⟨hg_5, hM⟩ := gd_some hM
    refine mi_ald S hG 81 84 rfl ec_84 (Nat.lt_of_lt_of_le (Nat.le_of_ble_eq_true rfl) hn) dX12_standsIn_45 hg_5 (by decide) ?_
    refine lv_bipush (v := iI 7) hx hb dX12_standsIn_46 (by decide) ?_
    obtain ⟨hg_6, hM⟩ := gd_some hM
    refine gi_icmp_ne (tgt := 66) hx hb dX12_standsIn_48 (by decide) hg_6 (by decide) (fun c_7 => ?_) (fun c_7 => ?_)
    · replace hM := ifn hM c_7
      refine lv_aload_n hx hb dX12_standsIn_66 rfl (lv_at hl 0 rfl) ?_
      refine m_get S hG 80 83 0 rfl ec_83 cpX12 wm_1673 dX12_standsIn_67 rfl (Nat.lt_of_lt_of_le (Nat.le_of_ble_eq_true rfl) hn) (by decide) ?_
      refine lv_bipush (v := iI 24) hx hb dX12_standsIn_70 (by decide) ?_
      refine lv_iload_n hx hb dX12_standsIn_72 rfl (lv_at hl 2 rfl) ?_
      refine gi_add hx hb dX12_standsIn_73 ?_
      refine mi_ald S hG 81 84 rfl ec_84 (Nat.lt_of_lt_of_le (Nat.le_of_ble_eq_true rfl) hn) dX12_standsIn_74 hg_5 (by decide) ?_
      refine lv_iload_n hx hb dX12_standsIn_75 rfl (lv_at hl 1 rfl) ?_
      obtain ⟨hg_8, hM⟩ := gd_some hM
      refine gi_icmp_ne (tgt := 93) hx hb dX12_standsIn_76 (by decide) hg_6 hg_8 (fun c_9 => ?_) (fun c_9 => ?_)
      · replace hM := ifn hM c_9
        refine lv_iconst (v := iI 0) hx hb dX12_standsIn_93 (by decide) ?_
        cases hM
        exact g_iret S hr hlk hG hsz dX12_standsIn_94 ⟨Nat.le_of_ble_eq_true rfl, Nat.le_of_ble_eq_true rfl⟩ ⟨rfl, rfl⟩
      · replace hM := ifp hM c_9
        refine lv_iconst (v := iI 1) hx hb dX12_standsIn_79 (by decide) ?_
        refine lv_aload_n hx hb dX12_standsIn_80 rfl (lv_at hl 0 rfl) ?_
        refine m_get S hG 80 83 0 rfl ec_83 cpX12 wm_1673 dX12_standsIn_81 rfl (Nat.lt_of_lt_of_le (Nat.le_of_ble_eq_true rfl) hn) (by decide) ?_
        refine lv_bipush (v := iI 48) hx hb dX12_standsIn_84 (by decide) ?_
        refine lv_iload_n hx hb dX12_standsIn_86 rfl (lv_at hl 2 rfl) ?_
        refine gi_add hx hb dX12_standsIn_87 ?_
        obtain ⟨hg_10, hM⟩ := gd_some hM
        refine mi_ald S hG 81 84 rfl ec_84 (Nat.lt_of_lt_of_le (Nat.le_of_ble_eq_true rfl) hn) dX12_standsIn_88 hg_10 (by decide) ?_
        refine gi_shl hx hb dX12_standsIn_89 ?_
        refine lv_goto (tgt := 94) hx hb dX12_standsIn_90 (by decide) ?_
        cases hM
        exact g_iret S hr hlk hG hsz dX12_standsIn_94 ⟨Nat.le_of_ble_eq_true rfl, Nat.le_of_ble_eq_true rfl⟩ ⟨rfl, rfl⟩
    · replace hM := ifp hM c_7
      refine lv_aload_n hx hb dX12_standsIn_51 rfl (lv_at hl 0 rfl) ?_
      refine lv_aload_n hx hb dX12_standsIn_52 rfl (lv_at hl 0 rfl) ?_
      refine m_get S hG 80 83 0 rfl ec_83 cpX12 wm_1673 dX12_standsIn_53 rfl (Nat.lt_of_lt_of_le (Nat.le_of_ble_eq_true rfl) hn) (by decide) ?_
      refine lv_bipush (v := iI 48) hx hb dX12_standsIn_56 (by decide) ?_
      refine lv_iload_n hx hb dX12_standsIn_58 rfl (lv_at hl 2 rfl) ?_
      refine gi_add hx hb dX12_standsIn_59 ?_
      obtain ⟨hg_11, hM⟩ := gd_some hM
      refine mi_ald S hG 81 84 rfl ec_84 (Nat.lt_of_lt_of_le (Nat.le_of_ble_eq_true rfl) hn) dX12_standsIn_60 hg_11 (by decide) ?_
      refine lv_iload_n hx hb dX12_standsIn_61 rfl (lv_at hl 1 rfl) ?_
      obtain ⟨r_13, hc_12, hM⟩ := bd1_some hM
      refine g_vi (As := [.int (iI (S0 84 (48 + y_2))), .int (iI a2)]) (rest := []) S hG hsz (hr0 _ (S0 84 (48 + y_2)) a2 _ hc_12) wV_12_241 (ec_83 _) cpX12 (Nat.lt_of_lt_of_le (Nat.le_of_ble_eq_true rfl) hn) dX12_standsIn_62 rfl hl.1 (ar := 2) (by decide +kernel) rfl (by refine ⟨?_, ?_, ?_, ?_⟩ <;> first | exact Nat.le_of_ble_eq_true rfl | (simp only [gRm]; omega)) (Nat.le_of_ble_eq_true rfl) (fun rv uu H locs hp hG => ?_)
      obtain ⟨rfl, rfl⟩ := hp
      replace hG : gW D cy b n s H locs (enc b cy X S0) := hG
      cases hM
      exact g_iret S hr hlk hG hsz dX12_standsIn_65 ⟨Nat.le_of_ble_eq_true rfl, Nat.le_of_ble_eq_true rfl⟩ ⟨rfl, rfl⟩
  have loop_14 : ∀ (f : Nat) (v_1 : Int) (H : Heap) (locs : List Loc) (ls : Array Slot), mX12_standsIn_2 rec S0 a2 f v_1 = some y_2 → gW D cy b n s H locs (enc b cy X S0) → lv_has ls 4 [(3, .int (iI v_1)), (0, .ref (b + 80)), (2, .int (iI a2))] → W p l e (gRm (d + 1) 0 0) s m args below meth c H locs 0 0 (gQI D cy b s args below 0 0 (fun r u => r = iI o1 ∧ u = (n, enc b cy X S0))) (F0 m 2 ls []) := by
    clear hM
    intro f
    induction f with
    | zero => intro v_1 H locs ls hM; rw [mX12_standsIn_2] at hM; cases hM
    | succ f_16 ih_15 =>
      intro v_1 H locs ls hM hG hl
      rw [mX12_standsIn_2] at hM
      refine lv_aload_n hx hb dX12_standsIn_2 rfl (lv_at hl 1 rfl) ?_
      refine m_get S hG 80 83 0 rfl ec_83 cpX12 wm_1673 dX12_standsIn_3 rfl (Nat.lt_of_lt_of_le (Nat.le_of_ble_eq_true rfl) hn) (by decide) ?_
      refine lv_bipush (v := iI 24) hx hb dX12_standsIn_6 (by decide) ?_
      refine lv_iload_n hx hb dX12_standsIn_8 rfl (lv_at hl 0 rfl) ?_
      refine gi_add hx hb dX12_standsIn_9 ?_
      obtain ⟨hg_17, hM⟩ := gd_some hM
      refine mi_ald S hG 81 84 rfl ec_84 (Nat.lt_of_lt_of_le (Nat.le_of_ble_eq_true rfl) hn) dX12_standsIn_10 hg_17 (by decide) ?_
      obtain ⟨hg_18, hM⟩ := gd_some hM
      refine gi_i2l hx hb dX12_standsIn_11 hg_18 ?_
      refine lv_ldc2 (v := 3) hx hb S.2.2.2.1 (S.2.2.2.2 _ wm_1964) dX12_standsIn_12 ?_
      refine gj_as 3 (by decide) ?_
      refine lv_ldc2 (v := 6) hx hb S.2.2.2.1 (S.2.2.2.2 _ wm_1965) dX12_standsIn_15 ?_
      refine gj_as 6 (by decide) ?_
      obtain ⟨r_20, hc_19, hM⟩ := bd1_some hM
      refine g_si (As := [.long (jJ (S0 84 (24 + v_1))), .long (jJ 3), .long (jJ 6)]) (rest := []) S hG hsz (vX12_in l hn (S0 84 (24 + v_1)) 3 6 hc_19) wS_12_97 dX12_standsIn_18 rfl hl.1 (ar := 3) (by decide +kernel) rfl (by refine ⟨?_, ?_, ?_, ?_⟩ <;> first | exact Nat.le_of_ble_eq_true rfl | (simp only [gRm]; omega)) (Nat.le_of_ble_eq_true rfl) (fun rv uu H locs hp hG => ?_)
      obtain ⟨rfl, rfl⟩ := hp
      replace hG : gW D cy b n s H locs (enc b cy X S0) := hG
      obtain ⟨hg_21, hM⟩ := gd_some hM
      refine gi_if_eq (tgt := 37) hx hb dX12_standsIn_21 (by decide) hg_21 (fun c_22 => ?_) (fun c_22 => ?_)
      · replace hM := ifp hM c_22
        cases hM
        exact hK_4 H locs ls hG (lv_sub hl [1, 2, 0] rfl)
      · replace hM := ifn hM c_22
        refine lv_aload_n hx hb dX12_standsIn_24 rfl (lv_at hl 1 rfl) ?_
        refine m_get S hG 80 83 0 rfl ec_83 cpX12 wm_1673 dX12_standsIn_25 rfl (Nat.lt_of_lt_of_le (Nat.le_of_ble_eq_true rfl) hn) (by decide) ?_
        refine lv_bipush (v := iI 72) hx hb dX12_standsIn_28 (by decide) ?_
        refine lv_iload_n hx hb dX12_standsIn_30 rfl (lv_at hl 0 rfl) ?_
        refine gi_add hx hb dX12_standsIn_31 ?_
        obtain ⟨hg_23, hM⟩ := gd_some hM
        refine mi_ald S hG 81 84 rfl ec_84 (Nat.lt_of_lt_of_le (Nat.le_of_ble_eq_true rfl) hn) dX12_standsIn_32 hg_23 (by decide) ?_
        refine gi_nm (fun x_24 ex_24 => ?_)
        replace hM := nx_at hM ex_24
        clear ex_24
        refine lv_istore_n (lv' := [(3, .int (iI x_24)), (0, .ref (b + 80)), (2, .int (iI a2))]) hx hb dX12_standsIn_33 rfl hl (by decide) rfl (fun ls hl => ?_)
        refine lv_goto (tgt := 2) hx hb dX12_standsIn_34 (by decide) ?_
        exact ih_15 x_24 H locs ls hM hG (lv_sub hl [0, 1, 2] rfl)
  exact loop_14 FU a1 H locs ls hc_3 hG (lv_sub hl [0, 1, 3] rfl)
def RX12_stands : Nat → Nat → Int → Int → St → Option (Int)
  | 0, _, _, _, _ => none
  | f + 1, t, x1, x2, S0 => if t = 0 then (bX12_stands (RX12_stands f) S0 x1 x2) else (if t = 1 then (bX12_standsIn (RX12_stands f) S0 x1 x2) else (none))
set_option maxHeartbeats 4000000 in
theorem vRX12_stands (l : Launch) {D : va_G} {cy : Nat → ClassId} {b n : Nat} (hn : 102 ≤ n) {X : Nat → va_E} : ∀ f : Nat, (∀ (S0 : St) (a1 : Int) (a2 : Int) (o1 : Int), RX12_stands f 0 a1 a2 S0 = some o1 → gI l yX12_stands cX12_stands 7 (some .int) (2 + f) 0 0 D cy b n (enc b cy X S0) [.ref (b + 80), .int (iI a1), .int (iI a2)] (fun r u => r = iI o1 ∧ u = (n, enc b cy X S0))) ∧ (∀ (S0 : St) (a1 : Int) (a2 : Int) (o1 : Int), RX12_stands f 1 a1 a2 S0 = some o1 → gI l yX12_standsIn cX12_standsIn 4 (some .int) (2 + f) 0 0 D cy b n (enc b cy X S0) [.ref (b + 80), .int (iI a1), .int (iI a2)] (fun r u => r = iI o1 ∧ u = (n, enc b cy X S0))) := by
  intro f
  induction f with
  | zero =>
    refine ⟨?_, ?_⟩
    all_goals
      intros; rename_i hM; rw [RX12_stands] at hM; cases hM
  | succ f ih =>
    obtain ⟨hr0, hr1⟩ := ih
    refine ⟨?_, ?_⟩
    · intro S0 a1 a2 o1 hM
      rw [RX12_stands] at hM
      replace hM := ifp hM rfl
      exact spX12_stands l hn (RX12_stands f) (2 + f) (Nat.le_add_right _ _) hr0 hr1 S0 a1 a2 _ hM
    · intro S0 a1 a2 o1 hM
      rw [RX12_stands] at hM
      replace hM := ifn hM (by decide)
      replace hM := ifp hM rfl
      exact spX12_standsIn l hn (RX12_stands f) (2 + f) (Nat.le_add_right _ _) hr0 hr1 S0 a1 a2 _ hM
def mX12_stands (S0 : St) (a1 : Int) (a2 : Int) : Option (Int) := RX12_stands 24 0 a1 a2 S0
theorem vX12_stands (l : Launch) {D : va_G} {cy : Nat → ClassId} {b n : Nat} (hn : 102 ≤ n) {X : Nat → va_E} {S0 : St} (a1 : Int) (a2 : Int) {o1 : Int} (hM : mX12_stands S0 a1 a2 = some o1) : gI l yX12_stands cX12_stands 7 (some .int) 26 0 0 D cy b n (enc b cy X S0) [.ref (b + 80), .int (iI a1), .int (iI a2)] (fun r u => r = iI o1 ∧ u = (n, enc b cy X S0)) := by
  unfold mX12_stands at hM
  exact (vRX12_stands l hn 24).1 S0 a1 a2 _ hM
def mX12_standsIn (S0 : St) (a1 : Int) (a2 : Int) : Option (Int) := RX12_stands 24 1 a1 a2 S0
theorem vX12_standsIn (l : Launch) {D : va_G} {cy : Nat → ClassId} {b n : Nat} (hn : 102 ≤ n) {X : Nat → va_E} {S0 : St} (a1 : Int) (a2 : Int) {o1 : Int} (hM : mX12_standsIn S0 a1 a2 = some o1) : gI l yX12_standsIn cX12_standsIn 4 (some .int) 26 0 0 D cy b n (enc b cy X S0) [.ref (b + 80), .int (iI a1), .int (iI a2)] (fun r u => r = iI o1 ∧ u = (n, enc b cy X S0)) := by
  unfold mX12_standsIn at hM
  exact (vRX12_stands l hn 24).2 S0 a1 a2 _ hM
def mX12_letters (S0 : St) (a1 : Int) : Option (Int) := bd1 (mX12_isKind S0 a1) fun r_2 => gd (inI r_2) <| if r_2 = 0 then (some ((-2))) else (bd1 (mX12_stands S0 a1 0) fun r_6 => some (r_6))
set_option maxHeartbeats 4000000 in
set_option maxRecDepth 100000 in
theorem vX12_letters (l : Launch) {D : va_G} {cy : Nat → ClassId} {b n : Nat} (hn : 102 ≤ n) {X : Nat → va_E} {S0 : St} (a1 : Int) {o1 : Int} (hM : mX12_letters S0 a1 = some o1) : gI l yX12_letters cX12_letters 2 (some .int) 27 0 0 D cy b n (enc b cy X S0) [.ref (b + 80), .int (iI a1)] (fun r u => r = iI o1 ∧ u = (n, enc b cy X S0)) := by
  refine gI_of (by decide) (Nat.le_of_ble_eq_true rfl) ?_
  intro p e s m args below meth c S hr hlk hin hsz ls hl hG
  have hx := S.1
  have hb := S.2.1
  have hl : lv_has ls 2 [(0, .ref (b + 80)), (1, .int (iI a1))] := hl
  replace hG : gW D cy b n s s.heap [] (enc b cy X S0) := hG
  obtain ⟨H, eH⟩ : ∃ H, H = s.heap := ⟨_, rfl⟩
  obtain ⟨locs, elocs⟩ : ∃ locs : List Loc, locs = [] := ⟨_, rfl⟩
  rw [← eH, ← elocs] at hG
  rw [← eH, ← elocs]
  clear eH elocs
  unfold mX12_letters at hM
  refine lv_aload_n hx hb dX12_letters_0 rfl (lv_at hl 0 rfl) ?_
  refine lv_iload_n hx hb dX12_letters_1 rfl (lv_at hl 1 rfl) ?_
  obtain ⟨r_2, hc_1, hM⟩ := bd1_some hM
  refine g_vi (As := [.int (iI a1)]) (rest := []) S hG hsz (vX12_isKind l hn a1 hc_1) wV_12_225 (ec_83 _) cpX12 (Nat.lt_of_lt_of_le (Nat.le_of_ble_eq_true rfl) hn) dX12_letters_2 rfl hl.1 (ar := 1) (by decide +kernel) rfl ⟨Nat.le_of_ble_eq_true rfl, Nat.le_of_ble_eq_true rfl, Nat.le_of_ble_eq_true rfl, Nat.le_of_ble_eq_true rfl⟩ (Nat.le_of_ble_eq_true rfl) (fun rv uu H locs hp hG => ?_)
  obtain ⟨rfl, rfl⟩ := hp
  replace hG : gW D cy b n s H locs (enc b cy X S0) := hG
  obtain ⟨hg_3, hM⟩ := gd_some hM
  refine gi_if_eq (tgt := 17) hx hb dX12_letters_5 (by decide) hg_3 (fun c_4 => ?_) (fun c_4 => ?_)
  · replace hM := ifp hM c_4
    refine lv_bipush (v := iI (-2)) hx hb dX12_letters_17 (by decide) ?_
    cases hM
    exact g_iret S hr hlk hG hsz dX12_letters_19 ⟨Nat.le_of_ble_eq_true rfl, Nat.le_of_ble_eq_true rfl⟩ ⟨rfl, rfl⟩
  · replace hM := ifn hM c_4
    refine lv_aload_n hx hb dX12_letters_8 rfl (lv_at hl 0 rfl) ?_
    refine lv_iload_n hx hb dX12_letters_9 rfl (lv_at hl 1 rfl) ?_
    refine lv_iconst (v := iI 0) hx hb dX12_letters_10 (by decide) ?_
    obtain ⟨r_6, hc_5, hM⟩ := bd1_some hM
    refine g_vi (As := [.int (iI a1), .int (iI 0)]) (rest := []) S hG hsz (vX12_stands l hn a1 0 hc_5) wV_12_241 (ec_83 _) cpX12 (Nat.lt_of_lt_of_le (Nat.le_of_ble_eq_true rfl) hn) dX12_letters_11 rfl hl.1 (ar := 2) (by decide +kernel) rfl ⟨Nat.le_of_ble_eq_true rfl, Nat.le_of_ble_eq_true rfl, Nat.le_of_ble_eq_true rfl, Nat.le_of_ble_eq_true rfl⟩ (Nat.le_of_ble_eq_true rfl) (fun rv uu H locs hp hG => ?_)
    obtain ⟨rfl, rfl⟩ := hp
    replace hG : gW D cy b n s H locs (enc b cy X S0) := hG
    refine lv_goto (tgt := 19) hx hb dX12_letters_14 (by decide) ?_
    cases hM
    exact g_iret S hr hlk hG hsz dX12_letters_19 ⟨Nat.le_of_ble_eq_true rfl, Nat.le_of_ble_eq_true rfl⟩ ⟨rfl, rfl⟩
def mX12_uses (S0 : St) (a1 : Int) : Option (Int) := bd1 (mX12_isKind S0 a1) fun r_2 => gd (inI r_2) <| if r_2 = 0 then (some ((-2))) else (bd1 (mX12_stands S0 a1 2) fun r_6 => some (r_6))
set_option maxHeartbeats 4000000 in
set_option maxRecDepth 100000 in
theorem vX12_uses (l : Launch) {D : va_G} {cy : Nat → ClassId} {b n : Nat} (hn : 102 ≤ n) {X : Nat → va_E} {S0 : St} (a1 : Int) {o1 : Int} (hM : mX12_uses S0 a1 = some o1) : gI l yX12_uses cX12_uses 2 (some .int) 27 0 0 D cy b n (enc b cy X S0) [.ref (b + 80), .int (iI a1)] (fun r u => r = iI o1 ∧ u = (n, enc b cy X S0)) := by
  refine gI_of (by decide) (Nat.le_of_ble_eq_true rfl) ?_
  intro p e s m args below meth c S hr hlk hin hsz ls hl hG
  have hx := S.1
  have hb := S.2.1
  have hl : lv_has ls 2 [(0, .ref (b + 80)), (1, .int (iI a1))] := hl
  replace hG : gW D cy b n s s.heap [] (enc b cy X S0) := hG
  obtain ⟨H, eH⟩ : ∃ H, H = s.heap := ⟨_, rfl⟩
  obtain ⟨locs, elocs⟩ : ∃ locs : List Loc, locs = [] := ⟨_, rfl⟩
  rw [← eH, ← elocs] at hG
  rw [← eH, ← elocs]
  clear eH elocs
  unfold mX12_uses at hM
  refine lv_aload_n hx hb dX12_uses_0 rfl (lv_at hl 0 rfl) ?_
  refine lv_iload_n hx hb dX12_uses_1 rfl (lv_at hl 1 rfl) ?_
  obtain ⟨r_2, hc_1, hM⟩ := bd1_some hM
  refine g_vi (As := [.int (iI a1)]) (rest := []) S hG hsz (vX12_isKind l hn a1 hc_1) wV_12_225 (ec_83 _) cpX12 (Nat.lt_of_lt_of_le (Nat.le_of_ble_eq_true rfl) hn) dX12_uses_2 rfl hl.1 (ar := 1) (by decide +kernel) rfl ⟨Nat.le_of_ble_eq_true rfl, Nat.le_of_ble_eq_true rfl, Nat.le_of_ble_eq_true rfl, Nat.le_of_ble_eq_true rfl⟩ (Nat.le_of_ble_eq_true rfl) (fun rv uu H locs hp hG => ?_)
  obtain ⟨rfl, rfl⟩ := hp
  replace hG : gW D cy b n s H locs (enc b cy X S0) := hG
  obtain ⟨hg_3, hM⟩ := gd_some hM
  refine gi_if_eq (tgt := 17) hx hb dX12_uses_5 (by decide) hg_3 (fun c_4 => ?_) (fun c_4 => ?_)
  · replace hM := ifp hM c_4
    refine lv_bipush (v := iI (-2)) hx hb dX12_uses_17 (by decide) ?_
    cases hM
    exact g_iret S hr hlk hG hsz dX12_uses_19 ⟨Nat.le_of_ble_eq_true rfl, Nat.le_of_ble_eq_true rfl⟩ ⟨rfl, rfl⟩
  · replace hM := ifn hM c_4
    refine lv_aload_n hx hb dX12_uses_8 rfl (lv_at hl 0 rfl) ?_
    refine lv_iload_n hx hb dX12_uses_9 rfl (lv_at hl 1 rfl) ?_
    refine lv_iconst (v := iI 2) hx hb dX12_uses_10 (by decide) ?_
    obtain ⟨r_6, hc_5, hM⟩ := bd1_some hM
    refine g_vi (As := [.int (iI a1), .int (iI 2)]) (rest := []) S hG hsz (vX12_stands l hn a1 2 hc_5) wV_12_241 (ec_83 _) cpX12 (Nat.lt_of_lt_of_le (Nat.le_of_ble_eq_true rfl) hn) dX12_uses_11 rfl hl.1 (ar := 2) (by decide +kernel) rfl ⟨Nat.le_of_ble_eq_true rfl, Nat.le_of_ble_eq_true rfl, Nat.le_of_ble_eq_true rfl, Nat.le_of_ble_eq_true rfl⟩ (Nat.le_of_ble_eq_true rfl) (fun rv uu H locs hp hG => ?_)
    obtain ⟨rfl, rfl⟩ := hp
    replace hG : gW D cy b n s H locs (enc b cy X S0) := hG
    refine lv_goto (tgt := 19) hx hb dX12_uses_14 (by decide) ?_
    cases hM
    exact g_iret S hr hlk hG hsz dX12_uses_19 ⟨Nat.le_of_ble_eq_true rfl, Nat.le_of_ble_eq_true rfl⟩ ⟨rfl, rfl⟩
def mX12_reaches_29 (S0 : St) (v_7 : Int) : Nat → Int → Int → Option (Int)
  | 0, _, _ => none
  | f + 1, v_17, v_18 => gd ((inI v_17) ∧ (inI (S0 84 0))) <| if (S0 84 0) ≤ v_17 then (some (v_18)) else (bd1 (mX12_has v_18 v_17) fun r_28 => gd (inI r_28) <| if r_28 = 0 then (nx (orr v_18 0) fun x_31 => mX12_reaches_29 S0 v_7 f (v_17 + 1) x_31) else (bd1 (mX12_stands S0 v_17 2) fun r_33 => nx (orr v_18 r_33) fun x_34 => mX12_reaches_29 S0 v_7 f (v_17 + 1) x_34))
def mX12_reaches_20 (S0 : St)  : Nat → Int → Int → Option (Int)
  | 0, _, _ => none
  | f + 1, v_7, v_8 => gd (inI v_7) <| if 6 ≤ v_7 then (some (v_8)) else (bd1 (mX12_reaches_29 S0 v_7 FU 0 v_8) fun y_19 => mX12_reaches_20 S0 f (v_7 + 1) y_19)
def mX12_reaches (S0 : St) (a1 : Int) : Option (Int) := bd1 (mX12_isKind S0 a1) fun r_2 => gd (inI r_2) <| if r_2 = 0 then (some ((-2))) else (bd1 (mX12_stands S0 a1 2) fun r_6 => bd1 (mX12_reaches_20 S0 FU 0 r_6) fun y_9 => some (y_9))
set_option maxHeartbeats 4000000 in
set_option maxRecDepth 100000 in
theorem vX12_reaches (l : Launch) {D : va_G} {cy : Nat → ClassId} {b n : Nat} (hn : 102 ≤ n) {X : Nat → va_E} {S0 : St} (a1 : Int) {o1 : Int} (hM : mX12_reaches S0 a1 = some o1) : gI l yX12_reaches cX12_reaches 5 (some .int) 27 0 0 D cy b n (enc b cy X S0) [.ref (b + 80), .int (iI a1)] (fun r u => r = iI o1 ∧ u = (n, enc b cy X S0)) := by
  refine gI_of (by decide) (Nat.le_of_ble_eq_true rfl) ?_
  intro p e s m args below meth c S hr hlk hin hsz ls hl hG
  have hx := S.1
  have hb := S.2.1
  have hl : lv_has ls 5 [(0, .ref (b + 80)), (1, .int (iI a1))] := hl
  replace hG : gW D cy b n s s.heap [] (enc b cy X S0) := hG
  obtain ⟨H, eH⟩ : ∃ H, H = s.heap := ⟨_, rfl⟩
  obtain ⟨locs, elocs⟩ : ∃ locs : List Loc, locs = [] := ⟨_, rfl⟩
  rw [← eH, ← elocs] at hG
  rw [← eH, ← elocs]
  clear eH elocs
  unfold mX12_reaches at hM
  refine lv_aload_n hx hb dX12_reaches_0 rfl (lv_at hl 0 rfl) ?_
  refine lv_iload_n hx hb dX12_reaches_1 rfl (lv_at hl 1 rfl) ?_
  obtain ⟨r_2, hc_1, hM⟩ := bd1_some hM
  refine g_vi (As := [.int (iI a1)]) (rest := []) S hG hsz (vX12_isKind l hn a1 hc_1) wV_12_225 (ec_83 _) cpX12 (Nat.lt_of_lt_of_le (Nat.le_of_ble_eq_true rfl) hn) dX12_reaches_2 rfl hl.1 (ar := 1) (by decide +kernel) rfl ⟨Nat.le_of_ble_eq_true rfl, Nat.le_of_ble_eq_true rfl, Nat.le_of_ble_eq_true rfl, Nat.le_of_ble_eq_true rfl⟩ (Nat.le_of_ble_eq_true rfl) (fun rv uu H locs hp hG => ?_)
  obtain ⟨rfl, rfl⟩ := hp
  replace hG : gW D cy b n s H locs (enc b cy X S0) := hG
  obtain ⟨hg_3, hM⟩ := gd_some hM
  refine gi_if_ne (tgt := 11) hx hb dX12_reaches_5 (by decide) hg_3 (fun c_4 => ?_) (fun c_4 => ?_)
  · replace hM := ifn hM c_4
    refine lv_aload_n hx hb dX12_reaches_11 rfl (lv_at hl 0 rfl) ?_
    refine lv_iload_n hx hb dX12_reaches_12 rfl (lv_at hl 1 rfl) ?_
    refine lv_iconst (v := iI 2) hx hb dX12_reaches_13 (by decide) ?_
    obtain ⟨r_6, hc_5, hM⟩ := bd1_some hM
    refine g_vi (As := [.int (iI a1), .int (iI 2)]) (rest := []) S hG hsz (vX12_stands l hn a1 2 hc_5) wV_12_241 (ec_83 _) cpX12 (Nat.lt_of_lt_of_le (Nat.le_of_ble_eq_true rfl) hn) dX12_reaches_14 rfl hl.1 (ar := 2) (by decide +kernel) rfl ⟨Nat.le_of_ble_eq_true rfl, Nat.le_of_ble_eq_true rfl, Nat.le_of_ble_eq_true rfl, Nat.le_of_ble_eq_true rfl⟩ (Nat.le_of_ble_eq_true rfl) (fun rv uu H locs hp hG => ?_)
    obtain ⟨rfl, rfl⟩ := hp
    replace hG : gW D cy b n s H locs (enc b cy X S0) := hG
    refine lv_istore_n (lv' := [(2, .int (iI r_6)), (0, .ref (b + 80)), (1, .int (iI a1))]) hx hb dX12_reaches_17 rfl hl (by decide) rfl (fun ls hl => ?_)
    refine lv_iconst (v := iI 0) hx hb dX12_reaches_18 (by decide) ?_
    refine lv_istore_n (lv' := [(3, .int (iI 0)), (2, .int (iI r_6)), (0, .ref (b + 80)), (1, .int (iI a1))]) hx hb dX12_reaches_19 rfl hl (by decide) rfl (fun ls hl => ?_)
    obtain ⟨y_9, hc_10, hM⟩ := bd1_some hM
    have hK_11 : ∀ (H : Heap) (locs : List Loc) (ls : Array Slot), gW D cy b n s H locs (enc b cy X S0) → lv_has ls 5 [(2, .int (iI y_9))] → W p l e (gRm 27 0 0) s m args below meth c H locs 0 0 (gQI D cy b s args below 0 0 (fun r u => r = iI o1 ∧ u = (n, enc b cy X S0))) (F0 m 75 ls []) := by
      intro H locs ls hG hl
      refine lv_iload_n hx hb dX12_reaches_75 rfl (lv_at hl 0 rfl) ?_
      cases hM
      exact g_iret S hr hlk hG hsz dX12_reaches_76 ⟨Nat.le_of_ble_eq_true rfl, Nat.le_of_ble_eq_true rfl⟩ ⟨rfl, rfl⟩
    have loop_12 : ∀ (f : Nat) (v_7 : Int) (v_8 : Int) (H : Heap) (locs : List Loc) (ls : Array Slot), mX12_reaches_20 S0 f v_7 v_8 = some y_9 → gW D cy b n s H locs (enc b cy X S0) → lv_has ls 5 [(3, .int (iI v_7)), (2, .int (iI v_8)), (0, .ref (b + 80))] → W p l e (gRm 27 0 0) s m args below meth c H locs 0 0 (gQI D cy b s args below 0 0 (fun r u => r = iI o1 ∧ u = (n, enc b cy X S0))) (F0 m 20 ls []) := by
      clear hM
      intro f
      induction f with
      | zero => intro v_7 v_8 H locs ls hM; rw [mX12_reaches_20] at hM; cases hM
      | succ f_14 ih_13 =>
        intro v_7 v_8 H locs ls hM hG hl
        rw [mX12_reaches_20] at hM
        refine lv_iload_n hx hb dX12_reaches_20 rfl (lv_at hl 0 rfl) ?_
        refine lv_bipush (v := iI 6) hx hb dX12_reaches_21 (by decide) ?_
        obtain ⟨hg_15, hM⟩ := gd_some hM
        refine gi_icmp_ge (tgt := 75) hx hb dX12_reaches_23 (by decide) hg_15 (by decide) (fun c_16 => ?_) (fun c_16 => ?_)
        · replace hM := ifp hM c_16
          cases hM
          exact hK_11 H locs ls hG (lv_sub hl [1] rfl)
        · replace hM := ifn hM c_16
          refine lv_iconst (v := iI 0) hx hb dX12_reaches_26 (by decide) ?_
          refine lv_istore (lv' := [(4, .int (iI 0)), (3, .int (iI v_7)), (2, .int (iI v_8)), (0, .ref (b + 80))]) hx hb dX12_reaches_27 hl (by decide) rfl (fun ls hl => ?_)
          obtain ⟨y_19, hc_20, hM⟩ := bd1_some hM
          have hK_21 : ∀ (H : Heap) (locs : List Loc) (ls : Array Slot), gW D cy b n s H locs (enc b cy X S0) → lv_has ls 5 [(3, .int (iI v_7)), (0, .ref (b + 80)), (2, .int (iI y_19))] → W p l e (gRm 27 0 0) s m args below meth c H locs 0 0 (gQI D cy b s args below 0 0 (fun r u => r = iI o1 ∧ u = (n, enc b cy X S0))) (F0 m 69 ls []) := by
            intro H locs ls hG hl
            refine lv_iinc (v := iI (v_7 + 1)) (lv' := [(3, .int (iI (v_7 + 1))), (0, .ref (b + 80)), (2, .int (iI y_19))]) hx hb dX12_reaches_69 hl (k := 0) rfl ((iI_add v_7 (1)).trans (congrArg iI (by omega))) (by decide) rfl (fun ls hl => ?_)
            refine lv_goto (tgt := 20) hx hb dX12_reaches_72 (by decide) ?_
            exact ih_13 (v_7 + 1) y_19 H locs ls hM hG (lv_sub hl [0, 2, 1] rfl)
          have loop_22 : ∀ (f : Nat) (v_17 : Int) (v_18 : Int) (H : Heap) (locs : List Loc) (ls : Array Slot), mX12_reaches_29 S0 v_7 f v_17 v_18 = some y_19 → gW D cy b n s H locs (enc b cy X S0) → lv_has ls 5 [(4, .int (iI v_17)), (3, .int (iI v_7)), (2, .int (iI v_18)), (0, .ref (b + 80))] → W p l e (gRm 27 0 0) s m args below meth c H locs 0 0 (gQI D cy b s args below 0 0 (fun r u => r = iI o1 ∧ u = (n, enc b cy X S0))) (F0 m 29 ls []) := by
            clear hM
            intro f
            induction f with
            | zero => intro v_17 v_18 H locs ls hM; rw [mX12_reaches_29] at hM; cases hM
            | succ f_24 ih_23 =>
              intro v_17 v_18 H locs ls hM hG hl
              rw [mX12_reaches_29] at hM
              refine lv_iload hx hb dX12_reaches_29 (lv_at hl 0 rfl) ?_
              refine lv_aload_n hx hb dX12_reaches_31 rfl (lv_at hl 3 rfl) ?_
              refine m_get S hG 80 83 0 rfl ec_83 cpX12 wm_1673 dX12_reaches_32 rfl (Nat.lt_of_lt_of_le (Nat.le_of_ble_eq_true rfl) hn) (by decide) ?_
              refine lv_iconst (v := iI 0) hx hb dX12_reaches_35 (by decide) ?_
              refine mi_ald S hG 81 84 rfl ec_84 (Nat.lt_of_lt_of_le (Nat.le_of_ble_eq_true rfl) hn) dX12_reaches_36 (by decide) (by decide) ?_
              obtain ⟨hg_25, hM⟩ := gd_some hM
              refine gi_icmp_ge (tgt := 69) hx hb dX12_reaches_37 (by decide) hg_25.1 hg_25.2 (fun c_26 => ?_) (fun c_26 => ?_)
              · replace hM := ifp hM c_26
                cases hM
                exact hK_21 H locs ls hG (lv_sub hl [1, 3, 2] rfl)
              · replace hM := ifn hM c_26
                refine lv_iload_n hx hb dX12_reaches_40 rfl (lv_at hl 2 rfl) ?_
                refine lv_iload_n hx hb dX12_reaches_41 rfl (lv_at hl 2 rfl) ?_
                refine lv_iload hx hb dX12_reaches_42 (lv_at hl 0 rfl) ?_
                obtain ⟨r_28, hc_27, hM⟩ := bd1_some hM
                refine g_si (As := [.int (iI v_18), .int (iI v_17)]) (rest := [.int (iI v_18)]) S hG hsz (vX12_has l hn v_18 v_17 hc_27) wS_12_228 dX12_reaches_44 rfl hl.1 (ar := 2) (by decide +kernel) rfl ⟨Nat.le_of_ble_eq_true rfl, Nat.le_of_ble_eq_true rfl, Nat.le_of_ble_eq_true rfl, Nat.le_of_ble_eq_true rfl⟩ (Nat.le_of_ble_eq_true rfl) (fun rv uu H locs hp hG => ?_)
                obtain ⟨rfl, rfl⟩ := hp
                replace hG : gW D cy b n s H locs (enc b cy X S0) := hG
                obtain ⟨hg_29, hM⟩ := gd_some hM
                refine gi_if_eq (tgt := 60) hx hb dX12_reaches_47 (by decide) hg_29 (fun c_30 => ?_) (fun c_30 => ?_)
                · replace hM := ifp hM c_30
                  refine lv_iconst (v := iI 0) hx hb dX12_reaches_60 (by decide) ?_
                  refine gi_or hx hb dX12_reaches_61 ?_
                  refine gi_nm (fun x_31 ex_31 => ?_)
                  replace hM := nx_at hM ex_31
                  clear ex_31
                  refine lv_istore_n (lv' := [(2, .int (iI x_31)), (4, .int (iI v_17)), (3, .int (iI v_7)), (0, .ref (b + 80))]) hx hb dX12_reaches_62 rfl hl (by decide) rfl (fun ls hl => ?_)
                  refine lv_iinc (v := iI (v_17 + 1)) (lv' := [(4, .int (iI (v_17 + 1))), (2, .int (iI x_31)), (3, .int (iI v_7)), (0, .ref (b + 80))]) hx hb dX12_reaches_63 hl (k := 1) rfl ((iI_add v_17 (1)).trans (congrArg iI (by omega))) (by decide) rfl (fun ls hl => ?_)
                  refine lv_goto (tgt := 29) hx hb dX12_reaches_66 (by decide) ?_
                  exact ih_23 (v_17 + 1) x_31 H locs ls hM hG (lv_sub hl [0, 2, 1, 3] rfl)
                · replace hM := ifn hM c_30
                  refine lv_aload_n hx hb dX12_reaches_50 rfl (lv_at hl 3 rfl) ?_
                  refine lv_iload hx hb dX12_reaches_51 (lv_at hl 0 rfl) ?_
                  refine lv_iconst (v := iI 2) hx hb dX12_reaches_53 (by decide) ?_
                  obtain ⟨r_33, hc_32, hM⟩ := bd1_some hM
                  refine g_vi (As := [.int (iI v_17), .int (iI 2)]) (rest := [.int (iI v_18)]) S hG hsz (vX12_stands l hn v_17 2 hc_32) wV_12_241 (ec_83 _) cpX12 (Nat.lt_of_lt_of_le (Nat.le_of_ble_eq_true rfl) hn) dX12_reaches_54 rfl hl.1 (ar := 2) (by decide +kernel) rfl ⟨Nat.le_of_ble_eq_true rfl, Nat.le_of_ble_eq_true rfl, Nat.le_of_ble_eq_true rfl, Nat.le_of_ble_eq_true rfl⟩ (Nat.le_of_ble_eq_true rfl) (fun rv uu H locs hp hG => ?_)
                  obtain ⟨rfl, rfl⟩ := hp
                  replace hG : gW D cy b n s H locs (enc b cy X S0) := hG
                  refine lv_goto (tgt := 61) hx hb dX12_reaches_57 (by decide) ?_
                  refine gi_or hx hb dX12_reaches_61 ?_
                  refine gi_nm (fun x_34 ex_34 => ?_)
                  replace hM := nx_at hM ex_34
                  clear ex_34
                  refine lv_istore_n (lv' := [(2, .int (iI x_34)), (4, .int (iI v_17)), (3, .int (iI v_7)), (0, .ref (b + 80))]) hx hb dX12_reaches_62 rfl hl (by decide) rfl (fun ls hl => ?_)
                  refine lv_iinc (v := iI (v_17 + 1)) (lv' := [(4, .int (iI (v_17 + 1))), (2, .int (iI x_34)), (3, .int (iI v_7)), (0, .ref (b + 80))]) hx hb dX12_reaches_63 hl (k := 1) rfl ((iI_add v_17 (1)).trans (congrArg iI (by omega))) (by decide) rfl (fun ls hl => ?_)
                  refine lv_goto (tgt := 29) hx hb dX12_reaches_66 (by decide) ?_
                  exact ih_23 (v_17 + 1) x_34 H locs ls hM hG (lv_sub hl [0, 2, 1, 3] rfl)
          exact loop_22 FU 0 v_8 H locs ls hc_20 hG (lv_sub hl [0, 1, 2, 3] rfl)
    exact loop_12 FU 0 r_6 H locs ls hc_10 hG (lv_sub hl [0, 1, 2] rfl)
  · replace hM := ifp hM c_4
    refine lv_bipush (v := iI (-2)) hx hb dX12_reaches_8 (by decide) ?_
    cases hM
    exact g_iret S hr hlk hG hsz dX12_reaches_10 ⟨Nat.le_of_ble_eq_true rfl, Nat.le_of_ble_eq_true rfl⟩ ⟨rfl, rfl⟩
theorem wV_12_256 : gWV "GrownKindsModel" 256 yX12_leansOf cX12_leansOf 6 (some .int) := ⟨wm_1956, wm_1958, wm_110, wm_188, wm_1959, by decide +kernel, by decide +kernel⟩
theorem wV_12_253 : gWV "GrownKindsModel" 253 yX12_leansIn cX12_leansIn 3 (some .int) := ⟨wm_1960, wm_1962, wm_111, wm_188, wm_1963, by decide +kernel, by decide +kernel⟩
def mX12_leansIn_2 (rec : Nat → Int → St → Option (Int)) (S0 : St)  : Nat → Int → Option (Int × Int)
  | 0, _ => none
  | f + 1, v_1 => gd (0 ≤ (24 + v_1) ∧ (24 + v_1) < 228) <| gd (inI (S0 84 (24 + v_1))) <| bd1 (mX12_in (S0 84 (24 + v_1)) 3 6) fun r_21 => gd (inI r_21) <| if r_21 = 0 then (some (1, v_1)) else (gd (0 ≤ (48 + v_1) ∧ (48 + v_1) < 228) <| gd (inI (S0 84 (48 + v_1))) <| if (S0 84 (48 + v_1)) ≤ 1 then (gd (0 ≤ (72 + v_1) ∧ (72 + v_1) < 228) <| nx (S0 84 (72 + v_1)) fun x_28 => mX12_leansIn_2 rec S0 f x_28) else (some (0, v_1)))
def bX12_leansIn (rec : Nat → Int → St → Option (Int)) (S0 : St) (a1 : Int) : Option (Int) := bd2 (mX12_leansIn_2 rec S0 FU a1) fun t_2 y_3 => if t_2 = 0 then (some (0)) else (gd (0 ≤ (24 + y_3) ∧ (24 + y_3) < 228) <| gd (inI (S0 84 (24 + y_3))) <| if (S0 84 (24 + y_3)) = 2 then (gd (0 ≤ (48 + y_3) ∧ (48 + y_3) < 228) <| some ((shl 1 (S0 84 (48 + y_3))))) else (if (S0 84 (24 + y_3)) = 7 then (gd (0 ≤ (48 + y_3) ∧ (48 + y_3) < 228) <| bd1 (rec 1 (S0 84 (48 + y_3)) S0) fun r_13 => some (r_13)) else (some (0))))
set_option maxHeartbeats 4000000 in
set_option maxRecDepth 100000 in
theorem spX12_leansIn (l : Launch) {D : va_G} {cy : Nat → ClassId} {b n : Nat} (hn : 102 ≤ n) {X : Nat → va_E} (rec : Nat → Int → St → Option (Int)) (d : Nat) (hd : 2 ≤ d) (hr0 : ∀ (S0 : St) (a1 : Int) (o1 : Int), rec 0 a1 S0 = some o1 → gI l yX12_leansIn cX12_leansIn 3 (some .int) d 0 0 D cy b n (enc b cy X S0) [.ref (b + 80), .int (iI a1)] (fun r u => r = iI o1 ∧ u = (n, enc b cy X S0))) (hr1 : ∀ (S0 : St) (a1 : Int) (o1 : Int), rec 1 a1 S0 = some o1 → gI l yX12_leansOf cX12_leansOf 6 (some .int) d 0 0 D cy b n (enc b cy X S0) [.ref (b + 80), .int (iI a1)] (fun r u => r = iI o1 ∧ u = (n, enc b cy X S0))) (S0 : St) (a1 : Int) (o1 : Int) (hM : bX12_leansIn rec S0 a1 = some o1) : gI l yX12_leansIn cX12_leansIn 3 (some .int) (d + 1) 0 0 D cy b n (enc b cy X S0) [.ref (b + 80), .int (iI a1)] (fun r u => r = iI o1 ∧ u = (n, enc b cy X S0)) := by
  refine gI_of (by decide) (Nat.le_of_ble_eq_true rfl) ?_
  intro p e s m args below meth c S hr hlk hin hsz ls hl hG
  have hx := S.1
  have hb := S.2.1
  have hl : lv_has ls 3 [(0, .ref (b + 80)), (1, .int (iI a1))] := hl
  replace hG : gW D cy b n s s.heap [] (enc b cy X S0) := hG
  obtain ⟨H, eH⟩ : ∃ H, H = s.heap := ⟨_, rfl⟩
  obtain ⟨locs, elocs⟩ : ∃ locs : List Loc, locs = [] := ⟨_, rfl⟩
  rw [← eH, ← elocs] at hG
  rw [← eH, ← elocs]
  clear eH elocs
  unfold bX12_leansIn at hM
  refine lv_iload_n hx hb dX12_leansIn_0 rfl (lv_at hl 1 rfl) ?_
  refine lv_istore_n (lv' := [(2, .int (iI a1)), (0, .ref (b + 80)), (1, .int (iI a1))]) hx hb dX12_leansIn_1 rfl hl (by decide) rfl (fun ls hl => ?_)
  obtain ⟨t_2, y_3, hc_4, hM⟩ := bd2_some hM
  have hK_5 : ∀ (H : Heap) (locs : List Loc) (ls : Array Slot), t_2 = 0 → gW D cy b n s H locs (enc b cy X S0) → lv_has ls 3 [] → W p l e (gRm (d + 1) 0 0) s m args below meth c H locs 0 0 (gQI D cy b s args below 0 0 (fun r u => r = iI o1 ∧ u = (n, enc b cy X S0))) (F0 m 37 ls []) := by
    intro H locs ls ht hG hl
    subst ht
    replace hM := ifp hM rfl
    refine lv_iconst (v := iI 0) hx hb dX12_leansIn_37 (by decide) ?_
    cases hM
    exact g_iret S hr hlk hG hsz dX12_leansIn_38 ⟨Nat.le_of_ble_eq_true rfl, Nat.le_of_ble_eq_true rfl⟩ ⟨rfl, rfl⟩
  have hK_6 : ∀ (H : Heap) (locs : List Loc) (ls : Array Slot), t_2 = 1 → gW D cy b n s H locs (enc b cy X S0) → lv_has ls 3 [(0, .ref (b + 80)), (2, .int (iI y_3))] → W p l e (gRm (d + 1) 0 0) s m args below meth c H locs 0 0 (gQI D cy b s args below 0 0 (fun r u => r = iI o1 ∧ u = (n, enc b cy X S0))) (F0 m 52 ls []) := by
    intro H locs ls ht hG hl
    subst ht
    replace hM := ifn hM (by decide)
    refine lv_aload_n hx hb dX12_leansIn_52 rfl (lv_at hl 0 rfl) ?_
    refine m_get S hG 80 83 0 rfl ec_83 cpX12 wm_1673 dX12_leansIn_53 rfl (Nat.lt_of_lt_of_le (Nat.le_of_ble_eq_true rfl) hn) (by decide) ?_
    refine lv_bipush (v := iI 24) hx hb dX12_leansIn_56 (by decide) ?_
    refine lv_iload_n hx hb dX12_leansIn_58 rfl (lv_at hl 1 rfl) ?_
    refine gi_add hx hb dX12_leansIn_59 ?_
    obtain ⟨hg_7, hM⟩ := gd_some hM
    refine mi_ald S hG 81 84 rfl ec_84 (Nat.lt_of_lt_of_le (Nat.le_of_ble_eq_true rfl) hn) dX12_leansIn_60 hg_7 (by decide) ?_
    refine lv_iconst (v := iI 2) hx hb dX12_leansIn_61 (by decide) ?_
    obtain ⟨hg_8, hM⟩ := gd_some hM
    refine gi_icmp_ne (tgt := 79) hx hb dX12_leansIn_62 (by decide) hg_8 (by decide) (fun c_9 => ?_) (fun c_9 => ?_)
    · replace hM := ifn hM c_9
      refine lv_aload_n hx hb dX12_leansIn_79 rfl (lv_at hl 0 rfl) ?_
      refine m_get S hG 80 83 0 rfl ec_83 cpX12 wm_1673 dX12_leansIn_80 rfl (Nat.lt_of_lt_of_le (Nat.le_of_ble_eq_true rfl) hn) (by decide) ?_
      refine lv_bipush (v := iI 24) hx hb dX12_leansIn_83 (by decide) ?_
      refine lv_iload_n hx hb dX12_leansIn_85 rfl (lv_at hl 1 rfl) ?_
      refine gi_add hx hb dX12_leansIn_86 ?_
      refine mi_ald S hG 81 84 rfl ec_84 (Nat.lt_of_lt_of_le (Nat.le_of_ble_eq_true rfl) hn) dX12_leansIn_87 hg_7 (by decide) ?_
      refine lv_bipush (v := iI 7) hx hb dX12_leansIn_88 (by decide) ?_
      refine gi_icmp_ne (tgt := 109) hx hb dX12_leansIn_90 (by decide) hg_8 (by decide) (fun c_10 => ?_) (fun c_10 => ?_)
      · replace hM := ifn hM c_10
        refine lv_iconst (v := iI 0) hx hb dX12_leansIn_109 (by decide) ?_
        cases hM
        exact g_iret S hr hlk hG hsz dX12_leansIn_110 ⟨Nat.le_of_ble_eq_true rfl, Nat.le_of_ble_eq_true rfl⟩ ⟨rfl, rfl⟩
      · replace hM := ifp hM c_10
        refine lv_aload_n hx hb dX12_leansIn_93 rfl (lv_at hl 0 rfl) ?_
        refine lv_aload_n hx hb dX12_leansIn_94 rfl (lv_at hl 0 rfl) ?_
        refine m_get S hG 80 83 0 rfl ec_83 cpX12 wm_1673 dX12_leansIn_95 rfl (Nat.lt_of_lt_of_le (Nat.le_of_ble_eq_true rfl) hn) (by decide) ?_
        refine lv_bipush (v := iI 48) hx hb dX12_leansIn_98 (by decide) ?_
        refine lv_iload_n hx hb dX12_leansIn_100 rfl (lv_at hl 1 rfl) ?_
        refine gi_add hx hb dX12_leansIn_101 ?_
        obtain ⟨hg_11, hM⟩ := gd_some hM
        refine mi_ald S hG 81 84 rfl ec_84 (Nat.lt_of_lt_of_le (Nat.le_of_ble_eq_true rfl) hn) dX12_leansIn_102 hg_11 (by decide) ?_
        obtain ⟨r_13, hc_12, hM⟩ := bd1_some hM
        refine g_vi (As := [.int (iI (S0 84 (48 + y_3)))]) (rest := []) S hG hsz (hr1 _ (S0 84 (48 + y_3)) _ hc_12) wV_12_256 (ec_83 _) cpX12 (Nat.lt_of_lt_of_le (Nat.le_of_ble_eq_true rfl) hn) dX12_leansIn_103 rfl hl.1 (ar := 1) (by decide +kernel) rfl (by refine ⟨?_, ?_, ?_, ?_⟩ <;> first | exact Nat.le_of_ble_eq_true rfl | (simp only [gRm]; omega)) (Nat.le_of_ble_eq_true rfl) (fun rv uu H locs hp hG => ?_)
        obtain ⟨rfl, rfl⟩ := hp
        replace hG : gW D cy b n s H locs (enc b cy X S0) := hG
        refine lv_goto (tgt := 110) hx hb dX12_leansIn_106 (by decide) ?_
        cases hM
        exact g_iret S hr hlk hG hsz dX12_leansIn_110 ⟨Nat.le_of_ble_eq_true rfl, Nat.le_of_ble_eq_true rfl⟩ ⟨rfl, rfl⟩
    · replace hM := ifp hM c_9
      refine lv_iconst (v := iI 1) hx hb dX12_leansIn_65 (by decide) ?_
      refine lv_aload_n hx hb dX12_leansIn_66 rfl (lv_at hl 0 rfl) ?_
      refine m_get S hG 80 83 0 rfl ec_83 cpX12 wm_1673 dX12_leansIn_67 rfl (Nat.lt_of_lt_of_le (Nat.le_of_ble_eq_true rfl) hn) (by decide) ?_
      refine lv_bipush (v := iI 48) hx hb dX12_leansIn_70 (by decide) ?_
      refine lv_iload_n hx hb dX12_leansIn_72 rfl (lv_at hl 1 rfl) ?_
      refine gi_add hx hb dX12_leansIn_73 ?_
      obtain ⟨hg_14, hM⟩ := gd_some hM
      refine mi_ald S hG 81 84 rfl ec_84 (Nat.lt_of_lt_of_le (Nat.le_of_ble_eq_true rfl) hn) dX12_leansIn_74 hg_14 (by decide) ?_
      refine gi_shl hx hb dX12_leansIn_75 ?_
      refine lv_goto (tgt := 110) hx hb dX12_leansIn_76 (by decide) ?_
      cases hM
      exact g_iret S hr hlk hG hsz dX12_leansIn_110 ⟨Nat.le_of_ble_eq_true rfl, Nat.le_of_ble_eq_true rfl⟩ ⟨rfl, rfl⟩
  have loop_15 : ∀ (f : Nat) (v_1 : Int) (H : Heap) (locs : List Loc) (ls : Array Slot), mX12_leansIn_2 rec S0 f v_1 = some (t_2, y_3) → gW D cy b n s H locs (enc b cy X S0) → lv_has ls 3 [(2, .int (iI v_1)), (0, .ref (b + 80))] → W p l e (gRm (d + 1) 0 0) s m args below meth c H locs 0 0 (gQI D cy b s args below 0 0 (fun r u => r = iI o1 ∧ u = (n, enc b cy X S0))) (F0 m 2 ls []) := by
    clear hM
    intro f
    induction f with
    | zero => intro v_1 H locs ls hM; rw [mX12_leansIn_2] at hM; cases hM
    | succ f_17 ih_16 =>
      intro v_1 H locs ls hM hG hl
      rw [mX12_leansIn_2] at hM
      refine lv_aload_n hx hb dX12_leansIn_2 rfl (lv_at hl 1 rfl) ?_
      refine m_get S hG 80 83 0 rfl ec_83 cpX12 wm_1673 dX12_leansIn_3 rfl (Nat.lt_of_lt_of_le (Nat.le_of_ble_eq_true rfl) hn) (by decide) ?_
      refine lv_bipush (v := iI 24) hx hb dX12_leansIn_6 (by decide) ?_
      refine lv_iload_n hx hb dX12_leansIn_8 rfl (lv_at hl 0 rfl) ?_
      refine gi_add hx hb dX12_leansIn_9 ?_
      obtain ⟨hg_18, hM⟩ := gd_some hM
      refine mi_ald S hG 81 84 rfl ec_84 (Nat.lt_of_lt_of_le (Nat.le_of_ble_eq_true rfl) hn) dX12_leansIn_10 hg_18 (by decide) ?_
      obtain ⟨hg_19, hM⟩ := gd_some hM
      refine gi_i2l hx hb dX12_leansIn_11 hg_19 ?_
      refine lv_ldc2 (v := 3) hx hb S.2.2.2.1 (S.2.2.2.2 _ wm_1964) dX12_leansIn_12 ?_
      refine gj_as 3 (by decide) ?_
      refine lv_ldc2 (v := 6) hx hb S.2.2.2.1 (S.2.2.2.2 _ wm_1965) dX12_leansIn_15 ?_
      refine gj_as 6 (by decide) ?_
      obtain ⟨r_21, hc_20, hM⟩ := bd1_some hM
      refine g_si (As := [.long (jJ (S0 84 (24 + v_1))), .long (jJ 3), .long (jJ 6)]) (rest := []) S hG hsz (vX12_in l hn (S0 84 (24 + v_1)) 3 6 hc_20) wS_12_97 dX12_leansIn_18 rfl hl.1 (ar := 3) (by decide +kernel) rfl (by refine ⟨?_, ?_, ?_, ?_⟩ <;> first | exact Nat.le_of_ble_eq_true rfl | (simp only [gRm]; omega)) (Nat.le_of_ble_eq_true rfl) (fun rv uu H locs hp hG => ?_)
      obtain ⟨rfl, rfl⟩ := hp
      replace hG : gW D cy b n s H locs (enc b cy X S0) := hG
      obtain ⟨hg_22, hM⟩ := gd_some hM
      refine gi_if_eq (tgt := 52) hx hb dX12_leansIn_21 (by decide) hg_22 (fun c_23 => ?_) (fun c_23 => ?_)
      · replace hM := ifp hM c_23
        cases hM
        exact hK_6 H locs ls rfl hG (lv_sub hl [1, 0] rfl)
      · replace hM := ifn hM c_23
        refine lv_aload_n hx hb dX12_leansIn_24 rfl (lv_at hl 1 rfl) ?_
        refine m_get S hG 80 83 0 rfl ec_83 cpX12 wm_1673 dX12_leansIn_25 rfl (Nat.lt_of_lt_of_le (Nat.le_of_ble_eq_true rfl) hn) (by decide) ?_
        refine lv_bipush (v := iI 48) hx hb dX12_leansIn_28 (by decide) ?_
        refine lv_iload_n hx hb dX12_leansIn_30 rfl (lv_at hl 0 rfl) ?_
        refine gi_add hx hb dX12_leansIn_31 ?_
        obtain ⟨hg_24, hM⟩ := gd_some hM
        refine mi_ald S hG 81 84 rfl ec_84 (Nat.lt_of_lt_of_le (Nat.le_of_ble_eq_true rfl) hn) dX12_leansIn_32 hg_24 (by decide) ?_
        refine lv_iconst (v := iI 1) hx hb dX12_leansIn_33 (by decide) ?_
        obtain ⟨hg_25, hM⟩ := gd_some hM
        refine gi_icmp_le (tgt := 39) hx hb dX12_leansIn_34 (by decide) hg_25 (by decide) (fun c_26 => ?_) (fun c_26 => ?_)
        · replace hM := ifp hM c_26
          refine lv_aload_n hx hb dX12_leansIn_39 rfl (lv_at hl 1 rfl) ?_
          refine m_get S hG 80 83 0 rfl ec_83 cpX12 wm_1673 dX12_leansIn_40 rfl (Nat.lt_of_lt_of_le (Nat.le_of_ble_eq_true rfl) hn) (by decide) ?_
          refine lv_bipush (v := iI 72) hx hb dX12_leansIn_43 (by decide) ?_
          refine lv_iload_n hx hb dX12_leansIn_45 rfl (lv_at hl 0 rfl) ?_
          refine gi_add hx hb dX12_leansIn_46 ?_
          obtain ⟨hg_27, hM⟩ := gd_some hM
          refine mi_ald S hG 81 84 rfl ec_84 (Nat.lt_of_lt_of_le (Nat.le_of_ble_eq_true rfl) hn) dX12_leansIn_47 hg_27 (by decide) ?_
          refine gi_nm (fun x_28 ex_28 => ?_)
          replace hM := nx_at hM ex_28
          clear ex_28
          refine lv_istore_n (lv' := [(2, .int (iI x_28)), (0, .ref (b + 80))]) hx hb dX12_leansIn_48 rfl hl (by decide) rfl (fun ls hl => ?_)
          refine lv_goto (tgt := 2) hx hb dX12_leansIn_49 (by decide) ?_
          exact ih_16 x_28 H locs ls hM hG (lv_sub hl [0, 1] rfl)
        · replace hM := ifn hM c_26
          cases hM
          exact hK_5 H locs ls rfl hG (lv_sub hl [] rfl)
  exact loop_15 FU a1 H locs ls hc_4 hG (lv_sub hl [0, 1] rfl)
def mX12_leansOf_46 (rec : Nat → Int → St → Option (Int)) (S0 : St) (v_3 : Int) (v_4 : Int) (a1 : Int) : Nat → Int → Int → Option (Int)
  | 0, _, _ => none
  | f + 1, v_19, v_20 => gd (inI v_19) <| if v_19 < 0 then (some (v_20)) else (bd1 (mX12_isEmptyTerm S0 v_3 v_19) fun r_32 => bd1 (gd (inI r_32) <| if r_32 = 0 then (some (0)) else (bd1 (rec 0 v_19 S0) fun r_42 => some (r_42))) fun z_33 => nx (orr v_20 z_33) fun x_36 => gd (0 ≤ (96 + v_19) ∧ (96 + v_19) < 228) <| nx (S0 84 (96 + v_19)) fun x_38 => mX12_leansOf_46 rec S0 v_3 v_4 a1 f x_38 x_36)
def mX12_leansOf_16 (rec : Nat → Int → St → Option (Int)) (S0 : St) (a1 : Int) : Nat → Int → Int → Int → Option (Int)
  | 0, _, _, _ => none
  | f + 1, v_3, v_4, v_5 => gd (inI v_3) <| if v_3 < 0 then (some (v_5)) else (bd1 (mX12_isOff S0 a1 v_4) fun r_15 => bd1 (gd (inI r_15) <| if r_15 = 0 then (gd (0 ≤ (120 + v_3) ∧ (120 + v_3) < 228) <| some ((S0 84 (120 + v_3)))) else (some ((-1)))) fun z_16 => bd1 (mX12_leansOf_46 rec S0 v_3 v_4 a1 FU z_16 v_5) fun y_21 => gd (0 ≤ (144 + v_3) ∧ (144 + v_3) < 228) <| nx (S0 84 (144 + v_3)) fun x_25 => mX12_leansOf_16 rec S0 a1 f x_25 (v_4 + 1) y_21)
def bX12_leansOf (rec : Nat → Int → St → Option (Int)) (S0 : St) (a1 : Int) : Option (Int) := gd (0 ≤ (168 + a1) ∧ (168 + a1) < 228) <| nx (S0 84 (168 + a1)) fun x_2 => bd1 (mX12_leansOf_16 rec S0 a1 FU x_2 0 0) fun y_6 => some (y_6)
set_option maxHeartbeats 4000000 in
set_option maxRecDepth 100000 in
theorem spX12_leansOf (l : Launch) {D : va_G} {cy : Nat → ClassId} {b n : Nat} (hn : 102 ≤ n) {X : Nat → va_E} (rec : Nat → Int → St → Option (Int)) (d : Nat) (hd : 2 ≤ d) (hr0 : ∀ (S0 : St) (a1 : Int) (o1 : Int), rec 0 a1 S0 = some o1 → gI l yX12_leansIn cX12_leansIn 3 (some .int) d 0 0 D cy b n (enc b cy X S0) [.ref (b + 80), .int (iI a1)] (fun r u => r = iI o1 ∧ u = (n, enc b cy X S0))) (hr1 : ∀ (S0 : St) (a1 : Int) (o1 : Int), rec 1 a1 S0 = some o1 → gI l yX12_leansOf cX12_leansOf 6 (some .int) d 0 0 D cy b n (enc b cy X S0) [.ref (b + 80), .int (iI a1)] (fun r u => r = iI o1 ∧ u = (n, enc b cy X S0))) (S0 : St) (a1 : Int) (o1 : Int) (hM : bX12_leansOf rec S0 a1 = some o1) : gI l yX12_leansOf cX12_leansOf 6 (some .int) (d + 1) 0 0 D cy b n (enc b cy X S0) [.ref (b + 80), .int (iI a1)] (fun r u => r = iI o1 ∧ u = (n, enc b cy X S0)) := by
  refine gI_of (by decide) (Nat.le_of_ble_eq_true rfl) ?_
  intro p e s m args below meth c S hr hlk hin hsz ls hl hG
  have hx := S.1
  have hb := S.2.1
  have hl : lv_has ls 6 [(0, .ref (b + 80)), (1, .int (iI a1))] := hl
  replace hG : gW D cy b n s s.heap [] (enc b cy X S0) := hG
  obtain ⟨H, eH⟩ : ∃ H, H = s.heap := ⟨_, rfl⟩
  obtain ⟨locs, elocs⟩ : ∃ locs : List Loc, locs = [] := ⟨_, rfl⟩
  rw [← eH, ← elocs] at hG
  rw [← eH, ← elocs]
  clear eH elocs
  unfold bX12_leansOf at hM
  refine lv_iconst (v := iI 0) hx hb dX12_leansOf_0 (by decide) ?_
  refine lv_istore_n (lv' := [(2, .int (iI 0)), (0, .ref (b + 80)), (1, .int (iI a1))]) hx hb dX12_leansOf_1 rfl hl (by decide) rfl (fun ls hl => ?_)
  refine lv_iconst (v := iI 0) hx hb dX12_leansOf_2 (by decide) ?_
  refine lv_istore_n (lv' := [(3, .int (iI 0)), (2, .int (iI 0)), (0, .ref (b + 80)), (1, .int (iI a1))]) hx hb dX12_leansOf_3 rfl hl (by decide) rfl (fun ls hl => ?_)
  refine lv_aload_n hx hb dX12_leansOf_4 rfl (lv_at hl 2 rfl) ?_
  refine m_get S hG 80 83 0 rfl ec_83 cpX12 wm_1673 dX12_leansOf_5 rfl (Nat.lt_of_lt_of_le (Nat.le_of_ble_eq_true rfl) hn) (by decide) ?_
  refine lv_sipush (v := iI 168) hx hb dX12_leansOf_8 (by decide) ?_
  refine lv_iload_n hx hb dX12_leansOf_11 rfl (lv_at hl 3 rfl) ?_
  refine gi_add hx hb dX12_leansOf_12 ?_
  obtain ⟨hg_1, hM⟩ := gd_some hM
  refine mi_ald S hG 81 84 rfl ec_84 (Nat.lt_of_lt_of_le (Nat.le_of_ble_eq_true rfl) hn) dX12_leansOf_13 hg_1 (by decide) ?_
  refine gi_nm (fun x_2 ex_2 => ?_)
  replace hM := nx_at hM ex_2
  clear ex_2
  refine lv_istore (lv' := [(4, .int (iI x_2)), (3, .int (iI 0)), (2, .int (iI 0)), (0, .ref (b + 80)), (1, .int (iI a1))]) hx hb dX12_leansOf_14 hl (by decide) rfl (fun ls hl => ?_)
  obtain ⟨y_6, hc_7, hM⟩ := bd1_some hM
  have hK_8 : ∀ (H : Heap) (locs : List Loc) (ls : Array Slot), gW D cy b n s H locs (enc b cy X S0) → lv_has ls 6 [(2, .int (iI y_6))] → W p l e (gRm (d + 1) 0 0) s m args below meth c H locs 0 0 (gQI D cy b s args below 0 0 (fun r u => r = iI o1 ∧ u = (n, enc b cy X S0))) (F0 m 109 ls []) := by
    intro H locs ls hG hl
    refine lv_iload_n hx hb dX12_leansOf_109 rfl (lv_at hl 0 rfl) ?_
    cases hM
    exact g_iret S hr hlk hG hsz dX12_leansOf_110 ⟨Nat.le_of_ble_eq_true rfl, Nat.le_of_ble_eq_true rfl⟩ ⟨rfl, rfl⟩
  have loop_9 : ∀ (f : Nat) (v_3 : Int) (v_4 : Int) (v_5 : Int) (H : Heap) (locs : List Loc) (ls : Array Slot), mX12_leansOf_16 rec S0 a1 f v_3 v_4 v_5 = some y_6 → gW D cy b n s H locs (enc b cy X S0) → lv_has ls 6 [(4, .int (iI v_3)), (3, .int (iI v_4)), (2, .int (iI v_5)), (0, .ref (b + 80)), (1, .int (iI a1))] → W p l e (gRm (d + 1) 0 0) s m args below meth c H locs 0 0 (gQI D cy b s args below 0 0 (fun r u => r = iI o1 ∧ u = (n, enc b cy X S0))) (F0 m 16 ls []) := by
    clear hM
    intro f
    induction f with
    | zero => intro v_3 v_4 v_5 H locs ls hM; rw [mX12_leansOf_16] at hM; cases hM
    | succ f_11 ih_10 =>
      intro v_3 v_4 v_5 H locs ls hM hG hl
      rw [mX12_leansOf_16] at hM
      refine lv_iload hx hb dX12_leansOf_16 (lv_at hl 0 rfl) ?_
      obtain ⟨hg_12, hM⟩ := gd_some hM
      refine gi_if_lt (tgt := 109) hx hb dX12_leansOf_18 (by decide) hg_12 (fun c_13 => ?_) (fun c_13 => ?_)
      · replace hM := ifp hM c_13
        cases hM
        exact hK_8 H locs ls hG (lv_sub hl [2] rfl)
      · replace hM := ifn hM c_13
        refine lv_aload_n hx hb dX12_leansOf_21 rfl (lv_at hl 3 rfl) ?_
        refine lv_iload_n hx hb dX12_leansOf_22 rfl (lv_at hl 4 rfl) ?_
        refine lv_iload_n hx hb dX12_leansOf_23 rfl (lv_at hl 1 rfl) ?_
        obtain ⟨r_15, hc_14, hM⟩ := bd1_some hM
        refine g_vi (As := [.int (iI a1), .int (iI v_4)]) (rest := []) S hG hsz (vX12_isOff l hn a1 v_4 hc_14) wV_12_231 (ec_83 _) cpX12 (Nat.lt_of_lt_of_le (Nat.le_of_ble_eq_true rfl) hn) dX12_leansOf_24 rfl hl.1 (ar := 2) (by decide +kernel) rfl (by refine ⟨?_, ?_, ?_, ?_⟩ <;> first | exact Nat.le_of_ble_eq_true rfl | (simp only [gRm]; omega)) (Nat.le_of_ble_eq_true rfl) (fun rv uu H locs hp hG => ?_)
        obtain ⟨rfl, rfl⟩ := hp
        replace hG : gW D cy b n s H locs (enc b cy X S0) := hG
        obtain ⟨z_16, hc_17, hM⟩ := bd1_some hM
        have hK_18 : ∀ (H : Heap) (locs : List Loc) (ls : Array Slot), gW D cy b n s H locs (enc b cy X S0) → lv_has ls 6 [(4, .int (iI v_3)), (3, .int (iI v_4)), (2, .int (iI v_5)), (0, .ref (b + 80)), (1, .int (iI a1))] → W p l e (gRm (d + 1) 0 0) s m args below meth c H locs 0 0 (gQI D cy b s args below 0 0 (fun r u => r = iI o1 ∧ u = (n, enc b cy X S0))) (F0 m 44 ls [.int (iI z_16)]) := by
          intro H locs ls hG hl
          refine lv_istore (lv' := [(5, .int (iI z_16)), (4, .int (iI v_3)), (3, .int (iI v_4)), (2, .int (iI v_5)), (0, .ref (b + 80)), (1, .int (iI a1))]) hx hb dX12_leansOf_44 hl (by decide) rfl (fun ls hl => ?_)
          obtain ⟨y_21, hc_22, hM⟩ := bd1_some hM
          have hK_23 : ∀ (H : Heap) (locs : List Loc) (ls : Array Slot), gW D cy b n s H locs (enc b cy X S0) → lv_has ls 6 [(4, .int (iI v_3)), (3, .int (iI v_4)), (0, .ref (b + 80)), (1, .int (iI a1)), (2, .int (iI y_21))] → W p l e (gRm (d + 1) 0 0) s m args below meth c H locs 0 0 (gQI D cy b s args below 0 0 (fun r u => r = iI o1 ∧ u = (n, enc b cy X S0))) (F0 m 90 ls []) := by
            intro H locs ls hG hl
            refine lv_iinc (v := iI (v_4 + 1)) (lv' := [(3, .int (iI (v_4 + 1))), (4, .int (iI v_3)), (0, .ref (b + 80)), (1, .int (iI a1)), (2, .int (iI y_21))]) hx hb dX12_leansOf_90 hl (k := 1) rfl ((iI_add v_4 (1)).trans (congrArg iI (by omega))) (by decide) rfl (fun ls hl => ?_)
            refine lv_aload_n hx hb dX12_leansOf_93 rfl (lv_at hl 2 rfl) ?_
            refine m_get S hG 80 83 0 rfl ec_83 cpX12 wm_1673 dX12_leansOf_94 rfl (Nat.lt_of_lt_of_le (Nat.le_of_ble_eq_true rfl) hn) (by decide) ?_
            refine lv_sipush (v := iI 144) hx hb dX12_leansOf_97 (by decide) ?_
            refine lv_iload hx hb dX12_leansOf_100 (lv_at hl 1 rfl) ?_
            refine gi_add hx hb dX12_leansOf_102 ?_
            obtain ⟨hg_24, hM⟩ := gd_some hM
            refine mi_ald S hG 81 84 rfl ec_84 (Nat.lt_of_lt_of_le (Nat.le_of_ble_eq_true rfl) hn) dX12_leansOf_103 hg_24 (by decide) ?_
            refine gi_nm (fun x_25 ex_25 => ?_)
            replace hM := nx_at hM ex_25
            clear ex_25
            refine lv_istore (lv' := [(4, .int (iI x_25)), (3, .int (iI (v_4 + 1))), (0, .ref (b + 80)), (1, .int (iI a1)), (2, .int (iI y_21))]) hx hb dX12_leansOf_104 hl (by decide) rfl (fun ls hl => ?_)
            refine lv_goto (tgt := 16) hx hb dX12_leansOf_106 (by decide) ?_
            exact ih_10 x_25 (v_4 + 1) y_21 H locs ls hM hG (lv_sub hl [0, 1, 4, 2, 3] rfl)
          have loop_26 : ∀ (f : Nat) (v_19 : Int) (v_20 : Int) (H : Heap) (locs : List Loc) (ls : Array Slot), mX12_leansOf_46 rec S0 v_3 v_4 a1 f v_19 v_20 = some y_21 → gW D cy b n s H locs (enc b cy X S0) → lv_has ls 6 [(5, .int (iI v_19)), (4, .int (iI v_3)), (3, .int (iI v_4)), (2, .int (iI v_20)), (0, .ref (b + 80)), (1, .int (iI a1))] → W p l e (gRm (d + 1) 0 0) s m args below meth c H locs 0 0 (gQI D cy b s args below 0 0 (fun r u => r = iI o1 ∧ u = (n, enc b cy X S0))) (F0 m 46 ls []) := by
            clear hM
            intro f
            induction f with
            | zero => intro v_19 v_20 H locs ls hM; rw [mX12_leansOf_46] at hM; cases hM
            | succ f_28 ih_27 =>
              intro v_19 v_20 H locs ls hM hG hl
              rw [mX12_leansOf_46] at hM
              refine lv_iload hx hb dX12_leansOf_46 (lv_at hl 0 rfl) ?_
              obtain ⟨hg_29, hM⟩ := gd_some hM
              refine gi_if_lt (tgt := 90) hx hb dX12_leansOf_48 (by decide) hg_29 (fun c_30 => ?_) (fun c_30 => ?_)
              · replace hM := ifp hM c_30
                cases hM
                exact hK_23 H locs ls hG (lv_sub hl [1, 2, 4, 5, 3] rfl)
              · replace hM := ifn hM c_30
                refine lv_iload_n hx hb dX12_leansOf_51 rfl (lv_at hl 3 rfl) ?_
                refine lv_aload_n hx hb dX12_leansOf_52 rfl (lv_at hl 4 rfl) ?_
                refine lv_iload hx hb dX12_leansOf_53 (lv_at hl 1 rfl) ?_
                refine lv_iload hx hb dX12_leansOf_55 (lv_at hl 0 rfl) ?_
                obtain ⟨r_32, hc_31, hM⟩ := bd1_some hM
                refine g_vi (As := [.int (iI v_3), .int (iI v_19)]) (rest := [.int (iI v_20)]) S hG hsz (vX12_isEmptyTerm l hn v_3 v_19 hc_31) wV_12_244 (ec_83 _) cpX12 (Nat.lt_of_lt_of_le (Nat.le_of_ble_eq_true rfl) hn) dX12_leansOf_57 rfl hl.1 (ar := 2) (by decide +kernel) rfl (by refine ⟨?_, ?_, ?_, ?_⟩ <;> first | exact Nat.le_of_ble_eq_true rfl | (simp only [gRm]; omega)) (Nat.le_of_ble_eq_true rfl) (fun rv uu H locs hp hG => ?_)
                obtain ⟨rfl, rfl⟩ := hp
                replace hG : gW D cy b n s H locs (enc b cy X S0) := hG
                obtain ⟨z_33, hc_34, hM⟩ := bd1_some hM
                have hK_35 : ∀ (H : Heap) (locs : List Loc) (ls : Array Slot), gW D cy b n s H locs (enc b cy X S0) → lv_has ls 6 [(5, .int (iI v_19)), (4, .int (iI v_3)), (3, .int (iI v_4)), (0, .ref (b + 80)), (1, .int (iI a1))] → W p l e (gRm (d + 1) 0 0) s m args below meth c H locs 0 0 (gQI D cy b s args below 0 0 (fun r u => r = iI o1 ∧ u = (n, enc b cy X S0))) (F0 m 73 ls [.int (iI z_33), .int (iI v_20)]) := by
                  intro H locs ls hG hl
                  refine gi_or hx hb dX12_leansOf_73 ?_
                  refine gi_nm (fun x_36 ex_36 => ?_)
                  replace hM := nx_at hM ex_36
                  clear ex_36
                  refine lv_istore_n (lv' := [(2, .int (iI x_36)), (5, .int (iI v_19)), (4, .int (iI v_3)), (3, .int (iI v_4)), (0, .ref (b + 80)), (1, .int (iI a1))]) hx hb dX12_leansOf_74 rfl hl (by decide) rfl (fun ls hl => ?_)
                  refine lv_aload_n hx hb dX12_leansOf_75 rfl (lv_at hl 4 rfl) ?_
                  refine m_get S hG 80 83 0 rfl ec_83 cpX12 wm_1673 dX12_leansOf_76 rfl (Nat.lt_of_lt_of_le (Nat.le_of_ble_eq_true rfl) hn) (by decide) ?_
                  refine lv_bipush (v := iI 96) hx hb dX12_leansOf_79 (by decide) ?_
                  refine lv_iload hx hb dX12_leansOf_81 (lv_at hl 1 rfl) ?_
                  refine gi_add hx hb dX12_leansOf_83 ?_
                  obtain ⟨hg_37, hM⟩ := gd_some hM
                  refine mi_ald S hG 81 84 rfl ec_84 (Nat.lt_of_lt_of_le (Nat.le_of_ble_eq_true rfl) hn) dX12_leansOf_84 hg_37 (by decide) ?_
                  refine gi_nm (fun x_38 ex_38 => ?_)
                  replace hM := nx_at hM ex_38
                  clear ex_38
                  refine lv_istore (lv' := [(5, .int (iI x_38)), (2, .int (iI x_36)), (4, .int (iI v_3)), (3, .int (iI v_4)), (0, .ref (b + 80)), (1, .int (iI a1))]) hx hb dX12_leansOf_85 hl (by decide) rfl (fun ls hl => ?_)
                  refine lv_goto (tgt := 46) hx hb dX12_leansOf_87 (by decide) ?_
                  exact ih_27 x_38 x_36 H locs ls hM hG (lv_sub hl [0, 2, 3, 1, 4, 5] rfl)
                clear hM
                replace hM := hc_34
                obtain ⟨hg_39, hM⟩ := gd_some hM
                refine gi_if_eq (tgt := 72) hx hb dX12_leansOf_60 (by decide) hg_39 (fun c_40 => ?_) (fun c_40 => ?_)
                · replace hM := ifp hM c_40
                  refine lv_iconst (v := iI 0) hx hb dX12_leansOf_72 (by decide) ?_
                  cases hM
                  exact hK_35 H locs ls hG (lv_sub hl [0, 1, 2, 4, 5] rfl)
                · replace hM := ifn hM c_40
                  refine lv_aload_n hx hb dX12_leansOf_63 rfl (lv_at hl 4 rfl) ?_
                  refine lv_iload hx hb dX12_leansOf_64 (lv_at hl 0 rfl) ?_
                  obtain ⟨r_42, hc_41, hM⟩ := bd1_some hM
                  refine g_vi (As := [.int (iI v_19)]) (rest := [.int (iI v_20)]) S hG hsz (hr0 _ v_19 _ hc_41) wV_12_253 (ec_83 _) cpX12 (Nat.lt_of_lt_of_le (Nat.le_of_ble_eq_true rfl) hn) dX12_leansOf_66 rfl hl.1 (ar := 1) (by decide +kernel) rfl (by refine ⟨?_, ?_, ?_, ?_⟩ <;> first | exact Nat.le_of_ble_eq_true rfl | (simp only [gRm]; omega)) (Nat.le_of_ble_eq_true rfl) (fun rv uu H locs hp hG => ?_)
                  obtain ⟨rfl, rfl⟩ := hp
                  replace hG : gW D cy b n s H locs (enc b cy X S0) := hG
                  refine lv_goto (tgt := 73) hx hb dX12_leansOf_69 (by decide) ?_
                  cases hM
                  exact hK_35 H locs ls hG (lv_sub hl [0, 1, 2, 4, 5] rfl)
          exact loop_26 FU z_16 v_5 H locs ls hc_22 hG (lv_sub hl [0, 1, 2, 3, 4, 5] rfl)
        clear hM
        replace hM := hc_17
        obtain ⟨hg_43, hM⟩ := gd_some hM
        refine gi_if_eq (tgt := 34) hx hb dX12_leansOf_27 (by decide) hg_43 (fun c_44 => ?_) (fun c_44 => ?_)
        · replace hM := ifp hM c_44
          refine lv_aload_n hx hb dX12_leansOf_34 rfl (lv_at hl 3 rfl) ?_
          refine m_get S hG 80 83 0 rfl ec_83 cpX12 wm_1673 dX12_leansOf_35 rfl (Nat.lt_of_lt_of_le (Nat.le_of_ble_eq_true rfl) hn) (by decide) ?_
          refine lv_bipush (v := iI 120) hx hb dX12_leansOf_38 (by decide) ?_
          refine lv_iload hx hb dX12_leansOf_40 (lv_at hl 0 rfl) ?_
          refine gi_add hx hb dX12_leansOf_42 ?_
          obtain ⟨hg_45, hM⟩ := gd_some hM
          refine mi_ald S hG 81 84 rfl ec_84 (Nat.lt_of_lt_of_le (Nat.le_of_ble_eq_true rfl) hn) dX12_leansOf_43 hg_45 (by decide) ?_
          cases hM
          exact hK_18 H locs ls hG (lv_sub hl [0, 1, 2, 3, 4] rfl)
        · replace hM := ifn hM c_44
          refine lv_iconst (v := iI (-1)) hx hb dX12_leansOf_30 (by decide) ?_
          refine lv_goto (tgt := 44) hx hb dX12_leansOf_31 (by decide) ?_
          cases hM
          exact hK_18 H locs ls hG (lv_sub hl [0, 1, 2, 3, 4] rfl)
  exact loop_9 FU x_2 0 0 H locs ls hc_7 hG (lv_sub hl [0, 1, 2, 3, 4] rfl)
def RX12_leansIn : Nat → Nat → Int → St → Option (Int)
  | 0, _, _, _ => none
  | f + 1, t, x1, S0 => if t = 0 then (bX12_leansIn (RX12_leansIn f) S0 x1) else (if t = 1 then (bX12_leansOf (RX12_leansIn f) S0 x1) else (none))
set_option maxHeartbeats 4000000 in
theorem vRX12_leansIn (l : Launch) {D : va_G} {cy : Nat → ClassId} {b n : Nat} (hn : 102 ≤ n) {X : Nat → va_E} : ∀ f : Nat, (∀ (S0 : St) (a1 : Int) (o1 : Int), RX12_leansIn f 0 a1 S0 = some o1 → gI l yX12_leansIn cX12_leansIn 3 (some .int) (2 + f) 0 0 D cy b n (enc b cy X S0) [.ref (b + 80), .int (iI a1)] (fun r u => r = iI o1 ∧ u = (n, enc b cy X S0))) ∧ (∀ (S0 : St) (a1 : Int) (o1 : Int), RX12_leansIn f 1 a1 S0 = some o1 → gI l yX12_leansOf cX12_leansOf 6 (some .int) (2 + f) 0 0 D cy b n (enc b cy X S0) [.ref (b + 80), .int (iI a1)] (fun r u => r = iI o1 ∧ u = (n, enc b cy X S0))) := by
  intro f
  induction f with
  | zero =>
    refine ⟨?_, ?_⟩
    all_goals
      intros; rename_i hM; rw [RX12_leansIn] at hM; cases hM
  | succ f ih =>
    obtain ⟨hr0, hr1⟩ := ih
    refine ⟨?_, ?_⟩
    · intro S0 a1 o1 hM
      rw [RX12_leansIn] at hM
      replace hM := ifp hM rfl
      exact spX12_leansIn l hn (RX12_leansIn f) (2 + f) (Nat.le_add_right _ _) hr0 hr1 S0 a1 _ hM
    · intro S0 a1 o1 hM
      rw [RX12_leansIn] at hM
      replace hM := ifn hM (by decide)
      replace hM := ifp hM rfl
      exact spX12_leansOf l hn (RX12_leansIn f) (2 + f) (Nat.le_add_right _ _) hr0 hr1 S0 a1 _ hM
def mX12_leansIn (S0 : St) (a1 : Int) : Option (Int) := RX12_leansIn 24 0 a1 S0
theorem vX12_leansIn (l : Launch) {D : va_G} {cy : Nat → ClassId} {b n : Nat} (hn : 102 ≤ n) {X : Nat → va_E} {S0 : St} (a1 : Int) {o1 : Int} (hM : mX12_leansIn S0 a1 = some o1) : gI l yX12_leansIn cX12_leansIn 3 (some .int) 26 0 0 D cy b n (enc b cy X S0) [.ref (b + 80), .int (iI a1)] (fun r u => r = iI o1 ∧ u = (n, enc b cy X S0)) := by
  unfold mX12_leansIn at hM
  exact (vRX12_leansIn l hn 24).1 S0 a1 _ hM
def mX12_leansOf (S0 : St) (a1 : Int) : Option (Int) := RX12_leansIn 24 1 a1 S0
theorem vX12_leansOf (l : Launch) {D : va_G} {cy : Nat → ClassId} {b n : Nat} (hn : 102 ≤ n) {X : Nat → va_E} {S0 : St} (a1 : Int) {o1 : Int} (hM : mX12_leansOf S0 a1 = some o1) : gI l yX12_leansOf cX12_leansOf 6 (some .int) 26 0 0 D cy b n (enc b cy X S0) [.ref (b + 80), .int (iI a1)] (fun r u => r = iI o1 ∧ u = (n, enc b cy X S0)) := by
  unfold mX12_leansOf at hM
  exact (vRX12_leansIn l hn 24).2 S0 a1 _ hM
theorem wV_12_259 : gWV "GrownKindsModel" 259 yX12_isOfEmpty cX12_isOfEmpty 5 (some .boolean) := ⟨wm_1966, wm_1968, wm_112, wm_188, wm_1969, by decide +kernel, by decide +kernel⟩
def mX12_isOfEmpty_32 (rec : Nat → Int → St → Option (Int)) (S0 : St) (v_16 : Int) (v_3 : Int) : Nat → Int → Option (Int × Int)
  | 0, _ => none
  | f + 1, v_29 => gd (0 ≤ (24 + v_29) ∧ (24 + v_29) < 228) <| gd (inI (S0 84 (24 + v_29))) <| bd1 (mX12_in (S0 84 (24 + v_29)) 3 6) fun r_55 => gd (inI r_55) <| if r_55 = 0 then (some (1, v_29)) else (gd (0 ≤ (72 + v_29) ∧ (72 + v_29) < 228) <| nx (S0 84 (72 + v_29)) fun x_59 => gd (0 ≤ x_59 ∧ x_59 < 30) <| gd (inI (S0 89 x_59)) <| if (S0 89 x_59) = 0 then (mX12_isOfEmpty_32 rec S0 v_16 v_3 f x_59) else (some (0, x_59)))
def mX12_isOfEmpty_25 (rec : Nat → Int → St → Option (Int)) (S0 : St) (v_3 : Int) : Nat → Int → Option (Int)
  | 0, _ => none
  | f + 1, v_16 => gd (inI v_16) <| if v_16 < 0 then (some (2)) else (bd2 (mX12_isOfEmpty_32 rec S0 v_16 v_3 FU v_16) fun t_30 y_31 => if t_30 = 0 then (some (0)) else (gd (0 ≤ (24 + y_31) ∧ (24 + y_31) < 228) <| bd1 (gd (inI (S0 84 (24 + y_31))) <| if (S0 84 (24 + y_31)) = 7 then (gd (0 ≤ (48 + y_31) ∧ (48 + y_31) < 228) <| bd1 (rec 0 (S0 84 (48 + y_31)) S0) fun r_46 => gd (inI r_46) <| if r_46 = 0 then (some (1)) else (some (0))) else (some (1))) fun t_36 => if t_36 = 0 then (some (1)) else (gd (0 ≤ (96 + v_16) ∧ (96 + v_16) < 228) <| nx (S0 84 (96 + v_16)) fun x_41 => mX12_isOfEmpty_25 rec S0 v_3 f x_41)))
def mX12_isOfEmpty_11 (rec : Nat → Int → St → Option (Int)) (S0 : St)  : Nat → Int → Option (Int)
  | 0, _ => none
  | f + 1, v_3 => gd (inI v_3) <| if v_3 < 0 then (some (2)) else (gd (0 ≤ (120 + v_3) ∧ (120 + v_3) < 228) <| nx (S0 84 (120 + v_3)) fun x_15 => bd1 (mX12_isOfEmpty_25 rec S0 v_3 FU x_15) fun t_17 => if t_17 = 0 then (some (0)) else (if t_17 = 1 then (some (1)) else (gd (0 ≤ (144 + v_3) ∧ (144 + v_3) < 228) <| nx (S0 84 (144 + v_3)) fun x_23 => mX12_isOfEmpty_11 rec S0 f x_23)))
def bX12_isOfEmpty (rec : Nat → Int → St → Option (Int)) (S0 : St) (a1 : Int) : Option (Int) := gd (0 ≤ (168 + a1) ∧ (168 + a1) < 228) <| nx (S0 84 (168 + a1)) fun x_2 => bd1 (mX12_isOfEmpty_11 rec S0 FU x_2) fun t_4 => if t_4 = 0 then (some (1)) else (if t_4 = 1 then (some (1)) else (some (0)))
set_option maxHeartbeats 4000000 in
set_option maxRecDepth 100000 in
theorem spX12_isOfEmpty (l : Launch) {D : va_G} {cy : Nat → ClassId} {b n : Nat} (hn : 102 ≤ n) {X : Nat → va_E} (rec : Nat → Int → St → Option (Int)) (d : Nat) (hd : 1 ≤ d) (hr0 : ∀ (S0 : St) (a1 : Int) (o1 : Int), rec 0 a1 S0 = some o1 → gI l yX12_isOfEmpty cX12_isOfEmpty 5 (some .boolean) d 0 0 D cy b n (enc b cy X S0) [.ref (b + 80), .int (iI a1)] (fun r u => r = iI o1 ∧ u = (n, enc b cy X S0))) (S0 : St) (a1 : Int) (o1 : Int) (hM : bX12_isOfEmpty rec S0 a1 = some o1) : gI l yX12_isOfEmpty cX12_isOfEmpty 5 (some .boolean) (d + 1) 0 0 D cy b n (enc b cy X S0) [.ref (b + 80), .int (iI a1)] (fun r u => r = iI o1 ∧ u = (n, enc b cy X S0)) := by
  refine gI_of (by decide) (Nat.le_of_ble_eq_true rfl) ?_
  intro p e s m args below meth c S hr hlk hin hsz ls hl hG
  have hx := S.1
  have hb := S.2.1
  have hl : lv_has ls 5 [(0, .ref (b + 80)), (1, .int (iI a1))] := hl
  replace hG : gW D cy b n s s.heap [] (enc b cy X S0) := hG
  obtain ⟨H, eH⟩ : ∃ H, H = s.heap := ⟨_, rfl⟩
  obtain ⟨locs, elocs⟩ : ∃ locs : List Loc, locs = [] := ⟨_, rfl⟩
  rw [← eH, ← elocs] at hG
  rw [← eH, ← elocs]
  clear eH elocs
  unfold bX12_isOfEmpty at hM
  refine lv_aload_n hx hb dX12_isOfEmpty_0 rfl (lv_at hl 0 rfl) ?_
  refine m_get S hG 80 83 0 rfl ec_83 cpX12 wm_1673 dX12_isOfEmpty_1 rfl (Nat.lt_of_lt_of_le (Nat.le_of_ble_eq_true rfl) hn) (by decide) ?_
  refine lv_sipush (v := iI 168) hx hb dX12_isOfEmpty_4 (by decide) ?_
  refine lv_iload_n hx hb dX12_isOfEmpty_7 rfl (lv_at hl 1 rfl) ?_
  refine gi_add hx hb dX12_isOfEmpty_8 ?_
  obtain ⟨hg_1, hM⟩ := gd_some hM
  refine mi_ald S hG 81 84 rfl ec_84 (Nat.lt_of_lt_of_le (Nat.le_of_ble_eq_true rfl) hn) dX12_isOfEmpty_9 hg_1 (by decide) ?_
  refine gi_nm (fun x_2 ex_2 => ?_)
  replace hM := nx_at hM ex_2
  clear ex_2
  refine lv_istore_n (lv' := [(2, .int (iI x_2)), (0, .ref (b + 80)), (1, .int (iI a1))]) hx hb dX12_isOfEmpty_10 rfl hl (by decide) rfl (fun ls hl => ?_)
  obtain ⟨t_4, hc_5, hM⟩ := bd1_some hM
  have hK_6 : ∀ (H : Heap) (locs : List Loc) (ls : Array Slot), t_4 = 0 → gW D cy b n s H locs (enc b cy X S0) → lv_has ls 5 [] → W p l e (gRm (d + 1) 0 0) s m args below meth c H locs 0 0 (gQI D cy b s args below 0 0 (fun r u => r = iI o1 ∧ u = (n, enc b cy X S0))) (F0 m 77 ls []) := by
    intro H locs ls ht hG hl
    subst ht
    replace hM := ifp hM rfl
    refine lv_iconst (v := iI 1) hx hb dX12_isOfEmpty_77 (by decide) ?_
    cases hM
    exact g_zret S hr hlk hG hsz dX12_isOfEmpty_78 ⟨Nat.le_of_ble_eq_true rfl, Nat.le_of_ble_eq_true rfl⟩ (nar_z (by decide)) ⟨rfl, rfl⟩
  have hK_7 : ∀ (H : Heap) (locs : List Loc) (ls : Array Slot), t_4 = 1 → gW D cy b n s H locs (enc b cy X S0) → lv_has ls 5 [] → W p l e (gRm (d + 1) 0 0) s m args below meth c H locs 0 0 (gQI D cy b s args below 0 0 (fun r u => r = iI o1 ∧ u = (n, enc b cy X S0))) (F0 m 111 ls []) := by
    intro H locs ls ht hG hl
    subst ht
    replace hM := ifn hM (by decide)
    replace hM := ifp hM rfl
    refine lv_iconst (v := iI 1) hx hb dX12_isOfEmpty_111 (by decide) ?_
    cases hM
    exact g_zret S hr hlk hG hsz dX12_isOfEmpty_112 ⟨Nat.le_of_ble_eq_true rfl, Nat.le_of_ble_eq_true rfl⟩ (nar_z (by decide)) ⟨rfl, rfl⟩
  have hK_8 : ∀ (H : Heap) (locs : List Loc) (ls : Array Slot), t_4 = 2 → gW D cy b n s H locs (enc b cy X S0) → lv_has ls 5 [] → W p l e (gRm (d + 1) 0 0) s m args below meth c H locs 0 0 (gQI D cy b s args below 0 0 (fun r u => r = iI o1 ∧ u = (n, enc b cy X S0))) (F0 m 140 ls []) := by
    intro H locs ls ht hG hl
    subst ht
    replace hM := ifn hM (by decide)
    replace hM := ifn hM (by decide)
    refine lv_iconst (v := iI 0) hx hb dX12_isOfEmpty_140 (by decide) ?_
    cases hM
    exact g_zret S hr hlk hG hsz dX12_isOfEmpty_141 ⟨Nat.le_of_ble_eq_true rfl, Nat.le_of_ble_eq_true rfl⟩ (nar_z (by decide)) ⟨rfl, rfl⟩
  have loop_9 : ∀ (f : Nat) (v_3 : Int) (H : Heap) (locs : List Loc) (ls : Array Slot), mX12_isOfEmpty_11 rec S0 f v_3 = some t_4 → gW D cy b n s H locs (enc b cy X S0) → lv_has ls 5 [(2, .int (iI v_3)), (0, .ref (b + 80))] → W p l e (gRm (d + 1) 0 0) s m args below meth c H locs 0 0 (gQI D cy b s args below 0 0 (fun r u => r = iI o1 ∧ u = (n, enc b cy X S0))) (F0 m 11 ls []) := by
    clear hM
    intro f
    induction f with
    | zero => intro v_3 H locs ls hM; rw [mX12_isOfEmpty_11] at hM; cases hM
    | succ f_11 ih_10 =>
      intro v_3 H locs ls hM hG hl
      rw [mX12_isOfEmpty_11] at hM
      refine lv_iload_n hx hb dX12_isOfEmpty_11 rfl (lv_at hl 0 rfl) ?_
      obtain ⟨hg_12, hM⟩ := gd_some hM
      refine gi_if_lt (tgt := 140) hx hb dX12_isOfEmpty_12 (by decide) hg_12 (fun c_13 => ?_) (fun c_13 => ?_)
      · replace hM := ifp hM c_13
        cases hM
        exact hK_8 H locs ls rfl hG (lv_sub hl [] rfl)
      · replace hM := ifn hM c_13
        refine lv_aload_n hx hb dX12_isOfEmpty_15 rfl (lv_at hl 1 rfl) ?_
        refine m_get S hG 80 83 0 rfl ec_83 cpX12 wm_1673 dX12_isOfEmpty_16 rfl (Nat.lt_of_lt_of_le (Nat.le_of_ble_eq_true rfl) hn) (by decide) ?_
        refine lv_bipush (v := iI 120) hx hb dX12_isOfEmpty_19 (by decide) ?_
        refine lv_iload_n hx hb dX12_isOfEmpty_21 rfl (lv_at hl 0 rfl) ?_
        refine gi_add hx hb dX12_isOfEmpty_22 ?_
        obtain ⟨hg_14, hM⟩ := gd_some hM
        refine mi_ald S hG 81 84 rfl ec_84 (Nat.lt_of_lt_of_le (Nat.le_of_ble_eq_true rfl) hn) dX12_isOfEmpty_23 hg_14 (by decide) ?_
        refine gi_nm (fun x_15 ex_15 => ?_)
        replace hM := nx_at hM ex_15
        clear ex_15
        refine lv_istore_n (lv' := [(3, .int (iI x_15)), (2, .int (iI v_3)), (0, .ref (b + 80))]) hx hb dX12_isOfEmpty_24 rfl hl (by decide) rfl (fun ls hl => ?_)
        obtain ⟨t_17, hc_18, hM⟩ := bd1_some hM
        have hK_19 : ∀ (H : Heap) (locs : List Loc) (ls : Array Slot), t_17 = 0 → gW D cy b n s H locs (enc b cy X S0) → lv_has ls 5 [] → W p l e (gRm (d + 1) 0 0) s m args below meth c H locs 0 0 (gQI D cy b s args below 0 0 (fun r u => r = iI o1 ∧ u = (n, enc b cy X S0))) (F0 m 77 ls []) := by
          intro H locs ls ht hG hl
          subst ht
          replace hM := ifp hM rfl
          cases hM
          exact hK_6 H locs ls rfl hG (lv_sub hl [] rfl)
        have hK_20 : ∀ (H : Heap) (locs : List Loc) (ls : Array Slot), t_17 = 1 → gW D cy b n s H locs (enc b cy X S0) → lv_has ls 5 [] → W p l e (gRm (d + 1) 0 0) s m args below meth c H locs 0 0 (gQI D cy b s args below 0 0 (fun r u => r = iI o1 ∧ u = (n, enc b cy X S0))) (F0 m 111 ls []) := by
          intro H locs ls ht hG hl
          subst ht
          replace hM := ifn hM (by decide)
          replace hM := ifp hM rfl
          cases hM
          exact hK_7 H locs ls rfl hG (lv_sub hl [] rfl)
        have hK_21 : ∀ (H : Heap) (locs : List Loc) (ls : Array Slot), t_17 = 2 → gW D cy b n s H locs (enc b cy X S0) → lv_has ls 5 [(2, .int (iI v_3)), (0, .ref (b + 80))] → W p l e (gRm (d + 1) 0 0) s m args below meth c H locs 0 0 (gQI D cy b s args below 0 0 (fun r u => r = iI o1 ∧ u = (n, enc b cy X S0))) (F0 m 126 ls []) := by
          intro H locs ls ht hG hl
          subst ht
          replace hM := ifn hM (by decide)
          replace hM := ifn hM (by decide)
          refine lv_aload_n hx hb dX12_isOfEmpty_126 rfl (lv_at hl 1 rfl) ?_
          refine m_get S hG 80 83 0 rfl ec_83 cpX12 wm_1673 dX12_isOfEmpty_127 rfl (Nat.lt_of_lt_of_le (Nat.le_of_ble_eq_true rfl) hn) (by decide) ?_
          refine lv_sipush (v := iI 144) hx hb dX12_isOfEmpty_130 (by decide) ?_
          refine lv_iload_n hx hb dX12_isOfEmpty_133 rfl (lv_at hl 0 rfl) ?_
          refine gi_add hx hb dX12_isOfEmpty_134 ?_
          obtain ⟨hg_22, hM⟩ := gd_some hM
          refine mi_ald S hG 81 84 rfl ec_84 (Nat.lt_of_lt_of_le (Nat.le_of_ble_eq_true rfl) hn) dX12_isOfEmpty_135 hg_22 (by decide) ?_
          refine gi_nm (fun x_23 ex_23 => ?_)
          replace hM := nx_at hM ex_23
          clear ex_23
          refine lv_istore_n (lv' := [(2, .int (iI x_23)), (0, .ref (b + 80))]) hx hb dX12_isOfEmpty_136 rfl hl (by decide) rfl (fun ls hl => ?_)
          refine lv_goto (tgt := 11) hx hb dX12_isOfEmpty_137 (by decide) ?_
          exact ih_10 x_23 H locs ls hM hG (lv_sub hl [0, 1] rfl)
        have loop_24 : ∀ (f : Nat) (v_16 : Int) (H : Heap) (locs : List Loc) (ls : Array Slot), mX12_isOfEmpty_25 rec S0 v_3 f v_16 = some t_17 → gW D cy b n s H locs (enc b cy X S0) → lv_has ls 5 [(3, .int (iI v_16)), (2, .int (iI v_3)), (0, .ref (b + 80))] → W p l e (gRm (d + 1) 0 0) s m args below meth c H locs 0 0 (gQI D cy b s args below 0 0 (fun r u => r = iI o1 ∧ u = (n, enc b cy X S0))) (F0 m 25 ls []) := by
          clear hM
          intro f
          induction f with
          | zero => intro v_16 H locs ls hM; rw [mX12_isOfEmpty_25] at hM; cases hM
          | succ f_26 ih_25 =>
            intro v_16 H locs ls hM hG hl
            rw [mX12_isOfEmpty_25] at hM
            refine lv_iload_n hx hb dX12_isOfEmpty_25 rfl (lv_at hl 0 rfl) ?_
            obtain ⟨hg_27, hM⟩ := gd_some hM
            refine gi_if_lt (tgt := 126) hx hb dX12_isOfEmpty_26 (by decide) hg_27 (fun c_28 => ?_) (fun c_28 => ?_)
            · replace hM := ifp hM c_28
              cases hM
              exact hK_21 H locs ls rfl hG (lv_sub hl [1, 2] rfl)
            · replace hM := ifn hM c_28
              refine lv_iload_n hx hb dX12_isOfEmpty_29 rfl (lv_at hl 0 rfl) ?_
              refine lv_istore (lv' := [(4, .int (iI v_16)), (3, .int (iI v_16)), (2, .int (iI v_3)), (0, .ref (b + 80))]) hx hb dX12_isOfEmpty_30 hl (by decide) rfl (fun ls hl => ?_)
              obtain ⟨t_30, y_31, hc_32, hM⟩ := bd2_some hM
              have hK_33 : ∀ (H : Heap) (locs : List Loc) (ls : Array Slot), t_30 = 0 → gW D cy b n s H locs (enc b cy X S0) → lv_has ls 5 [] → W p l e (gRm (d + 1) 0 0) s m args below meth c H locs 0 0 (gQI D cy b s args below 0 0 (fun r u => r = iI o1 ∧ u = (n, enc b cy X S0))) (F0 m 77 ls []) := by
                intro H locs ls ht hG hl
                subst ht
                replace hM := ifp hM rfl
                cases hM
                exact hK_19 H locs ls rfl hG (lv_sub hl [] rfl)
              have hK_34 : ∀ (H : Heap) (locs : List Loc) (ls : Array Slot), t_30 = 1 → gW D cy b n s H locs (enc b cy X S0) → lv_has ls 5 [(3, .int (iI v_16)), (2, .int (iI v_3)), (0, .ref (b + 80)), (4, .int (iI y_31))] → W p l e (gRm (d + 1) 0 0) s m args below meth c H locs 0 0 (gQI D cy b s args below 0 0 (fun r u => r = iI o1 ∧ u = (n, enc b cy X S0))) (F0 m 79 ls []) := by
                intro H locs ls ht hG hl
                subst ht
                replace hM := ifn hM (by decide)
                refine lv_aload_n hx hb dX12_isOfEmpty_79 rfl (lv_at hl 2 rfl) ?_
                refine m_get S hG 80 83 0 rfl ec_83 cpX12 wm_1673 dX12_isOfEmpty_80 rfl (Nat.lt_of_lt_of_le (Nat.le_of_ble_eq_true rfl) hn) (by decide) ?_
                refine lv_bipush (v := iI 24) hx hb dX12_isOfEmpty_83 (by decide) ?_
                refine lv_iload hx hb dX12_isOfEmpty_85 (lv_at hl 3 rfl) ?_
                refine gi_add hx hb dX12_isOfEmpty_87 ?_
                obtain ⟨hg_35, hM⟩ := gd_some hM
                refine mi_ald S hG 81 84 rfl ec_84 (Nat.lt_of_lt_of_le (Nat.le_of_ble_eq_true rfl) hn) dX12_isOfEmpty_88 hg_35 (by decide) ?_
                refine lv_bipush (v := iI 7) hx hb dX12_isOfEmpty_89 (by decide) ?_
                obtain ⟨t_36, hc_37, hM⟩ := bd1_some hM
                have hK_38 : ∀ (H : Heap) (locs : List Loc) (ls : Array Slot), t_36 = 0 → gW D cy b n s H locs (enc b cy X S0) → lv_has ls 5 [] → W p l e (gRm (d + 1) 0 0) s m args below meth c H locs 0 0 (gQI D cy b s args below 0 0 (fun r u => r = iI o1 ∧ u = (n, enc b cy X S0))) (F0 m 111 ls []) := by
                  intro H locs ls ht hG hl
                  subst ht
                  replace hM := ifp hM rfl
                  cases hM
                  exact hK_20 H locs ls rfl hG (lv_sub hl [] rfl)
                have hK_39 : ∀ (H : Heap) (locs : List Loc) (ls : Array Slot), t_36 = 1 → gW D cy b n s H locs (enc b cy X S0) → lv_has ls 5 [(3, .int (iI v_16)), (2, .int (iI v_3)), (0, .ref (b + 80))] → W p l e (gRm (d + 1) 0 0) s m args below meth c H locs 0 0 (gQI D cy b s args below 0 0 (fun r u => r = iI o1 ∧ u = (n, enc b cy X S0))) (F0 m 113 ls []) := by
                  intro H locs ls ht hG hl
                  subst ht
                  replace hM := ifn hM (by decide)
                  refine lv_aload_n hx hb dX12_isOfEmpty_113 rfl (lv_at hl 2 rfl) ?_
                  refine m_get S hG 80 83 0 rfl ec_83 cpX12 wm_1673 dX12_isOfEmpty_114 rfl (Nat.lt_of_lt_of_le (Nat.le_of_ble_eq_true rfl) hn) (by decide) ?_
                  refine lv_bipush (v := iI 96) hx hb dX12_isOfEmpty_117 (by decide) ?_
                  refine lv_iload_n hx hb dX12_isOfEmpty_119 rfl (lv_at hl 0 rfl) ?_
                  refine gi_add hx hb dX12_isOfEmpty_120 ?_
                  obtain ⟨hg_40, hM⟩ := gd_some hM
                  refine mi_ald S hG 81 84 rfl ec_84 (Nat.lt_of_lt_of_le (Nat.le_of_ble_eq_true rfl) hn) dX12_isOfEmpty_121 hg_40 (by decide) ?_
                  refine gi_nm (fun x_41 ex_41 => ?_)
                  replace hM := nx_at hM ex_41
                  clear ex_41
                  refine lv_istore_n (lv' := [(3, .int (iI x_41)), (2, .int (iI v_3)), (0, .ref (b + 80))]) hx hb dX12_isOfEmpty_122 rfl hl (by decide) rfl (fun ls hl => ?_)
                  refine lv_goto (tgt := 25) hx hb dX12_isOfEmpty_123 (by decide) ?_
                  exact ih_25 x_41 H locs ls hM hG (lv_sub hl [0, 1, 2] rfl)
                clear hM
                replace hM := hc_37
                obtain ⟨hg_42, hM⟩ := gd_some hM
                refine gi_icmp_ne (tgt := 113) hx hb dX12_isOfEmpty_91 (by decide) hg_42 (by decide) (fun c_43 => ?_) (fun c_43 => ?_)
                · replace hM := ifn hM c_43
                  cases hM
                  exact hK_39 H locs ls rfl hG (lv_sub hl [0, 1, 2] rfl)
                · replace hM := ifp hM c_43
                  refine lv_aload_n hx hb dX12_isOfEmpty_94 rfl (lv_at hl 2 rfl) ?_
                  refine lv_aload_n hx hb dX12_isOfEmpty_95 rfl (lv_at hl 2 rfl) ?_
                  refine m_get S hG 80 83 0 rfl ec_83 cpX12 wm_1673 dX12_isOfEmpty_96 rfl (Nat.lt_of_lt_of_le (Nat.le_of_ble_eq_true rfl) hn) (by decide) ?_
                  refine lv_bipush (v := iI 48) hx hb dX12_isOfEmpty_99 (by decide) ?_
                  refine lv_iload hx hb dX12_isOfEmpty_101 (lv_at hl 3 rfl) ?_
                  refine gi_add hx hb dX12_isOfEmpty_103 ?_
                  obtain ⟨hg_44, hM⟩ := gd_some hM
                  refine mi_ald S hG 81 84 rfl ec_84 (Nat.lt_of_lt_of_le (Nat.le_of_ble_eq_true rfl) hn) dX12_isOfEmpty_104 hg_44 (by decide) ?_
                  obtain ⟨r_46, hc_45, hM⟩ := bd1_some hM
                  refine g_vi (As := [.int (iI (S0 84 (48 + y_31)))]) (rest := []) S hG hsz (hr0 _ (S0 84 (48 + y_31)) _ hc_45) wV_12_259 (ec_83 _) cpX12 (Nat.lt_of_lt_of_le (Nat.le_of_ble_eq_true rfl) hn) dX12_isOfEmpty_105 rfl hl.1 (ar := 1) (by decide +kernel) rfl (by refine ⟨?_, ?_, ?_, ?_⟩ <;> first | exact Nat.le_of_ble_eq_true rfl | (simp only [gRm]; omega)) (Nat.le_of_ble_eq_true rfl) (fun rv uu H locs hp hG => ?_)
                  obtain ⟨rfl, rfl⟩ := hp
                  replace hG : gW D cy b n s H locs (enc b cy X S0) := hG
                  obtain ⟨hg_47, hM⟩ := gd_some hM
                  refine gi_if_eq (tgt := 113) hx hb dX12_isOfEmpty_108 (by decide) hg_47 (fun c_48 => ?_) (fun c_48 => ?_)
                  · replace hM := ifp hM c_48
                    cases hM
                    exact hK_39 H locs ls rfl hG (lv_sub hl [0, 1, 2] rfl)
                  · replace hM := ifn hM c_48
                    cases hM
                    exact hK_38 H locs ls rfl hG (lv_sub hl [] rfl)
              have loop_49 : ∀ (f : Nat) (v_29 : Int) (H : Heap) (locs : List Loc) (ls : Array Slot), mX12_isOfEmpty_32 rec S0 v_16 v_3 f v_29 = some (t_30, y_31) → gW D cy b n s H locs (enc b cy X S0) → lv_has ls 5 [(4, .int (iI v_29)), (3, .int (iI v_16)), (2, .int (iI v_3)), (0, .ref (b + 80))] → W p l e (gRm (d + 1) 0 0) s m args below meth c H locs 0 0 (gQI D cy b s args below 0 0 (fun r u => r = iI o1 ∧ u = (n, enc b cy X S0))) (F0 m 32 ls []) := by
                clear hM
                intro f
                induction f with
                | zero => intro v_29 H locs ls hM; rw [mX12_isOfEmpty_32] at hM; cases hM
                | succ f_51 ih_50 =>
                  intro v_29 H locs ls hM hG hl
                  rw [mX12_isOfEmpty_32] at hM
                  refine lv_aload_n hx hb dX12_isOfEmpty_32 rfl (lv_at hl 3 rfl) ?_
                  refine m_get S hG 80 83 0 rfl ec_83 cpX12 wm_1673 dX12_isOfEmpty_33 rfl (Nat.lt_of_lt_of_le (Nat.le_of_ble_eq_true rfl) hn) (by decide) ?_
                  refine lv_bipush (v := iI 24) hx hb dX12_isOfEmpty_36 (by decide) ?_
                  refine lv_iload hx hb dX12_isOfEmpty_38 (lv_at hl 0 rfl) ?_
                  refine gi_add hx hb dX12_isOfEmpty_40 ?_
                  obtain ⟨hg_52, hM⟩ := gd_some hM
                  refine mi_ald S hG 81 84 rfl ec_84 (Nat.lt_of_lt_of_le (Nat.le_of_ble_eq_true rfl) hn) dX12_isOfEmpty_41 hg_52 (by decide) ?_
                  obtain ⟨hg_53, hM⟩ := gd_some hM
                  refine gi_i2l hx hb dX12_isOfEmpty_42 hg_53 ?_
                  refine lv_ldc2 (v := 3) hx hb S.2.2.2.1 (S.2.2.2.2 _ wm_1964) dX12_isOfEmpty_43 ?_
                  refine gj_as 3 (by decide) ?_
                  refine lv_ldc2 (v := 6) hx hb S.2.2.2.1 (S.2.2.2.2 _ wm_1965) dX12_isOfEmpty_46 ?_
                  refine gj_as 6 (by decide) ?_
                  obtain ⟨r_55, hc_54, hM⟩ := bd1_some hM
                  refine g_si (As := [.long (jJ (S0 84 (24 + v_29))), .long (jJ 3), .long (jJ 6)]) (rest := []) S hG hsz (vX12_in l hn (S0 84 (24 + v_29)) 3 6 hc_54) wS_12_97 dX12_isOfEmpty_49 rfl hl.1 (ar := 3) (by decide +kernel) rfl (by refine ⟨?_, ?_, ?_, ?_⟩ <;> first | exact Nat.le_of_ble_eq_true rfl | (simp only [gRm]; omega)) (Nat.le_of_ble_eq_true rfl) (fun rv uu H locs hp hG => ?_)
                  obtain ⟨rfl, rfl⟩ := hp
                  replace hG : gW D cy b n s H locs (enc b cy X S0) := hG
                  obtain ⟨hg_56, hM⟩ := gd_some hM
                  refine gi_if_eq (tgt := 79) hx hb dX12_isOfEmpty_52 (by decide) hg_56 (fun c_57 => ?_) (fun c_57 => ?_)
                  · replace hM := ifp hM c_57
                    cases hM
                    exact hK_34 H locs ls rfl hG (lv_sub hl [1, 2, 3, 0] rfl)
                  · replace hM := ifn hM c_57
                    refine lv_aload_n hx hb dX12_isOfEmpty_55 rfl (lv_at hl 3 rfl) ?_
                    refine m_get S hG 80 83 0 rfl ec_83 cpX12 wm_1673 dX12_isOfEmpty_56 rfl (Nat.lt_of_lt_of_le (Nat.le_of_ble_eq_true rfl) hn) (by decide) ?_
                    refine lv_bipush (v := iI 72) hx hb dX12_isOfEmpty_59 (by decide) ?_
                    refine lv_iload hx hb dX12_isOfEmpty_61 (lv_at hl 0 rfl) ?_
                    refine gi_add hx hb dX12_isOfEmpty_63 ?_
                    obtain ⟨hg_58, hM⟩ := gd_some hM
                    refine mi_ald S hG 81 84 rfl ec_84 (Nat.lt_of_lt_of_le (Nat.le_of_ble_eq_true rfl) hn) dX12_isOfEmpty_64 hg_58 (by decide) ?_
                    refine gi_nm (fun x_59 ex_59 => ?_)
                    replace hM := nx_at hM ex_59
                    clear ex_59
                    refine lv_istore (lv' := [(4, .int (iI x_59)), (3, .int (iI v_16)), (2, .int (iI v_3)), (0, .ref (b + 80))]) hx hb dX12_isOfEmpty_65 hl (by decide) rfl (fun ls hl => ?_)
                    refine lv_aload_n hx hb dX12_isOfEmpty_67 rfl (lv_at hl 3 rfl) ?_
                    refine m_get S hG 80 83 13 rfl ec_83 cpX12 wm_1686 dX12_isOfEmpty_68 rfl (Nat.lt_of_lt_of_le (Nat.le_of_ble_eq_true rfl) hn) (by decide) ?_
                    refine lv_iload hx hb dX12_isOfEmpty_71 (lv_at hl 0 rfl) ?_
                    obtain ⟨hg_60, hM⟩ := gd_some hM
                    refine mz_ald S hG 86 89 rfl ec_89 (Nat.lt_of_lt_of_le (Nat.le_of_ble_eq_true rfl) hn) dX12_isOfEmpty_73 hg_60 (by decide) ?_
                    obtain ⟨hg_61, hM⟩ := gd_some hM
                    refine gi_if_eq (tgt := 32) hx hb dX12_isOfEmpty_74 (by decide) hg_61 (fun c_62 => ?_) (fun c_62 => ?_)
                    · replace hM := ifp hM c_62
                      exact ih_50 x_59 H locs ls hM hG (lv_sub hl [0, 1, 2, 3] rfl)
                    · replace hM := ifn hM c_62
                      cases hM
                      exact hK_33 H locs ls rfl hG (lv_sub hl [] rfl)
              exact loop_49 FU v_16 H locs ls hc_32 hG (lv_sub hl [0, 1, 2, 3] rfl)
        exact loop_24 FU x_15 H locs ls hc_18 hG (lv_sub hl [0, 1, 2] rfl)
  exact loop_9 FU x_2 H locs ls hc_5 hG (lv_sub hl [0, 1] rfl)
def RX12_isOfEmpty : Nat → Nat → Int → St → Option (Int)
  | 0, _, _, _ => none
  | f + 1, t, x1, S0 => if t = 0 then (bX12_isOfEmpty (RX12_isOfEmpty f) S0 x1) else (none)
set_option maxHeartbeats 4000000 in
theorem vRX12_isOfEmpty (l : Launch) {D : va_G} {cy : Nat → ClassId} {b n : Nat} (hn : 102 ≤ n) {X : Nat → va_E} : ∀ f : Nat, (∀ (S0 : St) (a1 : Int) (o1 : Int), RX12_isOfEmpty f 0 a1 S0 = some o1 → gI l yX12_isOfEmpty cX12_isOfEmpty 5 (some .boolean) (1 + f) 0 0 D cy b n (enc b cy X S0) [.ref (b + 80), .int (iI a1)] (fun r u => r = iI o1 ∧ u = (n, enc b cy X S0))) := by
  intro f
  induction f with
  | zero =>
    skip
    all_goals
      intros; rename_i hM; rw [RX12_isOfEmpty] at hM; cases hM
  | succ f ih =>
    have hr0 := ih
    · intro S0 a1 o1 hM
      rw [RX12_isOfEmpty] at hM
      replace hM := ifp hM rfl
      exact spX12_isOfEmpty l hn (RX12_isOfEmpty f) (1 + f) (Nat.le_add_right _ _) hr0 S0 a1 _ hM
def mX12_isOfEmpty (S0 : St) (a1 : Int) : Option (Int) := RX12_isOfEmpty 16 0 a1 S0
theorem vX12_isOfEmpty (l : Launch) {D : va_G} {cy : Nat → ClassId} {b n : Nat} (hn : 102 ≤ n) {X : Nat → va_E} {S0 : St} (a1 : Int) {o1 : Int} (hM : mX12_isOfEmpty S0 a1 = some o1) : gI l yX12_isOfEmpty cX12_isOfEmpty 5 (some .boolean) 17 0 0 D cy b n (enc b cy X S0) [.ref (b + 80), .int (iI a1)] (fun r u => r = iI o1 ∧ u = (n, enc b cy X S0)) := by
  unfold mX12_isOfEmpty at hM
  exact (vRX12_isOfEmpty l hn 16) S0 a1 _ hM
def mX12_wrongKind_33 (S_2 : St) (v_16 : Int) (v_3 : Int) : Nat → Int → Int → Option (Int)
  | 0, _, _ => none
  | f + 1, v_34, v_35 => gd (inI v_34) <| if (S_2 84 0) ≤ v_34 then (some (v_35)) else (bd1 (mX12_has v_35 v_34) fun r_45 => gd (inI r_45) <| if r_45 = 0 then (nx (orr v_35 0) fun x_48 => mX12_wrongKind_33 S_2 v_16 v_3 f (v_34 + 1) x_48) else (bd1 (mX12_leansOf S_2 v_34) fun r_50 => nx (orr v_35 r_50) fun x_51 => mX12_wrongKind_33 S_2 v_16 v_3 f (v_34 + 1) x_51))
def mX12_wrongKind_24 (S_2 : St) (v_3 : Int) : Nat → Int → Int → Option (Int)
  | 0, _, _ => none
  | f + 1, v_16, v_17 => gd (inI v_16) <| if 6 ≤ v_16 then (some (v_17)) else (bd1 (mX12_wrongKind_33 S_2 v_16 v_3 FU 0 v_17) fun y_36 => mX12_wrongKind_24 S_2 v_3 f (v_16 + 1) y_36)
def mX12_wrongKind_6 (S_2 : St)  : Nat → Int → Option (Int × Int)
  | 0, _ => none
  | f + 1, v_3 => gd ((inI v_3) ∧ (inI (S_2 84 0))) <| if (S_2 84 0) ≤ v_3 then (some (1, v_3)) else (bd1 (mX12_leansOf S_2 v_3) fun r_15 => bd1 (mX12_wrongKind_24 S_2 v_3 FU 0 r_15) fun y_18 => bd1 (mX12_has y_18 v_3) fun r_22 => gd (inI r_22) <| if r_22 = 0 then (bd1 (mX12_isOfEmpty S_2 v_3) fun r_26 => gd (inI r_26) <| if r_26 = 0 then (mX12_wrongKind_6 S_2 f (v_3 + 1)) else (some (0, v_3))) else (some (0, v_3)))
def mX12_wrongKind (S0 : St)  : Option (Int × St) := bd1 (mX12_empties S0) fun S_2 => bd2 (mX12_wrongKind_6 S_2 FU 0) fun t_4 y_5 => if t_4 = 0 then (some (y_5, S_2)) else (some ((-1), S_2))
set_option maxHeartbeats 4000000 in
set_option maxRecDepth 100000 in
theorem vX12_wrongKind (l : Launch) {D : va_G} {cy : Nat → ClassId} {b n : Nat} (hn : 102 ≤ n) {X : Nat → va_E} {S0 : St}  {o1 : Int} {o2 : St} (hM : mX12_wrongKind S0  = some (o1, o2)) : gI l yX12_wrongKind cX12_wrongKind 5 (some .int) 27 0 0 D cy b n (enc b cy X S0) [.ref (b + 80)] (fun r u => r = iI o1 ∧ u = (n, enc b cy X o2)) := by
  refine gI_of (by decide) (Nat.le_of_ble_eq_true rfl) ?_
  intro p e s m args below meth c S hr hlk hin hsz ls hl hG
  have hx := S.1
  have hb := S.2.1
  have hl : lv_has ls 5 [(0, .ref (b + 80))] := hl
  replace hG : gW D cy b n s s.heap [] (enc b cy X S0) := hG
  obtain ⟨H, eH⟩ : ∃ H, H = s.heap := ⟨_, rfl⟩
  obtain ⟨locs, elocs⟩ : ∃ locs : List Loc, locs = [] := ⟨_, rfl⟩
  rw [← eH, ← elocs] at hG
  rw [← eH, ← elocs]
  clear eH elocs
  unfold mX12_wrongKind at hM
  refine lv_aload_n hx hb dX12_wrongKind_0 rfl (lv_at hl 0 rfl) ?_
  obtain ⟨S_2, hc_1, hM⟩ := bd1_some hM
  refine g_vv (As := []) (rest := []) S hG hsz (vX12_empties l hn  hc_1) wV_12_262 (ec_83 _) cpX12 (Nat.lt_of_lt_of_le (Nat.le_of_ble_eq_true rfl) hn) dX12_wrongKind_1 rfl hl.1 (ar := 0) (by decide +kernel) rfl ⟨Nat.le_of_ble_eq_true rfl, Nat.le_of_ble_eq_true rfl, Nat.le_of_ble_eq_true rfl, Nat.le_of_ble_eq_true rfl⟩ (Nat.le_of_ble_eq_true rfl) (fun uu H locs hp hG => ?_)
  obtain rfl := hp
  replace hG : gW D cy b n s H locs (enc b cy X S_2) := hG
  refine lv_iconst (v := iI 0) hx hb dX12_wrongKind_4 (by decide) ?_
  refine lv_istore_n (lv' := [(1, .int (iI 0)), (0, .ref (b + 80))]) hx hb dX12_wrongKind_5 rfl hl (by decide) rfl (fun ls hl => ?_)
  obtain ⟨t_4, y_5, hc_6, hM⟩ := bd2_some hM
  have hK_7 : ∀ (H : Heap) (locs : List Loc) (ls : Array Slot), t_4 = 0 → gW D cy b n s H locs (enc b cy X S_2) → lv_has ls 5 [(1, .int (iI y_5))] → W p l e (gRm 27 0 0) s m args below meth c H locs 0 0 (gQI D cy b s args below 0 0 (fun r u => r = iI o1 ∧ u = (n, enc b cy X o2))) (F0 m 94 ls []) := by
    intro H locs ls ht hG hl
    subst ht
    replace hM := ifp hM rfl
    refine lv_iload_n hx hb dX12_wrongKind_94 rfl (lv_at hl 0 rfl) ?_
    cases hM
    exact g_iret S hr hlk hG hsz dX12_wrongKind_95 ⟨Nat.le_of_ble_eq_true rfl, Nat.le_of_ble_eq_true rfl⟩ ⟨rfl, rfl⟩
  have hK_8 : ∀ (H : Heap) (locs : List Loc) (ls : Array Slot), t_4 = 1 → gW D cy b n s H locs (enc b cy X S_2) → lv_has ls 5 [] → W p l e (gRm 27 0 0) s m args below meth c H locs 0 0 (gQI D cy b s args below 0 0 (fun r u => r = iI o1 ∧ u = (n, enc b cy X o2))) (F0 m 102 ls []) := by
    intro H locs ls ht hG hl
    subst ht
    replace hM := ifn hM (by decide)
    refine lv_iconst (v := iI (-1)) hx hb dX12_wrongKind_102 (by decide) ?_
    cases hM
    exact g_iret S hr hlk hG hsz dX12_wrongKind_103 ⟨Nat.le_of_ble_eq_true rfl, Nat.le_of_ble_eq_true rfl⟩ ⟨rfl, rfl⟩
  have loop_9 : ∀ (f : Nat) (v_3 : Int) (H : Heap) (locs : List Loc) (ls : Array Slot), mX12_wrongKind_6 S_2 f v_3 = some (t_4, y_5) → gW D cy b n s H locs (enc b cy X S_2) → lv_has ls 5 [(1, .int (iI v_3)), (0, .ref (b + 80))] → W p l e (gRm 27 0 0) s m args below meth c H locs 0 0 (gQI D cy b s args below 0 0 (fun r u => r = iI o1 ∧ u = (n, enc b cy X o2))) (F0 m 6 ls []) := by
    clear hM
    intro f
    induction f with
    | zero => intro v_3 H locs ls hM; rw [mX12_wrongKind_6] at hM; cases hM
    | succ f_11 ih_10 =>
      intro v_3 H locs ls hM hG hl
      rw [mX12_wrongKind_6] at hM
      refine lv_iload_n hx hb dX12_wrongKind_6 rfl (lv_at hl 0 rfl) ?_
      refine lv_aload_n hx hb dX12_wrongKind_7 rfl (lv_at hl 1 rfl) ?_
      refine m_get S hG 80 83 0 rfl ec_83 cpX12 wm_1673 dX12_wrongKind_8 rfl (Nat.lt_of_lt_of_le (Nat.le_of_ble_eq_true rfl) hn) (by decide) ?_
      refine lv_iconst (v := iI 0) hx hb dX12_wrongKind_11 (by decide) ?_
      refine mi_ald S hG 81 84 rfl ec_84 (Nat.lt_of_lt_of_le (Nat.le_of_ble_eq_true rfl) hn) dX12_wrongKind_12 (by decide) (by decide) ?_
      obtain ⟨hg_12, hM⟩ := gd_some hM
      refine gi_icmp_ge (tgt := 102) hx hb dX12_wrongKind_13 (by decide) hg_12.1 hg_12.2 (fun c_13 => ?_) (fun c_13 => ?_)
      · replace hM := ifp hM c_13
        cases hM
        exact hK_8 H locs ls rfl hG (lv_sub hl [] rfl)
      · replace hM := ifn hM c_13
        refine lv_aload_n hx hb dX12_wrongKind_16 rfl (lv_at hl 1 rfl) ?_
        refine lv_iload_n hx hb dX12_wrongKind_17 rfl (lv_at hl 0 rfl) ?_
        obtain ⟨r_15, hc_14, hM⟩ := bd1_some hM
        refine g_vi (As := [.int (iI v_3)]) (rest := []) S hG hsz (vX12_leansOf l hn v_3 hc_14) wV_12_256 (ec_83 _) cpX12 (Nat.lt_of_lt_of_le (Nat.le_of_ble_eq_true rfl) hn) dX12_wrongKind_18 rfl hl.1 (ar := 1) (by decide +kernel) rfl ⟨Nat.le_of_ble_eq_true rfl, Nat.le_of_ble_eq_true rfl, Nat.le_of_ble_eq_true rfl, Nat.le_of_ble_eq_true rfl⟩ (Nat.le_of_ble_eq_true rfl) (fun rv uu H locs hp hG => ?_)
        obtain ⟨rfl, rfl⟩ := hp
        replace hG : gW D cy b n s H locs (enc b cy X S_2) := hG
        refine lv_istore_n (lv' := [(2, .int (iI r_15)), (1, .int (iI v_3)), (0, .ref (b + 80))]) hx hb dX12_wrongKind_21 rfl hl (by decide) rfl (fun ls hl => ?_)
        refine lv_iconst (v := iI 0) hx hb dX12_wrongKind_22 (by decide) ?_
        refine lv_istore_n (lv' := [(3, .int (iI 0)), (2, .int (iI r_15)), (1, .int (iI v_3)), (0, .ref (b + 80))]) hx hb dX12_wrongKind_23 rfl hl (by decide) rfl (fun ls hl => ?_)
        obtain ⟨y_18, hc_19, hM⟩ := bd1_some hM
        have hK_20 : ∀ (H : Heap) (locs : List Loc) (ls : Array Slot), gW D cy b n s H locs (enc b cy X S_2) → lv_has ls 5 [(1, .int (iI v_3)), (0, .ref (b + 80)), (2, .int (iI y_18))] → W p l e (gRm 27 0 0) s m args below meth c H locs 0 0 (gQI D cy b s args below 0 0 (fun r u => r = iI o1 ∧ u = (n, enc b cy X o2))) (F0 m 78 ls []) := by
          intro H locs ls hG hl
          refine lv_iload_n hx hb dX12_wrongKind_78 rfl (lv_at hl 2 rfl) ?_
          refine lv_iload_n hx hb dX12_wrongKind_79 rfl (lv_at hl 0 rfl) ?_
          obtain ⟨r_22, hc_21, hM⟩ := bd1_some hM
          refine g_si (As := [.int (iI y_18), .int (iI v_3)]) (rest := []) S hG hsz (vX12_has l hn y_18 v_3 hc_21) wS_12_228 dX12_wrongKind_80 rfl hl.1 (ar := 2) (by decide +kernel) rfl ⟨Nat.le_of_ble_eq_true rfl, Nat.le_of_ble_eq_true rfl, Nat.le_of_ble_eq_true rfl, Nat.le_of_ble_eq_true rfl⟩ (Nat.le_of_ble_eq_true rfl) (fun rv uu H locs hp hG => ?_)
          obtain ⟨rfl, rfl⟩ := hp
          replace hG : gW D cy b n s H locs (enc b cy X S_2) := hG
          obtain ⟨hg_23, hM⟩ := gd_some hM
          refine gi_if_ne (tgt := 94) hx hb dX12_wrongKind_83 (by decide) hg_23 (fun c_24 => ?_) (fun c_24 => ?_)
          · replace hM := ifn hM c_24
            cases hM
            exact hK_7 H locs ls rfl hG (lv_sub hl [0] rfl)
          · replace hM := ifp hM c_24
            refine lv_aload_n hx hb dX12_wrongKind_86 rfl (lv_at hl 1 rfl) ?_
            refine lv_iload_n hx hb dX12_wrongKind_87 rfl (lv_at hl 0 rfl) ?_
            obtain ⟨r_26, hc_25, hM⟩ := bd1_some hM
            refine g_vi (As := [.int (iI v_3)]) (rest := []) S hG hsz (vX12_isOfEmpty l hn v_3 hc_25) wV_12_259 (ec_83 _) cpX12 (Nat.lt_of_lt_of_le (Nat.le_of_ble_eq_true rfl) hn) dX12_wrongKind_88 rfl hl.1 (ar := 1) (by decide +kernel) rfl ⟨Nat.le_of_ble_eq_true rfl, Nat.le_of_ble_eq_true rfl, Nat.le_of_ble_eq_true rfl, Nat.le_of_ble_eq_true rfl⟩ (Nat.le_of_ble_eq_true rfl) (fun rv uu H locs hp hG => ?_)
            obtain ⟨rfl, rfl⟩ := hp
            replace hG : gW D cy b n s H locs (enc b cy X S_2) := hG
            obtain ⟨hg_27, hM⟩ := gd_some hM
            refine gi_if_eq (tgt := 96) hx hb dX12_wrongKind_91 (by decide) hg_27 (fun c_28 => ?_) (fun c_28 => ?_)
            · replace hM := ifp hM c_28
              refine lv_iinc (v := iI (v_3 + 1)) (lv' := [(1, .int (iI (v_3 + 1))), (0, .ref (b + 80)), (2, .int (iI y_18))]) hx hb dX12_wrongKind_96 hl (k := 0) rfl ((iI_add v_3 (1)).trans (congrArg iI (by omega))) (by decide) rfl (fun ls hl => ?_)
              refine lv_goto (tgt := 6) hx hb dX12_wrongKind_99 (by decide) ?_
              exact ih_10 (v_3 + 1) H locs ls hM hG (lv_sub hl [0, 1] rfl)
            · replace hM := ifn hM c_28
              cases hM
              exact hK_7 H locs ls rfl hG (lv_sub hl [0] rfl)
        have loop_29 : ∀ (f : Nat) (v_16 : Int) (v_17 : Int) (H : Heap) (locs : List Loc) (ls : Array Slot), mX12_wrongKind_24 S_2 v_3 f v_16 v_17 = some y_18 → gW D cy b n s H locs (enc b cy X S_2) → lv_has ls 5 [(3, .int (iI v_16)), (2, .int (iI v_17)), (1, .int (iI v_3)), (0, .ref (b + 80))] → W p l e (gRm 27 0 0) s m args below meth c H locs 0 0 (gQI D cy b s args below 0 0 (fun r u => r = iI o1 ∧ u = (n, enc b cy X o2))) (F0 m 24 ls []) := by
          clear hM
          intro f
          induction f with
          | zero => intro v_16 v_17 H locs ls hM; rw [mX12_wrongKind_24] at hM; cases hM
          | succ f_31 ih_30 =>
            intro v_16 v_17 H locs ls hM hG hl
            rw [mX12_wrongKind_24] at hM
            refine lv_iload_n hx hb dX12_wrongKind_24 rfl (lv_at hl 0 rfl) ?_
            refine lv_bipush (v := iI 6) hx hb dX12_wrongKind_25 (by decide) ?_
            obtain ⟨hg_32, hM⟩ := gd_some hM
            refine gi_icmp_ge (tgt := 78) hx hb dX12_wrongKind_27 (by decide) hg_32 (by decide) (fun c_33 => ?_) (fun c_33 => ?_)
            · replace hM := ifp hM c_33
              cases hM
              exact hK_20 H locs ls hG (lv_sub hl [2, 3, 1] rfl)
            · replace hM := ifn hM c_33
              refine lv_iconst (v := iI 0) hx hb dX12_wrongKind_30 (by decide) ?_
              refine lv_istore (lv' := [(4, .int (iI 0)), (3, .int (iI v_16)), (2, .int (iI v_17)), (1, .int (iI v_3)), (0, .ref (b + 80))]) hx hb dX12_wrongKind_31 hl (by decide) rfl (fun ls hl => ?_)
              obtain ⟨y_36, hc_37, hM⟩ := bd1_some hM
              have hK_38 : ∀ (H : Heap) (locs : List Loc) (ls : Array Slot), gW D cy b n s H locs (enc b cy X S_2) → lv_has ls 5 [(3, .int (iI v_16)), (1, .int (iI v_3)), (0, .ref (b + 80)), (2, .int (iI y_36))] → W p l e (gRm 27 0 0) s m args below meth c H locs 0 0 (gQI D cy b s args below 0 0 (fun r u => r = iI o1 ∧ u = (n, enc b cy X o2))) (F0 m 72 ls []) := by
                intro H locs ls hG hl
                refine lv_iinc (v := iI (v_16 + 1)) (lv' := [(3, .int (iI (v_16 + 1))), (1, .int (iI v_3)), (0, .ref (b + 80)), (2, .int (iI y_36))]) hx hb dX12_wrongKind_72 hl (k := 0) rfl ((iI_add v_16 (1)).trans (congrArg iI (by omega))) (by decide) rfl (fun ls hl => ?_)
                refine lv_goto (tgt := 24) hx hb dX12_wrongKind_75 (by decide) ?_
                exact ih_30 (v_16 + 1) y_36 H locs ls hM hG (lv_sub hl [0, 3, 1, 2] rfl)
              have loop_39 : ∀ (f : Nat) (v_34 : Int) (v_35 : Int) (H : Heap) (locs : List Loc) (ls : Array Slot), mX12_wrongKind_33 S_2 v_16 v_3 f v_34 v_35 = some y_36 → gW D cy b n s H locs (enc b cy X S_2) → lv_has ls 5 [(4, .int (iI v_34)), (3, .int (iI v_16)), (2, .int (iI v_35)), (1, .int (iI v_3)), (0, .ref (b + 80))] → W p l e (gRm 27 0 0) s m args below meth c H locs 0 0 (gQI D cy b s args below 0 0 (fun r u => r = iI o1 ∧ u = (n, enc b cy X o2))) (F0 m 33 ls []) := by
                clear hM
                intro f
                induction f with
                | zero => intro v_34 v_35 H locs ls hM; rw [mX12_wrongKind_33] at hM; cases hM
                | succ f_41 ih_40 =>
                  intro v_34 v_35 H locs ls hM hG hl
                  rw [mX12_wrongKind_33] at hM
                  refine lv_iload hx hb dX12_wrongKind_33 (lv_at hl 0 rfl) ?_
                  refine lv_aload_n hx hb dX12_wrongKind_35 rfl (lv_at hl 4 rfl) ?_
                  refine m_get S hG 80 83 0 rfl ec_83 cpX12 wm_1673 dX12_wrongKind_36 rfl (Nat.lt_of_lt_of_le (Nat.le_of_ble_eq_true rfl) hn) (by decide) ?_
                  refine lv_iconst (v := iI 0) hx hb dX12_wrongKind_39 (by decide) ?_
                  refine mi_ald S hG 81 84 rfl ec_84 (Nat.lt_of_lt_of_le (Nat.le_of_ble_eq_true rfl) hn) dX12_wrongKind_40 (by decide) (by decide) ?_
                  obtain ⟨hg_42, hM⟩ := gd_some hM
                  refine gi_icmp_ge (tgt := 72) hx hb dX12_wrongKind_41 (by decide) hg_42 hg_12.2 (fun c_43 => ?_) (fun c_43 => ?_)
                  · replace hM := ifp hM c_43
                    cases hM
                    exact hK_38 H locs ls hG (lv_sub hl [1, 3, 4, 2] rfl)
                  · replace hM := ifn hM c_43
                    refine lv_iload_n hx hb dX12_wrongKind_44 rfl (lv_at hl 2 rfl) ?_
                    refine lv_iload_n hx hb dX12_wrongKind_45 rfl (lv_at hl 2 rfl) ?_
                    refine lv_iload hx hb dX12_wrongKind_46 (lv_at hl 0 rfl) ?_
                    obtain ⟨r_45, hc_44, hM⟩ := bd1_some hM
                    refine g_si (As := [.int (iI v_35), .int (iI v_34)]) (rest := [.int (iI v_35)]) S hG hsz (vX12_has l hn v_35 v_34 hc_44) wS_12_228 dX12_wrongKind_48 rfl hl.1 (ar := 2) (by decide +kernel) rfl ⟨Nat.le_of_ble_eq_true rfl, Nat.le_of_ble_eq_true rfl, Nat.le_of_ble_eq_true rfl, Nat.le_of_ble_eq_true rfl⟩ (Nat.le_of_ble_eq_true rfl) (fun rv uu H locs hp hG => ?_)
                    obtain ⟨rfl, rfl⟩ := hp
                    replace hG : gW D cy b n s H locs (enc b cy X S_2) := hG
                    obtain ⟨hg_46, hM⟩ := gd_some hM
                    refine gi_if_eq (tgt := 63) hx hb dX12_wrongKind_51 (by decide) hg_46 (fun c_47 => ?_) (fun c_47 => ?_)
                    · replace hM := ifp hM c_47
                      refine lv_iconst (v := iI 0) hx hb dX12_wrongKind_63 (by decide) ?_
                      refine gi_or hx hb dX12_wrongKind_64 ?_
                      refine gi_nm (fun x_48 ex_48 => ?_)
                      replace hM := nx_at hM ex_48
                      clear ex_48
                      refine lv_istore_n (lv' := [(2, .int (iI x_48)), (4, .int (iI v_34)), (3, .int (iI v_16)), (1, .int (iI v_3)), (0, .ref (b + 80))]) hx hb dX12_wrongKind_65 rfl hl (by decide) rfl (fun ls hl => ?_)
                      refine lv_iinc (v := iI (v_34 + 1)) (lv' := [(4, .int (iI (v_34 + 1))), (2, .int (iI x_48)), (3, .int (iI v_16)), (1, .int (iI v_3)), (0, .ref (b + 80))]) hx hb dX12_wrongKind_66 hl (k := 1) rfl ((iI_add v_34 (1)).trans (congrArg iI (by omega))) (by decide) rfl (fun ls hl => ?_)
                      refine lv_goto (tgt := 33) hx hb dX12_wrongKind_69 (by decide) ?_
                      exact ih_40 (v_34 + 1) x_48 H locs ls hM hG (lv_sub hl [0, 2, 1, 3, 4] rfl)
                    · replace hM := ifn hM c_47
                      refine lv_aload_n hx hb dX12_wrongKind_54 rfl (lv_at hl 4 rfl) ?_
                      refine lv_iload hx hb dX12_wrongKind_55 (lv_at hl 0 rfl) ?_
                      obtain ⟨r_50, hc_49, hM⟩ := bd1_some hM
                      refine g_vi (As := [.int (iI v_34)]) (rest := [.int (iI v_35)]) S hG hsz (vX12_leansOf l hn v_34 hc_49) wV_12_256 (ec_83 _) cpX12 (Nat.lt_of_lt_of_le (Nat.le_of_ble_eq_true rfl) hn) dX12_wrongKind_57 rfl hl.1 (ar := 1) (by decide +kernel) rfl ⟨Nat.le_of_ble_eq_true rfl, Nat.le_of_ble_eq_true rfl, Nat.le_of_ble_eq_true rfl, Nat.le_of_ble_eq_true rfl⟩ (Nat.le_of_ble_eq_true rfl) (fun rv uu H locs hp hG => ?_)
                      obtain ⟨rfl, rfl⟩ := hp
                      replace hG : gW D cy b n s H locs (enc b cy X S_2) := hG
                      refine lv_goto (tgt := 64) hx hb dX12_wrongKind_60 (by decide) ?_
                      refine gi_or hx hb dX12_wrongKind_64 ?_
                      refine gi_nm (fun x_51 ex_51 => ?_)
                      replace hM := nx_at hM ex_51
                      clear ex_51
                      refine lv_istore_n (lv' := [(2, .int (iI x_51)), (4, .int (iI v_34)), (3, .int (iI v_16)), (1, .int (iI v_3)), (0, .ref (b + 80))]) hx hb dX12_wrongKind_65 rfl hl (by decide) rfl (fun ls hl => ?_)
                      refine lv_iinc (v := iI (v_34 + 1)) (lv' := [(4, .int (iI (v_34 + 1))), (2, .int (iI x_51)), (3, .int (iI v_16)), (1, .int (iI v_3)), (0, .ref (b + 80))]) hx hb dX12_wrongKind_66 hl (k := 1) rfl ((iI_add v_34 (1)).trans (congrArg iI (by omega))) (by decide) rfl (fun ls hl => ?_)
                      refine lv_goto (tgt := 33) hx hb dX12_wrongKind_69 (by decide) ?_
                      exact ih_40 (v_34 + 1) x_51 H locs ls hM hG (lv_sub hl [0, 2, 1, 3, 4] rfl)
              exact loop_39 FU 0 v_17 H locs ls hc_37 hG (lv_sub hl [0, 1, 2, 3, 4] rfl)
        exact loop_29 FU 0 r_15 H locs ls hc_19 hG (lv_sub hl [0, 1, 2, 3] rfl)
  exact loop_9 FU 0 H locs ls hc_6 hG (lv_sub hl [0, 1] rfl)
def mX12_leans (S0 : St) (a1 : Int) : Option (Int × St) := bd1 (mX12_isKind S0 a1) fun r_2 => gd (inI r_2) <| if r_2 = 0 then (some ((-2), S0)) else (bd1 (mX12_empties S0) fun S_6 => bd1 (mX12_leansOf S_6 a1) fun r_8 => some (r_8, S_6))
set_option maxHeartbeats 4000000 in
set_option maxRecDepth 100000 in
theorem vX12_leans (l : Launch) {D : va_G} {cy : Nat → ClassId} {b n : Nat} (hn : 102 ≤ n) {X : Nat → va_E} {S0 : St} (a1 : Int) {o1 : Int} {o2 : St} (hM : mX12_leans S0 a1 = some (o1, o2)) : gI l yX12_leans cX12_leans 2 (some .int) 27 0 0 D cy b n (enc b cy X S0) [.ref (b + 80), .int (iI a1)] (fun r u => r = iI o1 ∧ u = (n, enc b cy X o2)) := by
  refine gI_of (by decide) (Nat.le_of_ble_eq_true rfl) ?_
  intro p e s m args below meth c S hr hlk hin hsz ls hl hG
  have hx := S.1
  have hb := S.2.1
  have hl : lv_has ls 2 [(0, .ref (b + 80)), (1, .int (iI a1))] := hl
  replace hG : gW D cy b n s s.heap [] (enc b cy X S0) := hG
  obtain ⟨H, eH⟩ : ∃ H, H = s.heap := ⟨_, rfl⟩
  obtain ⟨locs, elocs⟩ : ∃ locs : List Loc, locs = [] := ⟨_, rfl⟩
  rw [← eH, ← elocs] at hG
  rw [← eH, ← elocs]
  clear eH elocs
  unfold mX12_leans at hM
  refine lv_aload_n hx hb dX12_leans_0 rfl (lv_at hl 0 rfl) ?_
  refine lv_iload_n hx hb dX12_leans_1 rfl (lv_at hl 1 rfl) ?_
  obtain ⟨r_2, hc_1, hM⟩ := bd1_some hM
  refine g_vi (As := [.int (iI a1)]) (rest := []) S hG hsz (vX12_isKind l hn a1 hc_1) wV_12_225 (ec_83 _) cpX12 (Nat.lt_of_lt_of_le (Nat.le_of_ble_eq_true rfl) hn) dX12_leans_2 rfl hl.1 (ar := 1) (by decide +kernel) rfl ⟨Nat.le_of_ble_eq_true rfl, Nat.le_of_ble_eq_true rfl, Nat.le_of_ble_eq_true rfl, Nat.le_of_ble_eq_true rfl⟩ (Nat.le_of_ble_eq_true rfl) (fun rv uu H locs hp hG => ?_)
  obtain ⟨rfl, rfl⟩ := hp
  replace hG : gW D cy b n s H locs (enc b cy X S0) := hG
  obtain ⟨hg_3, hM⟩ := gd_some hM
  refine gi_if_ne (tgt := 11) hx hb dX12_leans_5 (by decide) hg_3 (fun c_4 => ?_) (fun c_4 => ?_)
  · replace hM := ifn hM c_4
    refine lv_aload_n hx hb dX12_leans_11 rfl (lv_at hl 0 rfl) ?_
    obtain ⟨S_6, hc_5, hM⟩ := bd1_some hM
    refine g_vv (As := []) (rest := []) S hG hsz (vX12_empties l hn  hc_5) wV_12_262 (ec_83 _) cpX12 (Nat.lt_of_lt_of_le (Nat.le_of_ble_eq_true rfl) hn) dX12_leans_12 rfl hl.1 (ar := 0) (by decide +kernel) rfl ⟨Nat.le_of_ble_eq_true rfl, Nat.le_of_ble_eq_true rfl, Nat.le_of_ble_eq_true rfl, Nat.le_of_ble_eq_true rfl⟩ (Nat.le_of_ble_eq_true rfl) (fun uu H locs hp hG => ?_)
    obtain rfl := hp
    replace hG : gW D cy b n s H locs (enc b cy X S_6) := hG
    refine lv_aload_n hx hb dX12_leans_15 rfl (lv_at hl 0 rfl) ?_
    refine lv_iload_n hx hb dX12_leans_16 rfl (lv_at hl 1 rfl) ?_
    obtain ⟨r_8, hc_7, hM⟩ := bd1_some hM
    refine g_vi (As := [.int (iI a1)]) (rest := []) S hG hsz (vX12_leansOf l hn a1 hc_7) wV_12_256 (ec_83 _) cpX12 (Nat.lt_of_lt_of_le (Nat.le_of_ble_eq_true rfl) hn) dX12_leans_17 rfl hl.1 (ar := 1) (by decide +kernel) rfl ⟨Nat.le_of_ble_eq_true rfl, Nat.le_of_ble_eq_true rfl, Nat.le_of_ble_eq_true rfl, Nat.le_of_ble_eq_true rfl⟩ (Nat.le_of_ble_eq_true rfl) (fun rv uu H locs hp hG => ?_)
    obtain ⟨rfl, rfl⟩ := hp
    replace hG : gW D cy b n s H locs (enc b cy X S_6) := hG
    cases hM
    exact g_iret S hr hlk hG hsz dX12_leans_20 ⟨Nat.le_of_ble_eq_true rfl, Nat.le_of_ble_eq_true rfl⟩ ⟨rfl, rfl⟩
  · replace hM := ifp hM c_4
    refine lv_bipush (v := iI (-2)) hx hb dX12_leans_8 (by decide) ?_
    cases hM
    exact g_iret S hr hlk hG hsz dX12_leans_10 ⟨Nat.le_of_ble_eq_true rfl, Nat.le_of_ble_eq_true rfl⟩ ⟨rfl, rfl⟩
theorem wS_12_450 : gWS "GrownKindsModel" 450 yX12_less cX12_less 1 (some .int) := ⟨wm_2215, wm_2216, wm_188, wm_2217, by decide +kernel, by decide +kernel⟩
theorem wV_12_453 : gWV "GrownKindsModel" 453 yX12_rowsOf cX12_rowsOf 7 (some .long) := ⟨wm_2218, wm_2220, wm_146, wm_188, wm_2221, by decide +kernel, by decide +kernel⟩
def mX12_rowsOf_26 (rec : Nat → Int → Int → Int → St → Option (Int)) (S0 : St) (a1 : Int) (a2 : Int) (a3 : Int) : Nat → Int → Int → Option (Int)
  | 0, _, _ => none
  | f + 1, v_5, v_6 => gd (inI v_5) <| if a2 < v_5 then (some (v_6)) else (bd1 (mX12_place a1 v_5 0) fun r_16 => gd (0 ≤ r_16 ∧ r_16 < 1920) <| gd (inL (S0 90 r_16)) <| if (S0 90 r_16) ≤ 0 then (mX12_rowsOf_26 rec S0 a1 a2 a3 f (v_5 + 1) v_6) else (bd1 (mX12_place a1 v_5 0) fun r_21 => gd (0 ≤ r_21 ∧ r_21 < 1920) <| bd1 (mX12_less a3) fun r_24 => bd1 (rec 0 a1 (a2 - v_5) r_24 S0) fun r_26 => bd1 (mX12_mul (S0 90 r_21) r_26 1000000000000) fun r_28 => bd1 (mX12_add v_6 r_28 1000000000000) fun r_30 => mX12_rowsOf_26 rec S0 a1 a2 a3 f (v_5 + 1) r_30))
def bX12_rowsOf (rec : Nat → Int → Int → Int → St → Option (Int)) (S0 : St) (a1 : Int) (a2 : Int) (a3 : Int) : Option (Int) := gd (inI a2) <| if a2 = 0 then (gd (inI a3) <| if 0 < a3 then (some (0)) else (some (1))) else (gd (inI a3) <| if a3 = 0 then (some (0)) else (bd1 (mX12_rowsOf_26 rec S0 a1 a2 a3 FU 1 0) fun y_7 => some (y_7)))
set_option maxHeartbeats 4000000 in
set_option maxRecDepth 100000 in
theorem spX12_rowsOf (l : Launch) {D : va_G} {cy : Nat → ClassId} {b n : Nat} (hn : 102 ≤ n) {X : Nat → va_E} (rec : Nat → Int → Int → Int → St → Option (Int)) (d : Nat) (hd : 2 ≤ d) (hr0 : ∀ (S0 : St) (a1 : Int) (a2 : Int) (a3 : Int) (o1 : Int), rec 0 a1 a2 a3 S0 = some o1 → gL l yX12_rowsOf cX12_rowsOf 7 d 0 0 D cy b n (enc b cy X S0) [.ref (b + 80), .int (iI a1), .int (iI a2), .int (iI a3)] (fun r u => r = jJ o1 ∧ u = (n, enc b cy X S0))) (S0 : St) (a1 : Int) (a2 : Int) (a3 : Int) (o1 : Int) (hM : bX12_rowsOf rec S0 a1 a2 a3 = some o1) : gL l yX12_rowsOf cX12_rowsOf 7 (d + 1) 0 0 D cy b n (enc b cy X S0) [.ref (b + 80), .int (iI a1), .int (iI a2), .int (iI a3)] (fun r u => r = jJ o1 ∧ u = (n, enc b cy X S0)) := by
  refine gL_of (by decide) (Nat.le_of_ble_eq_true rfl) ?_
  intro p e s m args below meth c S hr hlk hin hsz ls hl hG
  have hx := S.1
  have hb := S.2.1
  have hl : lv_has ls 7 [(0, .ref (b + 80)), (1, .int (iI a1)), (2, .int (iI a2)), (3, .int (iI a3))] := hl
  replace hG : gW D cy b n s s.heap [] (enc b cy X S0) := hG
  obtain ⟨H, eH⟩ : ∃ H, H = s.heap := ⟨_, rfl⟩
  obtain ⟨locs, elocs⟩ : ∃ locs : List Loc, locs = [] := ⟨_, rfl⟩
  rw [← eH, ← elocs] at hG
  rw [← eH, ← elocs]
  clear eH elocs
  unfold bX12_rowsOf at hM
  refine lv_iload_n hx hb dX12_rowsOf_0 rfl (lv_at hl 2 rfl) ?_
  obtain ⟨hg_1, hM⟩ := gd_some hM
  refine gi_if_ne (tgt := 14) hx hb dX12_rowsOf_1 (by decide) hg_1 (fun c_2 => ?_) (fun c_2 => ?_)
  · replace hM := ifn hM c_2
    refine lv_iload_n hx hb dX12_rowsOf_14 rfl (lv_at hl 3 rfl) ?_
    obtain ⟨hg_3, hM⟩ := gd_some hM
    refine gi_if_ne (tgt := 20) hx hb dX12_rowsOf_15 (by decide) hg_3 (fun c_4 => ?_) (fun c_4 => ?_)
    · replace hM := ifn hM c_4
      refine lv_lconst (v := jJ 0) hx hb dX12_rowsOf_20 (by decide) ?_
      refine lv_lstore (lv' := [(4, .long (jJ 0)), (0, .ref (b + 80)), (1, .int (iI a1)), (2, .int (iI a2)), (3, .int (iI a3))]) hx hb dX12_rowsOf_21 hl (by decide) rfl (fun ls hl => ?_)
      refine lv_iconst (v := iI 1) hx hb dX12_rowsOf_23 (by decide) ?_
      refine lv_istore (lv' := [(6, .int (iI 1)), (4, .long (jJ 0)), (0, .ref (b + 80)), (1, .int (iI a1)), (2, .int (iI a2)), (3, .int (iI a3))]) hx hb dX12_rowsOf_24 hl (by decide) rfl (fun ls hl => ?_)
      obtain ⟨y_7, hc_8, hM⟩ := bd1_some hM
      have hK_9 : ∀ (H : Heap) (locs : List Loc) (ls : Array Slot), gW D cy b n s H locs (enc b cy X S0) → lv_has ls 7 [(4, .long (jJ y_7))] → W p l e (gRm (d + 1) 0 0) s m args below meth c H locs 0 0 (gQL D cy b s args below 0 0 (fun r u => r = jJ o1 ∧ u = (n, enc b cy X S0))) (F0 m 96 ls []) := by
        intro H locs ls hG hl
        refine lv_lload hx hb dX12_rowsOf_96 (lv_at hl 0 rfl) ?_
        cases hM
        exact g_lret S hr hlk hG hsz dX12_rowsOf_98 ⟨Nat.le_of_ble_eq_true rfl, Nat.le_of_ble_eq_true rfl⟩ ⟨rfl, rfl⟩
      have loop_10 : ∀ (f : Nat) (v_5 : Int) (v_6 : Int) (H : Heap) (locs : List Loc) (ls : Array Slot), mX12_rowsOf_26 rec S0 a1 a2 a3 f v_5 v_6 = some y_7 → gW D cy b n s H locs (enc b cy X S0) → lv_has ls 7 [(6, .int (iI v_5)), (4, .long (jJ v_6)), (0, .ref (b + 80)), (1, .int (iI a1)), (2, .int (iI a2)), (3, .int (iI a3))] → W p l e (gRm (d + 1) 0 0) s m args below meth c H locs 0 0 (gQL D cy b s args below 0 0 (fun r u => r = jJ o1 ∧ u = (n, enc b cy X S0))) (F0 m 26 ls []) := by
        clear hM
        intro f
        induction f with
        | zero => intro v_5 v_6 H locs ls hM; rw [mX12_rowsOf_26] at hM; cases hM
        | succ f_12 ih_11 =>
          intro v_5 v_6 H locs ls hM hG hl
          rw [mX12_rowsOf_26] at hM
          refine lv_iload hx hb dX12_rowsOf_26 (lv_at hl 0 rfl) ?_
          refine lv_iload_n hx hb dX12_rowsOf_28 rfl (lv_at hl 4 rfl) ?_
          obtain ⟨hg_13, hM⟩ := gd_some hM
          refine gi_icmp_gt (tgt := 96) hx hb dX12_rowsOf_29 (by decide) hg_13 hg_1 (fun c_14 => ?_) (fun c_14 => ?_)
          · replace hM := ifp hM c_14
            cases hM
            exact hK_9 H locs ls hG (lv_sub hl [1] rfl)
          · replace hM := ifn hM c_14
            refine lv_aload_n hx hb dX12_rowsOf_32 rfl (lv_at hl 2 rfl) ?_
            refine m_get S hG 80 83 14 rfl ec_83 cpX12 wm_1687 dX12_rowsOf_33 rfl (Nat.lt_of_lt_of_le (Nat.le_of_ble_eq_true rfl) hn) (by decide) ?_
            refine lv_iload_n hx hb dX12_rowsOf_36 rfl (lv_at hl 3 rfl) ?_
            refine lv_iload hx hb dX12_rowsOf_37 (lv_at hl 0 rfl) ?_
            refine lv_iconst (v := iI 0) hx hb dX12_rowsOf_39 (by decide) ?_
            obtain ⟨r_16, hc_15, hM⟩ := bd1_some hM
            refine g_si (As := [.int (iI a1), .int (iI v_5), .int (iI 0)]) (rest := [.ref (b + 87)]) S hG hsz (vX12_place l hn a1 v_5 0 hc_15) wS_12_276 dX12_rowsOf_40 rfl hl.1 (ar := 3) (by decide +kernel) rfl (by refine ⟨?_, ?_, ?_, ?_⟩ <;> first | exact Nat.le_of_ble_eq_true rfl | (simp only [gRm]; omega)) (Nat.le_of_ble_eq_true rfl) (fun rv uu H locs hp hG => ?_)
            obtain ⟨rfl, rfl⟩ := hp
            replace hG : gW D cy b n s H locs (enc b cy X S0) := hG
            obtain ⟨hg_17, hM⟩ := gd_some hM
            refine mj_ald S hG 87 90 rfl ec_90 (Nat.lt_of_lt_of_le (Nat.le_of_ble_eq_true rfl) hn) dX12_rowsOf_43 hg_17 (by decide) ?_
            refine lv_lconst (v := jJ 0) hx hb dX12_rowsOf_44 (by decide) ?_
            obtain ⟨hg_18, hM⟩ := gd_some hM
            refine gj_cmp_le (tgt := 90) hx hb dX12_rowsOf_45 dX12_rowsOf_46 (by decide) hg_18 (by decide) (fun c_19 => ?_) (fun c_19 => ?_)
            · replace hM := ifp hM c_19
              refine lv_iinc (v := iI (v_5 + 1)) (lv' := [(6, .int (iI (v_5 + 1))), (4, .long (jJ v_6)), (0, .ref (b + 80)), (1, .int (iI a1)), (2, .int (iI a2)), (3, .int (iI a3))]) hx hb dX12_rowsOf_90 hl (k := 0) rfl ((iI_add v_5 (1)).trans (congrArg iI (by omega))) (by decide) rfl (fun ls hl => ?_)
              refine lv_goto (tgt := 26) hx hb dX12_rowsOf_93 (by decide) ?_
              exact ih_11 (v_5 + 1) v_6 H locs ls hM hG (lv_sub hl [0, 1, 2, 3, 4, 5] rfl)
            · replace hM := ifn hM c_19
              refine lv_lload hx hb dX12_rowsOf_49 (lv_at hl 1 rfl) ?_
              refine lv_aload_n hx hb dX12_rowsOf_51 rfl (lv_at hl 2 rfl) ?_
              refine m_get S hG 80 83 14 rfl ec_83 cpX12 wm_1687 dX12_rowsOf_52 rfl (Nat.lt_of_lt_of_le (Nat.le_of_ble_eq_true rfl) hn) (by decide) ?_
              refine lv_iload_n hx hb dX12_rowsOf_55 rfl (lv_at hl 3 rfl) ?_
              refine lv_iload hx hb dX12_rowsOf_56 (lv_at hl 0 rfl) ?_
              refine lv_iconst (v := iI 0) hx hb dX12_rowsOf_58 (by decide) ?_
              obtain ⟨r_21, hc_20, hM⟩ := bd1_some hM
              refine g_si (As := [.int (iI a1), .int (iI v_5), .int (iI 0)]) (rest := [.ref (b + 87), .long (jJ v_6)]) S hG hsz (vX12_place l hn a1 v_5 0 hc_20) wS_12_276 dX12_rowsOf_59 rfl hl.1 (ar := 3) (by decide +kernel) rfl (by refine ⟨?_, ?_, ?_, ?_⟩ <;> first | exact Nat.le_of_ble_eq_true rfl | (simp only [gRm]; omega)) (Nat.le_of_ble_eq_true rfl) (fun rv uu H locs hp hG => ?_)
              obtain ⟨rfl, rfl⟩ := hp
              replace hG : gW D cy b n s H locs (enc b cy X S0) := hG
              obtain ⟨hg_22, hM⟩ := gd_some hM
              refine mj_ald S hG 87 90 rfl ec_90 (Nat.lt_of_lt_of_le (Nat.le_of_ble_eq_true rfl) hn) dX12_rowsOf_62 hg_22 (by decide) ?_
              refine lv_aload_n hx hb dX12_rowsOf_63 rfl (lv_at hl 2 rfl) ?_
              refine lv_iload_n hx hb dX12_rowsOf_64 rfl (lv_at hl 3 rfl) ?_
              refine lv_iload_n hx hb dX12_rowsOf_65 rfl (lv_at hl 4 rfl) ?_
              refine lv_iload hx hb dX12_rowsOf_66 (lv_at hl 0 rfl) ?_
              refine gi_sub hx hb dX12_rowsOf_68 ?_
              refine lv_iload_n hx hb dX12_rowsOf_69 rfl (lv_at hl 5 rfl) ?_
              obtain ⟨r_24, hc_23, hM⟩ := bd1_some hM
              refine g_si (As := [.int (iI a3)]) (rest := [.int (iI (a2 - v_5)), .int (iI a1), .ref (b + 80), .long (jJ (S0 90 r_21)), .long (jJ v_6)]) S hG hsz (vX12_less l hn a3 hc_23) wS_12_450 dX12_rowsOf_70 rfl hl.1 (ar := 1) (by decide +kernel) rfl (by refine ⟨?_, ?_, ?_, ?_⟩ <;> first | exact Nat.le_of_ble_eq_true rfl | (simp only [gRm]; omega)) (Nat.le_of_ble_eq_true rfl) (fun rv uu H locs hp hG => ?_)
              obtain ⟨rfl, rfl⟩ := hp
              replace hG : gW D cy b n s H locs (enc b cy X S0) := hG
              obtain ⟨r_26, hc_25, hM⟩ := bd1_some hM
              refine g_vl (As := [.int (iI a1), .int (iI (a2 - v_5)), .int (iI r_24)]) (rest := [.long (jJ (S0 90 r_21)), .long (jJ v_6)]) S hG hsz (hr0 _ a1 (a2 - v_5) r_24 _ hc_25) wV_12_453 (ec_83 _) cpX12 (Nat.lt_of_lt_of_le (Nat.le_of_ble_eq_true rfl) hn) dX12_rowsOf_73 rfl hl.1 (ar := 3) (by decide +kernel) rfl (by refine ⟨?_, ?_, ?_, ?_⟩ <;> first | exact Nat.le_of_ble_eq_true rfl | (simp only [gRm]; omega)) (Nat.le_of_ble_eq_true rfl) (fun rv uu H locs hp hG => ?_)
              obtain ⟨rfl, rfl⟩ := hp
              replace hG : gW D cy b n s H locs (enc b cy X S0) := hG
              refine lv_ldc2 (v := 1000000000000) hx hb S.2.2.2.1 (S.2.2.2.2 _ wm_2044) dX12_rowsOf_76 ?_
              refine gj_as 1000000000000 (by decide) ?_
              obtain ⟨r_28, hc_27, hM⟩ := bd1_some hM
              refine g_sl (As := [.long (jJ (S0 90 r_21)), .long (jJ r_26), .long (jJ 1000000000000)]) (rest := [.long (jJ v_6)]) S hG hsz (vX12_mul l hn (S0 90 r_21) r_26 1000000000000 hc_27) wS_12_286 dX12_rowsOf_79 rfl hl.1 (ar := 3) (by decide +kernel) rfl (by refine ⟨?_, ?_, ?_, ?_⟩ <;> first | exact Nat.le_of_ble_eq_true rfl | (simp only [gRm]; omega)) (Nat.le_of_ble_eq_true rfl) (fun rv uu H locs hp hG => ?_)
              obtain ⟨rfl, rfl⟩ := hp
              replace hG : gW D cy b n s H locs (enc b cy X S0) := hG
              refine lv_ldc2 (v := 1000000000000) hx hb S.2.2.2.1 (S.2.2.2.2 _ wm_2044) dX12_rowsOf_82 ?_
              refine gj_as 1000000000000 (by decide) ?_
              obtain ⟨r_30, hc_29, hM⟩ := bd1_some hM
              refine g_sl (As := [.long (jJ v_6), .long (jJ r_28), .long (jJ 1000000000000)]) (rest := []) S hG hsz (vX12_add l hn v_6 r_28 1000000000000 hc_29) wS_12_282 dX12_rowsOf_85 rfl hl.1 (ar := 3) (by decide +kernel) rfl (by refine ⟨?_, ?_, ?_, ?_⟩ <;> first | exact Nat.le_of_ble_eq_true rfl | (simp only [gRm]; omega)) (Nat.le_of_ble_eq_true rfl) (fun rv uu H locs hp hG => ?_)
              obtain ⟨rfl, rfl⟩ := hp
              replace hG : gW D cy b n s H locs (enc b cy X S0) := hG
              refine lv_lstore (lv' := [(4, .long (jJ r_30)), (6, .int (iI v_5)), (0, .ref (b + 80)), (1, .int (iI a1)), (2, .int (iI a2)), (3, .int (iI a3))]) hx hb dX12_rowsOf_88 hl (by decide) rfl (fun ls hl => ?_)
              refine lv_iinc (v := iI (v_5 + 1)) (lv' := [(6, .int (iI (v_5 + 1))), (4, .long (jJ r_30)), (0, .ref (b + 80)), (1, .int (iI a1)), (2, .int (iI a2)), (3, .int (iI a3))]) hx hb dX12_rowsOf_90 hl (k := 1) rfl ((iI_add v_5 (1)).trans (congrArg iI (by omega))) (by decide) rfl (fun ls hl => ?_)
              refine lv_goto (tgt := 26) hx hb dX12_rowsOf_93 (by decide) ?_
              exact ih_11 (v_5 + 1) r_30 H locs ls hM hG (lv_sub hl [0, 1, 2, 3, 4, 5] rfl)
      exact loop_10 FU 1 0 H locs ls hc_8 hG (lv_sub hl [0, 1, 2, 3, 4, 5] rfl)
    · replace hM := ifp hM c_4
      refine lv_lconst (v := jJ 0) hx hb dX12_rowsOf_18 (by decide) ?_
      cases hM
      exact g_lret S hr hlk hG hsz dX12_rowsOf_19 ⟨Nat.le_of_ble_eq_true rfl, Nat.le_of_ble_eq_true rfl⟩ ⟨rfl, rfl⟩
  · replace hM := ifp hM c_2
    refine lv_iload_n hx hb dX12_rowsOf_4 rfl (lv_at hl 3 rfl) ?_
    obtain ⟨hg_31, hM⟩ := gd_some hM
    refine gi_if_gt (tgt := 12) hx hb dX12_rowsOf_5 (by decide) hg_31 (fun c_32 => ?_) (fun c_32 => ?_)
    · replace hM := ifp hM c_32
      refine lv_lconst (v := jJ 0) hx hb dX12_rowsOf_12 (by decide) ?_
      cases hM
      exact g_lret S hr hlk hG hsz dX12_rowsOf_13 ⟨Nat.le_of_ble_eq_true rfl, Nat.le_of_ble_eq_true rfl⟩ ⟨rfl, rfl⟩
    · replace hM := ifn hM c_32
      refine lv_lconst (v := jJ 1) hx hb dX12_rowsOf_8 (by decide) ?_
      refine lv_goto (tgt := 13) hx hb dX12_rowsOf_9 (by decide) ?_
      cases hM
      exact g_lret S hr hlk hG hsz dX12_rowsOf_13 ⟨Nat.le_of_ble_eq_true rfl, Nat.le_of_ble_eq_true rfl⟩ ⟨rfl, rfl⟩
def RX12_rowsOf : Nat → Nat → Int → Int → Int → St → Option (Int)
  | 0, _, _, _, _, _ => none
  | f + 1, t, x1, x2, x3, S0 => if t = 0 then (bX12_rowsOf (RX12_rowsOf f) S0 x1 x2 x3) else (none)
set_option maxHeartbeats 4000000 in
theorem vRX12_rowsOf (l : Launch) {D : va_G} {cy : Nat → ClassId} {b n : Nat} (hn : 102 ≤ n) {X : Nat → va_E} : ∀ f : Nat, (∀ (S0 : St) (a1 : Int) (a2 : Int) (a3 : Int) (o1 : Int), RX12_rowsOf f 0 a1 a2 a3 S0 = some o1 → gL l yX12_rowsOf cX12_rowsOf 7 (2 + f) 0 0 D cy b n (enc b cy X S0) [.ref (b + 80), .int (iI a1), .int (iI a2), .int (iI a3)] (fun r u => r = jJ o1 ∧ u = (n, enc b cy X S0))) := by
  intro f
  induction f with
  | zero =>
    skip
    all_goals
      intros; rename_i hM; rw [RX12_rowsOf] at hM; cases hM
  | succ f ih =>
    have hr0 := ih
    · intro S0 a1 a2 a3 o1 hM
      rw [RX12_rowsOf] at hM
      replace hM := ifp hM rfl
      exact spX12_rowsOf l hn (RX12_rowsOf f) (2 + f) (Nat.le_add_right _ _) hr0 S0 a1 a2 a3 _ hM
def mX12_rowsOf (S0 : St) (a1 : Int) (a2 : Int) (a3 : Int) : Option (Int) := RX12_rowsOf 12 0 a1 a2 a3 S0
theorem vX12_rowsOf (l : Launch) {D : va_G} {cy : Nat → ClassId} {b n : Nat} (hn : 102 ≤ n) {X : Nat → va_E} {S0 : St} (a1 : Int) (a2 : Int) (a3 : Int) {o1 : Int} (hM : mX12_rowsOf S0 a1 a2 a3 = some o1) : gL l yX12_rowsOf cX12_rowsOf 7 14 0 0 D cy b n (enc b cy X S0) [.ref (b + 80), .int (iI a1), .int (iI a2), .int (iI a3)] (fun r u => r = jJ o1 ∧ u = (n, enc b cy X S0)) := by
  unfold mX12_rowsOf at hM
  exact (vRX12_rowsOf l hn 12) S0 a1 a2 a3 _ hM
theorem wV_12_456 : gWV "GrownKindsModel" 456 yX12_pushes cX12_pushes 3 none := ⟨wm_2222, wm_2224, wm_147, wm_188, wm_2225, by decide +kernel, by decide +kernel⟩
def mX12_findsRow_53 (r_13 : Int) (v_2 : Int) (a1 : Int) : Nat → Int → Int → St → Option (Int × St)
  | 0, _, _, _ => none
  | f + 1, v_21, v_22, S_23 => gd ((inL (S_23 83 32)) ∧ (inL v_21)) <| if (S_23 83 32) < v_21 then (some (v_22, S_23)) else (nx (up S_23 83 32 ((S_23 83 32) - v_21)) fun S_41 => bd1 (mX12_place a1 (v_22 + 1) 0) fun r_43 => gd (0 ≤ r_43 ∧ r_43 < 1920) <| bd1 (mX12_rowsOf S_41 a1 (v_2 - (v_22 + 1)) r_13) fun r_46 => bd1 (mX12_mul (S_41 90 r_43) r_46 1000000000000) fun r_48 => mX12_findsRow_53 r_13 v_2 a1 f r_48 (v_22 + 1) S_41)
def mX12_findsRow_6 (a1 : Int) : Nat → Int → Int → St → Option (St)
  | 0, _, _, _ => none
  | f + 1, v_1, v_2, S_3 => gd (inI v_2) <| if v_2 ≤ 0 then (some (S_3)) else (bd1 (mX12_less v_1) fun r_13 => bd1 (mX12_place a1 1 0) fun r_15 => gd (0 ≤ r_15 ∧ r_15 < 1920) <| bd1 (mX12_rowsOf S_3 a1 (v_2 - 1) r_13) fun r_18 => bd1 (mX12_mul (S_3 90 r_15) r_18 1000000000000) fun r_20 => bd2 (mX12_findsRow_53 r_13 v_2 a1 FU r_20 1 S_3) fun y_24 S_25 => bd1 (mX12_rowsOf S_25 a1 (v_2 - y_24) r_13) fun r_29 => gd ((0 ≤ (S_25 83 32) ∧ (S_25 83 32) ≤ 9223372036854775807) ∧ (0 < r_29 ∧ r_29 ≤ 9223372036854775807)) <| bd1 (mX12_pushes S_25 y_24 ((S_25 83 32) / r_29)) fun S_32 => gd (0 ≤ (S_32 83 32) ∧ (S_32 83 32) ≤ 9223372036854775807) <| nx (up S_32 83 32 ((S_32 83 32) % r_29)) fun S_34 => nx (v_2 - y_24) fun x_35 => mX12_findsRow_6 a1 f r_13 x_35 S_34)
def mX12_findsRow (S0 : St) (a1 : Int) (a2 : Int) (a3 : Int) : Option (St) := bd1 (mX12_findsRow_6 a1 FU a3 a2 S0) fun S_4 => some (S_4)
set_option maxHeartbeats 4000000 in
set_option maxRecDepth 100000 in
theorem vX12_findsRow (l : Launch) {D : va_G} {cy : Nat → ClassId} {b n : Nat} (hn : 102 ≤ n) {X : Nat → va_E} {S0 : St} (a1 : Int) (a2 : Int) (a3 : Int) {o1 : St} (hM : mX12_findsRow S0 a1 a2 a3 = some o1) : gV l yX12_findsRow cX12_findsRow 11 15 0 0 D cy b n (enc b cy X S0) [.ref (b + 80), .int (iI a1), .int (iI a2), .int (iI a3)] (fun u => u = (n, enc b cy X o1)) := by
  refine gV_of (by decide) (Nat.le_of_ble_eq_true rfl) ?_
  intro p e s m args below meth c S hr hlk hin hsz ls hl hG
  have hx := S.1
  have hb := S.2.1
  have hl : lv_has ls 11 [(0, .ref (b + 80)), (1, .int (iI a1)), (2, .int (iI a2)), (3, .int (iI a3))] := hl
  replace hG : gW D cy b n s s.heap [] (enc b cy X S0) := hG
  obtain ⟨H, eH⟩ : ∃ H, H = s.heap := ⟨_, rfl⟩
  obtain ⟨locs, elocs⟩ : ∃ locs : List Loc, locs = [] := ⟨_, rfl⟩
  rw [← eH, ← elocs] at hG
  rw [← eH, ← elocs]
  clear eH elocs
  unfold mX12_findsRow at hM
  refine lv_iload_n hx hb dX12_findsRow_0 rfl (lv_at hl 2 rfl) ?_
  refine lv_istore (lv' := [(4, .int (iI a2)), (0, .ref (b + 80)), (1, .int (iI a1)), (2, .int (iI a2)), (3, .int (iI a3))]) hx hb dX12_findsRow_1 hl (by decide) rfl (fun ls hl => ?_)
  refine lv_iload_n hx hb dX12_findsRow_3 rfl (lv_at hl 4 rfl) ?_
  refine lv_istore (lv' := [(5, .int (iI a3)), (4, .int (iI a2)), (0, .ref (b + 80)), (1, .int (iI a1)), (2, .int (iI a2)), (3, .int (iI a3))]) hx hb dX12_findsRow_4 hl (by decide) rfl (fun ls hl => ?_)
  obtain ⟨S_4, hc_5, hM⟩ := bd1_some hM
  have hK_6 : ∀ (H : Heap) (locs : List Loc) (ls : Array Slot), gW D cy b n s H locs (enc b cy X S_4) → lv_has ls 11 [] → W p l e (gRm 15 0 0) s m args below meth c H locs 0 0 (gQV D cy b s args below 0 0 (fun u => u = (n, enc b cy X o1))) (F0 m 161 ls []) := by
    intro H locs ls hG hl
    cases hM
    exact g_vret S hr hlk hG hsz dX12_findsRow_161 ⟨Nat.le_of_ble_eq_true rfl, Nat.le_of_ble_eq_true rfl⟩ rfl
  have loop_7 : ∀ (f : Nat) (v_1 : Int) (v_2 : Int) (S_3 : St) (H : Heap) (locs : List Loc) (ls : Array Slot), mX12_findsRow_6 a1 f v_1 v_2 S_3 = some S_4 → gW D cy b n s H locs (enc b cy X S_3) → lv_has ls 11 [(5, .int (iI v_1)), (4, .int (iI v_2)), (0, .ref (b + 80)), (1, .int (iI a1))] → W p l e (gRm 15 0 0) s m args below meth c H locs 0 0 (gQV D cy b s args below 0 0 (fun u => u = (n, enc b cy X o1))) (F0 m 6 ls []) := by
    clear hM
    intro f
    induction f with
    | zero => intro v_1 v_2 S_3 H locs ls hM; rw [mX12_findsRow_6] at hM; cases hM
    | succ f_9 ih_8 =>
      intro v_1 v_2 S_3 H locs ls hM hG hl
      rw [mX12_findsRow_6] at hM
      refine lv_iload hx hb dX12_findsRow_6 (lv_at hl 1 rfl) ?_
      obtain ⟨hg_10, hM⟩ := gd_some hM
      refine gi_if_le (tgt := 161) hx hb dX12_findsRow_8 (by decide) hg_10 (fun c_11 => ?_) (fun c_11 => ?_)
      · replace hM := ifp hM c_11
        cases hM
        exact hK_6 H locs ls hG (lv_sub hl [] rfl)
      · replace hM := ifn hM c_11
        refine lv_iconst (v := iI 1) hx hb dX12_findsRow_11 (by decide) ?_
        refine lv_istore (lv' := [(6, .int (iI 1)), (5, .int (iI v_1)), (4, .int (iI v_2)), (0, .ref (b + 80)), (1, .int (iI a1))]) hx hb dX12_findsRow_12 hl (by decide) rfl (fun ls hl => ?_)
        refine lv_iload hx hb dX12_findsRow_14 (lv_at hl 1 rfl) ?_
        obtain ⟨r_13, hc_12, hM⟩ := bd1_some hM
        refine g_si (As := [.int (iI v_1)]) (rest := []) S hG hsz (vX12_less l hn v_1 hc_12) wS_12_450 dX12_findsRow_16 rfl hl.1 (ar := 1) (by decide +kernel) rfl ⟨Nat.le_of_ble_eq_true rfl, Nat.le_of_ble_eq_true rfl, Nat.le_of_ble_eq_true rfl, Nat.le_of_ble_eq_true rfl⟩ (Nat.le_of_ble_eq_true rfl) (fun rv uu H locs hp hG => ?_)
        obtain ⟨rfl, rfl⟩ := hp
        replace hG : gW D cy b n s H locs (enc b cy X S_3) := hG
        refine lv_istore (lv' := [(5, .int (iI r_13)), (6, .int (iI 1)), (4, .int (iI v_2)), (0, .ref (b + 80)), (1, .int (iI a1))]) hx hb dX12_findsRow_19 hl (by decide) rfl (fun ls hl => ?_)
        refine lv_aload_n hx hb dX12_findsRow_21 rfl (lv_at hl 3 rfl) ?_
        refine m_get S hG 80 83 14 rfl ec_83 cpX12 wm_1687 dX12_findsRow_22 rfl (Nat.lt_of_lt_of_le (Nat.le_of_ble_eq_true rfl) hn) (by decide) ?_
        refine lv_iload_n hx hb dX12_findsRow_25 rfl (lv_at hl 4 rfl) ?_
        refine lv_iload hx hb dX12_findsRow_26 (lv_at hl 1 rfl) ?_
        refine lv_iconst (v := iI 0) hx hb dX12_findsRow_28 (by decide) ?_
        obtain ⟨r_15, hc_14, hM⟩ := bd1_some hM
        refine g_si (As := [.int (iI a1), .int (iI 1), .int (iI 0)]) (rest := [.ref (b + 87)]) S hG hsz (vX12_place l hn a1 1 0 hc_14) wS_12_276 dX12_findsRow_29 rfl hl.1 (ar := 3) (by decide +kernel) rfl ⟨Nat.le_of_ble_eq_true rfl, Nat.le_of_ble_eq_true rfl, Nat.le_of_ble_eq_true rfl, Nat.le_of_ble_eq_true rfl⟩ (Nat.le_of_ble_eq_true rfl) (fun rv uu H locs hp hG => ?_)
        obtain ⟨rfl, rfl⟩ := hp
        replace hG : gW D cy b n s H locs (enc b cy X S_3) := hG
        obtain ⟨hg_16, hM⟩ := gd_some hM
        refine mj_ald S hG 87 90 rfl ec_90 (Nat.lt_of_lt_of_le (Nat.le_of_ble_eq_true rfl) hn) dX12_findsRow_32 hg_16 (by decide) ?_
        refine lv_aload_n hx hb dX12_findsRow_33 rfl (lv_at hl 3 rfl) ?_
        refine lv_iload_n hx hb dX12_findsRow_34 rfl (lv_at hl 4 rfl) ?_
        refine lv_iload hx hb dX12_findsRow_35 (lv_at hl 2 rfl) ?_
        refine lv_iload hx hb dX12_findsRow_37 (lv_at hl 1 rfl) ?_
        refine gi_sub hx hb dX12_findsRow_39 ?_
        refine lv_iload hx hb dX12_findsRow_40 (lv_at hl 0 rfl) ?_
        obtain ⟨r_18, hc_17, hM⟩ := bd1_some hM
        refine g_vl (As := [.int (iI a1), .int (iI (v_2 - 1)), .int (iI r_13)]) (rest := [.long (jJ (S_3 90 r_15))]) S hG hsz (vX12_rowsOf l hn a1 (v_2 - 1) r_13 hc_17) wV_12_453 (ec_83 _) cpX12 (Nat.lt_of_lt_of_le (Nat.le_of_ble_eq_true rfl) hn) dX12_findsRow_42 rfl hl.1 (ar := 3) (by decide +kernel) rfl ⟨Nat.le_of_ble_eq_true rfl, Nat.le_of_ble_eq_true rfl, Nat.le_of_ble_eq_true rfl, Nat.le_of_ble_eq_true rfl⟩ (Nat.le_of_ble_eq_true rfl) (fun rv uu H locs hp hG => ?_)
        obtain ⟨rfl, rfl⟩ := hp
        replace hG : gW D cy b n s H locs (enc b cy X S_3) := hG
        refine lv_ldc2 (v := 1000000000000) hx hb S.2.2.2.1 (S.2.2.2.2 _ wm_2044) dX12_findsRow_45 ?_
        refine gj_as 1000000000000 (by decide) ?_
        obtain ⟨r_20, hc_19, hM⟩ := bd1_some hM
        refine g_sl (As := [.long (jJ (S_3 90 r_15)), .long (jJ r_18), .long (jJ 1000000000000)]) (rest := []) S hG hsz (vX12_mul l hn (S_3 90 r_15) r_18 1000000000000 hc_19) wS_12_286 dX12_findsRow_48 rfl hl.1 (ar := 3) (by decide +kernel) rfl ⟨Nat.le_of_ble_eq_true rfl, Nat.le_of_ble_eq_true rfl, Nat.le_of_ble_eq_true rfl, Nat.le_of_ble_eq_true rfl⟩ (Nat.le_of_ble_eq_true rfl) (fun rv uu H locs hp hG => ?_)
        obtain ⟨rfl, rfl⟩ := hp
        replace hG : gW D cy b n s H locs (enc b cy X S_3) := hG
        refine lv_lstore (lv' := [(7, .long (jJ r_20)), (5, .int (iI r_13)), (6, .int (iI 1)), (4, .int (iI v_2)), (0, .ref (b + 80)), (1, .int (iI a1))]) hx hb dX12_findsRow_51 hl (by decide) rfl (fun ls hl => ?_)
        obtain ⟨y_24, S_25, hc_26, hM⟩ := bd2_some hM
        have hK_27 : ∀ (H : Heap) (locs : List Loc) (ls : Array Slot), gW D cy b n s H locs (enc b cy X S_25) → lv_has ls 11 [(5, .int (iI r_13)), (4, .int (iI v_2)), (0, .ref (b + 80)), (1, .int (iI a1)), (6, .int (iI y_24))] → W p l e (gRm 15 0 0) s m args below meth c H locs 0 0 (gQV D cy b s args below 0 0 (fun u => u = (n, enc b cy X o1))) (F0 m 112 ls []) := by
          intro H locs ls hG hl
          refine lv_aload_n hx hb dX12_findsRow_112 rfl (lv_at hl 2 rfl) ?_
          refine lv_iload_n hx hb dX12_findsRow_113 rfl (lv_at hl 3 rfl) ?_
          refine lv_iload hx hb dX12_findsRow_114 (lv_at hl 1 rfl) ?_
          refine lv_iload hx hb dX12_findsRow_116 (lv_at hl 4 rfl) ?_
          refine gi_sub hx hb dX12_findsRow_118 ?_
          refine lv_iload hx hb dX12_findsRow_119 (lv_at hl 0 rfl) ?_
          obtain ⟨r_29, hc_28, hM⟩ := bd1_some hM
          refine g_vl (As := [.int (iI a1), .int (iI (v_2 - y_24)), .int (iI r_13)]) (rest := []) S hG hsz (vX12_rowsOf l hn a1 (v_2 - y_24) r_13 hc_28) wV_12_453 (ec_83 _) cpX12 (Nat.lt_of_lt_of_le (Nat.le_of_ble_eq_true rfl) hn) dX12_findsRow_121 rfl hl.1 (ar := 3) (by decide +kernel) rfl ⟨Nat.le_of_ble_eq_true rfl, Nat.le_of_ble_eq_true rfl, Nat.le_of_ble_eq_true rfl, Nat.le_of_ble_eq_true rfl⟩ (Nat.le_of_ble_eq_true rfl) (fun rv uu H locs hp hG => ?_)
          obtain ⟨rfl, rfl⟩ := hp
          replace hG : gW D cy b n s H locs (enc b cy X S_25) := hG
          refine lv_lstore (lv' := [(9, .long (jJ r_29)), (5, .int (iI r_13)), (4, .int (iI v_2)), (0, .ref (b + 80)), (1, .int (iI a1)), (6, .int (iI y_24))]) hx hb dX12_findsRow_124 hl (by decide) rfl (fun ls hl => ?_)
          refine lv_aload_n hx hb dX12_findsRow_126 rfl (lv_at hl 3 rfl) ?_
          refine lv_iload hx hb dX12_findsRow_127 (lv_at hl 5 rfl) ?_
          refine lv_aload_n hx hb dX12_findsRow_129 rfl (lv_at hl 3 rfl) ?_
          refine m_get S hG 80 83 32 rfl ec_83 cpX12 wm_1705 dX12_findsRow_130 rfl (Nat.lt_of_lt_of_le (Nat.le_of_ble_eq_true rfl) hn) (by decide) ?_
          refine lv_lload hx hb dX12_findsRow_133 (lv_at hl 0 rfl) ?_
          obtain ⟨hg_30, hM⟩ := gd_some hM
          refine gj_div hx hb dX12_findsRow_135 hg_30.1 hg_30.2 ?_
          refine gj_l2i hx hb dX12_findsRow_136 ?_
          obtain ⟨S_32, hc_31, hM⟩ := bd1_some hM
          refine g_vv (As := [.int (iI y_24), .int (iI ((S_25 83 32) / r_29))]) (rest := []) S hG hsz (vX12_pushes l hn y_24 ((S_25 83 32) / r_29) hc_31) wV_12_456 (ec_83 _) cpX12 (Nat.lt_of_lt_of_le (Nat.le_of_ble_eq_true rfl) hn) dX12_findsRow_137 rfl hl.1 (ar := 2) (by decide +kernel) rfl ⟨Nat.le_of_ble_eq_true rfl, Nat.le_of_ble_eq_true rfl, Nat.le_of_ble_eq_true rfl, Nat.le_of_ble_eq_true rfl⟩ (Nat.le_of_ble_eq_true rfl) (fun uu H locs hp hG => ?_)
          obtain rfl := hp
          replace hG : gW D cy b n s H locs (enc b cy X S_32) := hG
          refine lv_aload_n hx hb dX12_findsRow_140 rfl (lv_at hl 3 rfl) ?_
          refine lv_dup hx hb dX12_findsRow_141 rfl ?_
          refine m_get S hG 80 83 32 rfl ec_83 cpX12 wm_1705 dX12_findsRow_142 rfl (Nat.lt_of_lt_of_le (Nat.le_of_ble_eq_true rfl) hn) (by decide) ?_
          refine lv_lload hx hb dX12_findsRow_145 (lv_at hl 0 rfl) ?_
          obtain ⟨hg_33, hM⟩ := gd_some hM
          refine gj_rem hx hb dX12_findsRow_147 hg_33 hg_30.2 ?_
          refine m_put S hG 80 83 32 rfl 32 ((S_32 83 32) % r_29) ec_83 cpX12 wm_1705 dX12_findsRow_148 (pf_83_32) (Nat.lt_of_lt_of_le (Nat.le_of_ble_eq_true rfl) hn) (by decide) (Nat.le_of_ble_eq_true rfl) rfl rfl rfl (fun H locs S_34 eS_34 hG => ?_)
          replace hM := nx_at hM eS_34
          clear eS_34
          refine lv_iload hx hb dX12_findsRow_151 (lv_at hl 2 rfl) ?_
          refine lv_iload hx hb dX12_findsRow_153 (lv_at hl 5 rfl) ?_
          refine gi_sub hx hb dX12_findsRow_155 ?_
          refine gi_nm (fun x_35 ex_35 => ?_)
          replace hM := nx_at hM ex_35
          clear ex_35
          refine lv_istore (lv' := [(4, .int (iI x_35)), (9, .long (jJ r_29)), (5, .int (iI r_13)), (0, .ref (b + 80)), (1, .int (iI a1)), (6, .int (iI y_24))]) hx hb dX12_findsRow_156 hl (by decide) rfl (fun ls hl => ?_)
          refine lv_goto (tgt := 6) hx hb dX12_findsRow_158 (by decide) ?_
          exact ih_8 r_13 x_35 S_34 H locs ls hM hG (lv_sub hl [2, 0, 3, 4] rfl)
        have loop_36 : ∀ (f : Nat) (v_21 : Int) (v_22 : Int) (S_23 : St) (H : Heap) (locs : List Loc) (ls : Array Slot), mX12_findsRow_53 r_13 v_2 a1 f v_21 v_22 S_23 = some (y_24, S_25) → gW D cy b n s H locs (enc b cy X S_23) → lv_has ls 11 [(7, .long (jJ v_21)), (5, .int (iI r_13)), (6, .int (iI v_22)), (4, .int (iI v_2)), (0, .ref (b + 80)), (1, .int (iI a1))] → W p l e (gRm 15 0 0) s m args below meth c H locs 0 0 (gQV D cy b s args below 0 0 (fun u => u = (n, enc b cy X o1))) (F0 m 53 ls []) := by
          clear hM
          intro f
          induction f with
          | zero => intro v_21 v_22 S_23 H locs ls hM; rw [mX12_findsRow_53] at hM; cases hM
          | succ f_38 ih_37 =>
            intro v_21 v_22 S_23 H locs ls hM hG hl
            rw [mX12_findsRow_53] at hM
            refine lv_aload_n hx hb dX12_findsRow_53 rfl (lv_at hl 4 rfl) ?_
            refine m_get S hG 80 83 32 rfl ec_83 cpX12 wm_1705 dX12_findsRow_54 rfl (Nat.lt_of_lt_of_le (Nat.le_of_ble_eq_true rfl) hn) (by decide) ?_
            refine lv_lload hx hb dX12_findsRow_57 (lv_at hl 0 rfl) ?_
            obtain ⟨hg_39, hM⟩ := gd_some hM
            refine gj_cmp_lt (tgt := 112) hx hb dX12_findsRow_59 dX12_findsRow_60 (by decide) hg_39.1 hg_39.2 (fun c_40 => ?_) (fun c_40 => ?_)
            · replace hM := ifp hM c_40
              cases hM
              exact hK_27 H locs ls hG (lv_sub hl [1, 3, 4, 5, 2] rfl)
            · replace hM := ifn hM c_40
              refine lv_aload_n hx hb dX12_findsRow_63 rfl (lv_at hl 4 rfl) ?_
              refine lv_dup hx hb dX12_findsRow_64 rfl ?_
              refine m_get S hG 80 83 32 rfl ec_83 cpX12 wm_1705 dX12_findsRow_65 rfl (Nat.lt_of_lt_of_le (Nat.le_of_ble_eq_true rfl) hn) (by decide) ?_
              refine lv_lload hx hb dX12_findsRow_68 (lv_at hl 0 rfl) ?_
              refine gj_sub hx hb dX12_findsRow_70 ?_
              refine m_put S hG 80 83 32 rfl 32 ((S_23 83 32) - v_21) ec_83 cpX12 wm_1705 dX12_findsRow_71 (pf_83_32) (Nat.lt_of_lt_of_le (Nat.le_of_ble_eq_true rfl) hn) (by decide) (Nat.le_of_ble_eq_true rfl) rfl rfl rfl (fun H locs S_41 eS_41 hG => ?_)
              replace hM := nx_at hM eS_41
              clear eS_41
              refine lv_iinc (v := iI (v_22 + 1)) (lv' := [(6, .int (iI (v_22 + 1))), (7, .long (jJ v_21)), (5, .int (iI r_13)), (4, .int (iI v_2)), (0, .ref (b + 80)), (1, .int (iI a1))]) hx hb dX12_findsRow_74 hl (k := 2) rfl ((iI_add v_22 (1)).trans (congrArg iI (by omega))) (by decide) rfl (fun ls hl => ?_)
              refine lv_aload_n hx hb dX12_findsRow_77 rfl (lv_at hl 4 rfl) ?_
              refine m_get S hG 80 83 14 rfl ec_83 cpX12 wm_1687 dX12_findsRow_78 rfl (Nat.lt_of_lt_of_le (Nat.le_of_ble_eq_true rfl) hn) (by decide) ?_
              refine lv_iload_n hx hb dX12_findsRow_81 rfl (lv_at hl 5 rfl) ?_
              refine lv_iload hx hb dX12_findsRow_82 (lv_at hl 0 rfl) ?_
              refine lv_iconst (v := iI 0) hx hb dX12_findsRow_84 (by decide) ?_
              obtain ⟨r_43, hc_42, hM⟩ := bd1_some hM
              refine g_si (As := [.int (iI a1), .int (iI (v_22 + 1)), .int (iI 0)]) (rest := [.ref (b + 87)]) S hG hsz (vX12_place l hn a1 (v_22 + 1) 0 hc_42) wS_12_276 dX12_findsRow_85 rfl hl.1 (ar := 3) (by decide +kernel) rfl ⟨Nat.le_of_ble_eq_true rfl, Nat.le_of_ble_eq_true rfl, Nat.le_of_ble_eq_true rfl, Nat.le_of_ble_eq_true rfl⟩ (Nat.le_of_ble_eq_true rfl) (fun rv uu H locs hp hG => ?_)
              obtain ⟨rfl, rfl⟩ := hp
              replace hG : gW D cy b n s H locs (enc b cy X S_41) := hG
              obtain ⟨hg_44, hM⟩ := gd_some hM
              refine mj_ald S hG 87 90 rfl ec_90 (Nat.lt_of_lt_of_le (Nat.le_of_ble_eq_true rfl) hn) dX12_findsRow_88 hg_44 (by decide) ?_
              refine lv_aload_n hx hb dX12_findsRow_89 rfl (lv_at hl 4 rfl) ?_
              refine lv_iload_n hx hb dX12_findsRow_90 rfl (lv_at hl 5 rfl) ?_
              refine lv_iload hx hb dX12_findsRow_91 (lv_at hl 3 rfl) ?_
              refine lv_iload hx hb dX12_findsRow_93 (lv_at hl 0 rfl) ?_
              refine gi_sub hx hb dX12_findsRow_95 ?_
              refine lv_iload hx hb dX12_findsRow_96 (lv_at hl 2 rfl) ?_
              obtain ⟨r_46, hc_45, hM⟩ := bd1_some hM
              refine g_vl (As := [.int (iI a1), .int (iI (v_2 - (v_22 + 1))), .int (iI r_13)]) (rest := [.long (jJ (S_41 90 r_43))]) S hG hsz (vX12_rowsOf l hn a1 (v_2 - (v_22 + 1)) r_13 hc_45) wV_12_453 (ec_83 _) cpX12 (Nat.lt_of_lt_of_le (Nat.le_of_ble_eq_true rfl) hn) dX12_findsRow_98 rfl hl.1 (ar := 3) (by decide +kernel) rfl ⟨Nat.le_of_ble_eq_true rfl, Nat.le_of_ble_eq_true rfl, Nat.le_of_ble_eq_true rfl, Nat.le_of_ble_eq_true rfl⟩ (Nat.le_of_ble_eq_true rfl) (fun rv uu H locs hp hG => ?_)
              obtain ⟨rfl, rfl⟩ := hp
              replace hG : gW D cy b n s H locs (enc b cy X S_41) := hG
              refine lv_ldc2 (v := 1000000000000) hx hb S.2.2.2.1 (S.2.2.2.2 _ wm_2044) dX12_findsRow_101 ?_
              refine gj_as 1000000000000 (by decide) ?_
              obtain ⟨r_48, hc_47, hM⟩ := bd1_some hM
              refine g_sl (As := [.long (jJ (S_41 90 r_43)), .long (jJ r_46), .long (jJ 1000000000000)]) (rest := []) S hG hsz (vX12_mul l hn (S_41 90 r_43) r_46 1000000000000 hc_47) wS_12_286 dX12_findsRow_104 rfl hl.1 (ar := 3) (by decide +kernel) rfl ⟨Nat.le_of_ble_eq_true rfl, Nat.le_of_ble_eq_true rfl, Nat.le_of_ble_eq_true rfl, Nat.le_of_ble_eq_true rfl⟩ (Nat.le_of_ble_eq_true rfl) (fun rv uu H locs hp hG => ?_)
              obtain ⟨rfl, rfl⟩ := hp
              replace hG : gW D cy b n s H locs (enc b cy X S_41) := hG
              refine lv_lstore (lv' := [(7, .long (jJ r_48)), (6, .int (iI (v_22 + 1))), (5, .int (iI r_13)), (4, .int (iI v_2)), (0, .ref (b + 80)), (1, .int (iI a1))]) hx hb dX12_findsRow_107 hl (by decide) rfl (fun ls hl => ?_)
              refine lv_goto (tgt := 53) hx hb dX12_findsRow_109 (by decide) ?_
              exact ih_37 r_48 (v_22 + 1) S_41 H locs ls hM hG (lv_sub hl [0, 2, 1, 3, 4, 5] rfl)
        exact loop_36 FU r_20 1 S_3 H locs ls hc_26 hG (lv_sub hl [0, 1, 2, 3, 4, 5] rfl)
  exact loop_7 FU a3 a2 S0 H locs ls hc_5 hG (lv_sub hl [0, 1, 2, 3] rfl)
theorem wV_12_459 : gWV "GrownKindsModel" 459 yX12_bagsOf cX12_bagsOf 15 (some .long) := ⟨wm_2246, wm_2248, wm_153, wm_188, wm_2249, by decide +kernel, by decide +kernel⟩
def mX12_bagsOf_31 (rec : Nat → Int → Int → Int → Int → Int → Int → St → Option (Int)) (S0 : St) (a1 : Int) (a2 : Int) (a3 : Int) (a4 : Int) (a5 : Int) (a6 : Int) : Nat → Int → Int → Option (Int)
  | 0, _, _ => none
  | f + 1, v_7, v_8 => gd (inI (v_7 * a4)) <| if a2 < (v_7 * a4) then (some (v_8)) else (bd1 (if a3 < 0 then (some (0)) else (gd (inI v_7) <| if a3 < v_7 then (some (1)) else (some (0)))) fun t_17 => if t_17 = 0 then (bd1 (mX12_chosen a5 v_7 a6) fun r_21 => gd (inL r_21) <| if r_21 ≤ 0 then (mX12_bagsOf_31 rec S0 a1 a2 a3 a4 a5 a6 f (v_7 + 1) v_8) else (bd1 (if a4 = 1 then (some (0)) else (bd1 (mX12_place a1 (a4 - 1) 0) fun r_39 => gd (0 ≤ r_39 ∧ r_39 < 1920) <| some ((S0 90 r_39)))) fun z_24 => bd1 (if 0 ≤ a3 then (some ((a3 - v_7))) else (some ((-1)))) fun z_27 => bd1 (rec 0 a1 (a2 - (v_7 * a4)) z_27 (a4 - 1) z_24 a6 S0) fun r_31 => bd1 (mX12_mul r_21 r_31 1000000000000) fun r_33 => bd1 (mX12_add v_8 r_33 1000000000000) fun r_35 => mX12_bagsOf_31 rec S0 a1 a2 a3 a4 a5 a6 f (v_7 + 1) r_35)) else (some (v_8)))
def bX12_bagsOf (rec : Nat → Int → Int → Int → Int → Int → Int → St → Option (Int)) (S0 : St) (a1 : Int) (a2 : Int) (a3 : Int) (a4 : Int) (a5 : Int) (a6 : Int) : Option (Int) := gd (inI a2) <| if a2 = 0 then (gd (inI a3) <| if 0 < a3 then (some (0)) else (some (1))) else (gd (inI a4) <| if a4 = 0 then (some (0)) else (gd (inI a3) <| if a3 = 0 then (some (0)) else (bd1 (mX12_bagsOf_31 rec S0 a1 a2 a3 a4 a5 a6 FU 0 0) fun y_9 => some (y_9))))
set_option maxHeartbeats 4000000 in
set_option maxRecDepth 100000 in
theorem spX12_bagsOf (l : Launch) {D : va_G} {cy : Nat → ClassId} {b n : Nat} (hn : 102 ≤ n) {X : Nat → va_E} (rec : Nat → Int → Int → Int → Int → Int → Int → St → Option (Int)) (d : Nat) (hd : 2 ≤ d) (hr0 : ∀ (S0 : St) (a1 : Int) (a2 : Int) (a3 : Int) (a4 : Int) (a5 : Int) (a6 : Int) (o1 : Int), rec 0 a1 a2 a3 a4 a5 a6 S0 = some o1 → gL l yX12_bagsOf cX12_bagsOf 15 d 0 0 D cy b n (enc b cy X S0) [.ref (b + 80), .int (iI a1), .int (iI a2), .int (iI a3), .int (iI a4), .long (jJ a5), .int (iI a6)] (fun r u => r = jJ o1 ∧ u = (n, enc b cy X S0))) (S0 : St) (a1 : Int) (a2 : Int) (a3 : Int) (a4 : Int) (a5 : Int) (a6 : Int) (o1 : Int) (hM : bX12_bagsOf rec S0 a1 a2 a3 a4 a5 a6 = some o1) : gL l yX12_bagsOf cX12_bagsOf 15 (d + 1) 0 0 D cy b n (enc b cy X S0) [.ref (b + 80), .int (iI a1), .int (iI a2), .int (iI a3), .int (iI a4), .long (jJ a5), .int (iI a6)] (fun r u => r = jJ o1 ∧ u = (n, enc b cy X S0)) := by
  refine gL_of (by decide) (Nat.le_of_ble_eq_true rfl) ?_
  intro p e s m args below meth c S hr hlk hin hsz ls hl hG
  have hx := S.1
  have hb := S.2.1
  have hl : lv_has ls 15 [(0, .ref (b + 80)), (1, .int (iI a1)), (2, .int (iI a2)), (3, .int (iI a3)), (4, .int (iI a4)), (5, .long (jJ a5)), (7, .int (iI a6))] := hl
  replace hG : gW D cy b n s s.heap [] (enc b cy X S0) := hG
  obtain ⟨H, eH⟩ : ∃ H, H = s.heap := ⟨_, rfl⟩
  obtain ⟨locs, elocs⟩ : ∃ locs : List Loc, locs = [] := ⟨_, rfl⟩
  rw [← eH, ← elocs] at hG
  rw [← eH, ← elocs]
  clear eH elocs
  unfold bX12_bagsOf at hM
  refine lv_iload_n hx hb dX12_bagsOf_0 rfl (lv_at hl 2 rfl) ?_
  obtain ⟨hg_1, hM⟩ := gd_some hM
  refine gi_if_ne (tgt := 14) hx hb dX12_bagsOf_1 (by decide) hg_1 (fun c_2 => ?_) (fun c_2 => ?_)
  · replace hM := ifn hM c_2
    refine lv_iload hx hb dX12_bagsOf_14 (lv_at hl 4 rfl) ?_
    obtain ⟨hg_3, hM⟩ := gd_some hM
    refine gi_if_eq (tgt := 23) hx hb dX12_bagsOf_16 (by decide) hg_3 (fun c_4 => ?_) (fun c_4 => ?_)
    · replace hM := ifp hM c_4
      refine lv_lconst (v := jJ 0) hx hb dX12_bagsOf_23 (by decide) ?_
      cases hM
      exact g_lret S hr hlk hG hsz dX12_bagsOf_24 ⟨Nat.le_of_ble_eq_true rfl, Nat.le_of_ble_eq_true rfl⟩ ⟨rfl, rfl⟩
    · replace hM := ifn hM c_4
      refine lv_iload_n hx hb dX12_bagsOf_19 rfl (lv_at hl 3 rfl) ?_
      obtain ⟨hg_5, hM⟩ := gd_some hM
      refine gi_if_ne (tgt := 25) hx hb dX12_bagsOf_20 (by decide) hg_5 (fun c_6 => ?_) (fun c_6 => ?_)
      · replace hM := ifn hM c_6
        refine lv_lconst (v := jJ 0) hx hb dX12_bagsOf_25 (by decide) ?_
        refine lv_lstore (lv' := [(8, .long (jJ 0)), (0, .ref (b + 80)), (1, .int (iI a1)), (2, .int (iI a2)), (3, .int (iI a3)), (4, .int (iI a4)), (5, .long (jJ a5)), (7, .int (iI a6))]) hx hb dX12_bagsOf_26 hl (by decide) rfl (fun ls hl => ?_)
        refine lv_iconst (v := iI 0) hx hb dX12_bagsOf_28 (by decide) ?_
        refine lv_istore (lv' := [(10, .int (iI 0)), (8, .long (jJ 0)), (0, .ref (b + 80)), (1, .int (iI a1)), (2, .int (iI a2)), (3, .int (iI a3)), (4, .int (iI a4)), (5, .long (jJ a5)), (7, .int (iI a6))]) hx hb dX12_bagsOf_29 hl (by decide) rfl (fun ls hl => ?_)
        obtain ⟨y_9, hc_10, hM⟩ := bd1_some hM
        have hK_11 : ∀ (H : Heap) (locs : List Loc) (ls : Array Slot), gW D cy b n s H locs (enc b cy X S0) → lv_has ls 15 [(8, .long (jJ y_9))] → W p l e (gRm (d + 1) 0 0) s m args below meth c H locs 0 0 (gQL D cy b s args below 0 0 (fun r u => r = jJ o1 ∧ u = (n, enc b cy X S0))) (F0 m 150 ls []) := by
          intro H locs ls hG hl
          refine lv_lload hx hb dX12_bagsOf_150 (lv_at hl 0 rfl) ?_
          cases hM
          exact g_lret S hr hlk hG hsz dX12_bagsOf_152 ⟨Nat.le_of_ble_eq_true rfl, Nat.le_of_ble_eq_true rfl⟩ ⟨rfl, rfl⟩
        have loop_12 : ∀ (f : Nat) (v_7 : Int) (v_8 : Int) (H : Heap) (locs : List Loc) (ls : Array Slot), mX12_bagsOf_31 rec S0 a1 a2 a3 a4 a5 a6 f v_7 v_8 = some y_9 → gW D cy b n s H locs (enc b cy X S0) → lv_has ls 15 [(10, .int (iI v_7)), (8, .long (jJ v_8)), (0, .ref (b + 80)), (1, .int (iI a1)), (2, .int (iI a2)), (3, .int (iI a3)), (4, .int (iI a4)), (5, .long (jJ a5)), (7, .int (iI a6))] → W p l e (gRm (d + 1) 0 0) s m args below meth c H locs 0 0 (gQL D cy b s args below 0 0 (fun r u => r = jJ o1 ∧ u = (n, enc b cy X S0))) (F0 m 31 ls []) := by
          clear hM
          intro f
          induction f with
          | zero => intro v_7 v_8 H locs ls hM; rw [mX12_bagsOf_31] at hM; cases hM
          | succ f_14 ih_13 =>
            intro v_7 v_8 H locs ls hM hG hl
            rw [mX12_bagsOf_31] at hM
            refine lv_iload hx hb dX12_bagsOf_31 (lv_at hl 0 rfl) ?_
            refine lv_iload hx hb dX12_bagsOf_33 (lv_at hl 6 rfl) ?_
            refine gi_mul hx hb dX12_bagsOf_35 ?_
            refine lv_iload_n hx hb dX12_bagsOf_36 rfl (lv_at hl 4 rfl) ?_
            obtain ⟨hg_15, hM⟩ := gd_some hM
            refine gi_icmp_gt (tgt := 150) hx hb dX12_bagsOf_37 (by decide) hg_15 hg_1 (fun c_16 => ?_) (fun c_16 => ?_)
            · replace hM := ifp hM c_16
              cases hM
              exact hK_11 H locs ls hG (lv_sub hl [1] rfl)
            · replace hM := ifn hM c_16
              refine lv_iload_n hx hb dX12_bagsOf_40 rfl (lv_at hl 5 rfl) ?_
              obtain ⟨t_17, hc_18, hM⟩ := bd1_some hM
              have hK_19 : ∀ (H : Heap) (locs : List Loc) (ls : Array Slot), t_17 = 0 → gW D cy b n s H locs (enc b cy X S0) → lv_has ls 15 [(10, .int (iI v_7)), (8, .long (jJ v_8)), (0, .ref (b + 80)), (1, .int (iI a1)), (2, .int (iI a2)), (3, .int (iI a3)), (4, .int (iI a4)), (5, .long (jJ a5)), (7, .int (iI a6))] → W p l e (gRm (d + 1) 0 0) s m args below meth c H locs 0 0 (gQL D cy b s args below 0 0 (fun r u => r = jJ o1 ∧ u = (n, enc b cy X S0))) (F0 m 50 ls []) := by
                intro H locs ls ht hG hl
                subst ht
                replace hM := ifp hM rfl
                refine lv_lload hx hb dX12_bagsOf_50 (lv_at hl 7 rfl) ?_
                refine lv_iload hx hb dX12_bagsOf_52 (lv_at hl 0 rfl) ?_
                refine lv_iload hx hb dX12_bagsOf_54 (lv_at hl 8 rfl) ?_
                obtain ⟨r_21, hc_20, hM⟩ := bd1_some hM
                refine g_sl (As := [.long (jJ a5), .int (iI v_7), .int (iI a6)]) (rest := []) S hG hsz (vX12_chosen l hn a5 v_7 a6 hc_20) wS_12_316 dX12_bagsOf_56 rfl hl.1 (ar := 3) (by decide +kernel) rfl (by refine ⟨?_, ?_, ?_, ?_⟩ <;> first | exact Nat.le_of_ble_eq_true rfl | (simp only [gRm]; omega)) (Nat.le_of_ble_eq_true rfl) (fun rv uu H locs hp hG => ?_)
                obtain ⟨rfl, rfl⟩ := hp
                replace hG : gW D cy b n s H locs (enc b cy X S0) := hG
                refine lv_lstore (lv' := [(11, .long (jJ r_21)), (10, .int (iI v_7)), (8, .long (jJ v_8)), (0, .ref (b + 80)), (1, .int (iI a1)), (2, .int (iI a2)), (3, .int (iI a3)), (4, .int (iI a4)), (5, .long (jJ a5)), (7, .int (iI a6))]) hx hb dX12_bagsOf_59 hl (by decide) rfl (fun ls hl => ?_)
                refine lv_lload hx hb dX12_bagsOf_61 (lv_at hl 0 rfl) ?_
                refine lv_lconst (v := jJ 0) hx hb dX12_bagsOf_63 (by decide) ?_
                obtain ⟨hg_22, hM⟩ := gd_some hM
                refine gj_cmp_le (tgt := 144) hx hb dX12_bagsOf_64 dX12_bagsOf_65 (by decide) hg_22 (by decide) (fun c_23 => ?_) (fun c_23 => ?_)
                · replace hM := ifp hM c_23
                  refine lv_iinc (v := iI (v_7 + 1)) (lv' := [(10, .int (iI (v_7 + 1))), (11, .long (jJ r_21)), (8, .long (jJ v_8)), (0, .ref (b + 80)), (1, .int (iI a1)), (2, .int (iI a2)), (3, .int (iI a3)), (4, .int (iI a4)), (5, .long (jJ a5)), (7, .int (iI a6))]) hx hb dX12_bagsOf_144 hl (k := 1) rfl ((iI_add v_7 (1)).trans (congrArg iI (by omega))) (by decide) rfl (fun ls hl => ?_)
                  refine lv_goto (tgt := 31) hx hb dX12_bagsOf_147 (by decide) ?_
                  exact ih_13 (v_7 + 1) v_8 H locs ls hM hG (lv_sub hl [0, 2, 3, 4, 5, 6, 7, 8, 9] rfl)
                · replace hM := ifn hM c_23
                  refine lv_iload hx hb dX12_bagsOf_68 (lv_at hl 7 rfl) ?_
                  refine lv_iconst (v := iI 1) hx hb dX12_bagsOf_70 (by decide) ?_
                  obtain ⟨z_24, hc_25, hM⟩ := bd1_some hM
                  have hK_26 : ∀ (H : Heap) (locs : List Loc) (ls : Array Slot), gW D cy b n s H locs (enc b cy X S0) → lv_has ls 15 [(11, .long (jJ r_21)), (10, .int (iI v_7)), (8, .long (jJ v_8)), (0, .ref (b + 80)), (1, .int (iI a1)), (2, .int (iI a2)), (3, .int (iI a3)), (4, .int (iI a4)), (5, .long (jJ a5)), (7, .int (iI a6))] → W p l e (gRm (d + 1) 0 0) s m args below meth c H locs 0 0 (gQL D cy b s args below 0 0 (fun r u => r = jJ o1 ∧ u = (n, enc b cy X S0))) (F0 m 92 ls [.long (jJ z_24)]) := by
                    intro H locs ls hG hl
                    refine lv_lstore (lv' := [(13, .long (jJ z_24)), (11, .long (jJ r_21)), (10, .int (iI v_7)), (8, .long (jJ v_8)), (0, .ref (b + 80)), (1, .int (iI a1)), (2, .int (iI a2)), (3, .int (iI a3)), (4, .int (iI a4)), (5, .long (jJ a5)), (7, .int (iI a6))]) hx hb dX12_bagsOf_92 hl (by decide) rfl (fun ls hl => ?_)
                    refine lv_lload hx hb dX12_bagsOf_94 (lv_at hl 3 rfl) ?_
                    refine lv_lload hx hb dX12_bagsOf_96 (lv_at hl 1 rfl) ?_
                    refine lv_aload_n hx hb dX12_bagsOf_98 rfl (lv_at hl 4 rfl) ?_
                    refine lv_iload_n hx hb dX12_bagsOf_99 rfl (lv_at hl 5 rfl) ?_
                    refine lv_iload_n hx hb dX12_bagsOf_100 rfl (lv_at hl 6 rfl) ?_
                    refine lv_iload hx hb dX12_bagsOf_101 (lv_at hl 2 rfl) ?_
                    refine lv_iload hx hb dX12_bagsOf_103 (lv_at hl 8 rfl) ?_
                    refine gi_mul hx hb dX12_bagsOf_105 ?_
                    refine gi_sub hx hb dX12_bagsOf_106 ?_
                    refine lv_iload_n hx hb dX12_bagsOf_107 rfl (lv_at hl 7 rfl) ?_
                    obtain ⟨z_27, hc_28, hM⟩ := bd1_some hM
                    have hK_29 : ∀ (H : Heap) (locs : List Loc) (ls : Array Slot), gW D cy b n s H locs (enc b cy X S0) → lv_has ls 15 [(13, .long (jJ z_24)), (10, .int (iI v_7)), (0, .ref (b + 80)), (1, .int (iI a1)), (2, .int (iI a2)), (3, .int (iI a3)), (4, .int (iI a4)), (5, .long (jJ a5)), (7, .int (iI a6))] → W p l e (gRm (d + 1) 0 0) s m args below meth c H locs 0 0 (gQL D cy b s args below 0 0 (fun r u => r = jJ o1 ∧ u = (n, enc b cy X S0))) (F0 m 119 ls [.int (iI z_27), .int (iI (a2 - (v_7 * a4))), .int (iI a1), .ref (b + 80), .long (jJ r_21), .long (jJ v_8)]) := by
                      intro H locs ls hG hl
                      refine lv_iload hx hb dX12_bagsOf_119 (lv_at hl 6 rfl) ?_
                      refine lv_iconst (v := iI 1) hx hb dX12_bagsOf_121 (by decide) ?_
                      refine gi_sub hx hb dX12_bagsOf_122 ?_
                      refine lv_lload hx hb dX12_bagsOf_123 (lv_at hl 0 rfl) ?_
                      refine lv_iload hx hb dX12_bagsOf_125 (lv_at hl 8 rfl) ?_
                      obtain ⟨r_31, hc_30, hM⟩ := bd1_some hM
                      refine g_vl (As := [.int (iI a1), .int (iI (a2 - (v_7 * a4))), .int (iI z_27), .int (iI (a4 - 1)), .long (jJ z_24), .int (iI a6)]) (rest := [.long (jJ r_21), .long (jJ v_8)]) S hG hsz (hr0 _ a1 (a2 - (v_7 * a4)) z_27 (a4 - 1) z_24 a6 _ hc_30) wV_12_459 (ec_83 _) cpX12 (Nat.lt_of_lt_of_le (Nat.le_of_ble_eq_true rfl) hn) dX12_bagsOf_127 rfl hl.1 (ar := 6) (by decide +kernel) rfl (by refine ⟨?_, ?_, ?_, ?_⟩ <;> first | exact Nat.le_of_ble_eq_true rfl | (simp only [gRm]; omega)) (Nat.le_of_ble_eq_true rfl) (fun rv uu H locs hp hG => ?_)
                      obtain ⟨rfl, rfl⟩ := hp
                      replace hG : gW D cy b n s H locs (enc b cy X S0) := hG
                      refine lv_ldc2 (v := 1000000000000) hx hb S.2.2.2.1 (S.2.2.2.2 _ wm_2044) dX12_bagsOf_130 ?_
                      refine gj_as 1000000000000 (by decide) ?_
                      obtain ⟨r_33, hc_32, hM⟩ := bd1_some hM
                      refine g_sl (As := [.long (jJ r_21), .long (jJ r_31), .long (jJ 1000000000000)]) (rest := [.long (jJ v_8)]) S hG hsz (vX12_mul l hn r_21 r_31 1000000000000 hc_32) wS_12_286 dX12_bagsOf_133 rfl hl.1 (ar := 3) (by decide +kernel) rfl (by refine ⟨?_, ?_, ?_, ?_⟩ <;> first | exact Nat.le_of_ble_eq_true rfl | (simp only [gRm]; omega)) (Nat.le_of_ble_eq_true rfl) (fun rv uu H locs hp hG => ?_)
                      obtain ⟨rfl, rfl⟩ := hp
                      replace hG : gW D cy b n s H locs (enc b cy X S0) := hG
                      refine lv_ldc2 (v := 1000000000000) hx hb S.2.2.2.1 (S.2.2.2.2 _ wm_2044) dX12_bagsOf_136 ?_
                      refine gj_as 1000000000000 (by decide) ?_
                      obtain ⟨r_35, hc_34, hM⟩ := bd1_some hM
                      refine g_sl (As := [.long (jJ v_8), .long (jJ r_33), .long (jJ 1000000000000)]) (rest := []) S hG hsz (vX12_add l hn v_8 r_33 1000000000000 hc_34) wS_12_282 dX12_bagsOf_139 rfl hl.1 (ar := 3) (by decide +kernel) rfl (by refine ⟨?_, ?_, ?_, ?_⟩ <;> first | exact Nat.le_of_ble_eq_true rfl | (simp only [gRm]; omega)) (Nat.le_of_ble_eq_true rfl) (fun rv uu H locs hp hG => ?_)
                      obtain ⟨rfl, rfl⟩ := hp
                      replace hG : gW D cy b n s H locs (enc b cy X S0) := hG
                      refine lv_lstore (lv' := [(8, .long (jJ r_35)), (13, .long (jJ z_24)), (10, .int (iI v_7)), (0, .ref (b + 80)), (1, .int (iI a1)), (2, .int (iI a2)), (3, .int (iI a3)), (4, .int (iI a4)), (5, .long (jJ a5)), (7, .int (iI a6))]) hx hb dX12_bagsOf_142 hl (by decide) rfl (fun ls hl => ?_)
                      refine lv_iinc (v := iI (v_7 + 1)) (lv' := [(10, .int (iI (v_7 + 1))), (8, .long (jJ r_35)), (13, .long (jJ z_24)), (0, .ref (b + 80)), (1, .int (iI a1)), (2, .int (iI a2)), (3, .int (iI a3)), (4, .int (iI a4)), (5, .long (jJ a5)), (7, .int (iI a6))]) hx hb dX12_bagsOf_144 hl (k := 2) rfl ((iI_add v_7 (1)).trans (congrArg iI (by omega))) (by decide) rfl (fun ls hl => ?_)
                      refine lv_goto (tgt := 31) hx hb dX12_bagsOf_147 (by decide) ?_
                      exact ih_13 (v_7 + 1) r_35 H locs ls hM hG (lv_sub hl [0, 1, 3, 4, 5, 6, 7, 8, 9] rfl)
                    clear hM
                    replace hM := hc_28
                    refine gi_if_ge (tgt := 115) hx hb dX12_bagsOf_108 (by decide) hg_5 (fun c_36 => ?_) (fun c_36 => ?_)
                    · replace hM := ifp hM c_36
                      refine lv_iload_n hx hb dX12_bagsOf_115 rfl (lv_at hl 7 rfl) ?_
                      refine lv_iload hx hb dX12_bagsOf_116 (lv_at hl 2 rfl) ?_
                      refine gi_sub hx hb dX12_bagsOf_118 ?_
                      cases hM
                      exact hK_29 H locs ls hG (lv_sub hl [0, 2, 4, 5, 6, 7, 8, 9, 10] rfl)
                    · replace hM := ifn hM c_36
                      refine lv_iconst (v := iI (-1)) hx hb dX12_bagsOf_111 (by decide) ?_
                      refine lv_goto (tgt := 119) hx hb dX12_bagsOf_112 (by decide) ?_
                      cases hM
                      exact hK_29 H locs ls hG (lv_sub hl [0, 2, 4, 5, 6, 7, 8, 9, 10] rfl)
                  clear hM
                  replace hM := hc_25
                  refine gi_icmp_ne (tgt := 78) hx hb dX12_bagsOf_71 (by decide) hg_3 (by decide) (fun c_37 => ?_) (fun c_37 => ?_)
                  · replace hM := ifn hM c_37
                    refine lv_aload_n hx hb dX12_bagsOf_78 rfl (lv_at hl 3 rfl) ?_
                    refine m_get S hG 80 83 14 rfl ec_83 cpX12 wm_1687 dX12_bagsOf_79 rfl (Nat.lt_of_lt_of_le (Nat.le_of_ble_eq_true rfl) hn) (by decide) ?_
                    refine lv_iload_n hx hb dX12_bagsOf_82 rfl (lv_at hl 4 rfl) ?_
                    refine lv_iload hx hb dX12_bagsOf_83 (lv_at hl 7 rfl) ?_
                    refine lv_iconst (v := iI 1) hx hb dX12_bagsOf_85 (by decide) ?_
                    refine gi_sub hx hb dX12_bagsOf_86 ?_
                    refine lv_iconst (v := iI 0) hx hb dX12_bagsOf_87 (by decide) ?_
                    obtain ⟨r_39, hc_38, hM⟩ := bd1_some hM
                    refine g_si (As := [.int (iI a1), .int (iI (a4 - 1)), .int (iI 0)]) (rest := [.ref (b + 87)]) S hG hsz (vX12_place l hn a1 (a4 - 1) 0 hc_38) wS_12_276 dX12_bagsOf_88 rfl hl.1 (ar := 3) (by decide +kernel) rfl (by refine ⟨?_, ?_, ?_, ?_⟩ <;> first | exact Nat.le_of_ble_eq_true rfl | (simp only [gRm]; omega)) (Nat.le_of_ble_eq_true rfl) (fun rv uu H locs hp hG => ?_)
                    obtain ⟨rfl, rfl⟩ := hp
                    replace hG : gW D cy b n s H locs (enc b cy X S0) := hG
                    obtain ⟨hg_40, hM⟩ := gd_some hM
                    refine mj_ald S hG 87 90 rfl ec_90 (Nat.lt_of_lt_of_le (Nat.le_of_ble_eq_true rfl) hn) dX12_bagsOf_91 hg_40 (by decide) ?_
                    cases hM
                    exact hK_26 H locs ls hG (lv_sub hl [0, 1, 2, 3, 4, 5, 6, 7, 8, 9] rfl)
                  · replace hM := ifp hM c_37
                    refine lv_lconst (v := jJ 0) hx hb dX12_bagsOf_74 (by decide) ?_
                    refine lv_goto (tgt := 92) hx hb dX12_bagsOf_75 (by decide) ?_
                    cases hM
                    exact hK_26 H locs ls hG (lv_sub hl [0, 1, 2, 3, 4, 5, 6, 7, 8, 9] rfl)
              have hK_41 : ∀ (H : Heap) (locs : List Loc) (ls : Array Slot), t_17 = 1 → gW D cy b n s H locs (enc b cy X S0) → lv_has ls 15 [(8, .long (jJ v_8))] → W p l e (gRm (d + 1) 0 0) s m args below meth c H locs 0 0 (gQL D cy b s args below 0 0 (fun r u => r = jJ o1 ∧ u = (n, enc b cy X S0))) (F0 m 150 ls []) := by
                intro H locs ls ht hG hl
                subst ht
                replace hM := ifn hM (by decide)
                cases hM
                exact hK_11 H locs ls hG (lv_sub hl [0] rfl)
              clear hM
              replace hM := hc_18
              refine gi_if_lt (tgt := 50) hx hb dX12_bagsOf_41 (by decide) hg_5 (fun c_42 => ?_) (fun c_42 => ?_)
              · replace hM := ifp hM c_42
                cases hM
                exact hK_19 H locs ls rfl hG (lv_sub hl [0, 1, 2, 3, 4, 5, 6, 7, 8] rfl)
              · replace hM := ifn hM c_42
                refine lv_iload hx hb dX12_bagsOf_44 (lv_at hl 0 rfl) ?_
                refine lv_iload_n hx hb dX12_bagsOf_46 rfl (lv_at hl 5 rfl) ?_
                obtain ⟨hg_43, hM⟩ := gd_some hM
                refine gi_icmp_gt (tgt := 150) hx hb dX12_bagsOf_47 (by decide) hg_43 hg_5 (fun c_44 => ?_) (fun c_44 => ?_)
                · replace hM := ifp hM c_44
                  cases hM
                  exact hK_41 H locs ls rfl hG (lv_sub hl [1] rfl)
                · replace hM := ifn hM c_44
                  cases hM
                  exact hK_19 H locs ls rfl hG (lv_sub hl [0, 1, 2, 3, 4, 5, 6, 7, 8] rfl)
        exact loop_12 FU 0 0 H locs ls hc_10 hG (lv_sub hl [0, 1, 2, 3, 4, 5, 6, 7, 8] rfl)
      · replace hM := ifp hM c_6
        refine lv_lconst (v := jJ 0) hx hb dX12_bagsOf_23 (by decide) ?_
        cases hM
        exact g_lret S hr hlk hG hsz dX12_bagsOf_24 ⟨Nat.le_of_ble_eq_true rfl, Nat.le_of_ble_eq_true rfl⟩ ⟨rfl, rfl⟩
  · replace hM := ifp hM c_2
    refine lv_iload_n hx hb dX12_bagsOf_4 rfl (lv_at hl 3 rfl) ?_
    obtain ⟨hg_45, hM⟩ := gd_some hM
    refine gi_if_gt (tgt := 12) hx hb dX12_bagsOf_5 (by decide) hg_45 (fun c_46 => ?_) (fun c_46 => ?_)
    · replace hM := ifp hM c_46
      refine lv_lconst (v := jJ 0) hx hb dX12_bagsOf_12 (by decide) ?_
      cases hM
      exact g_lret S hr hlk hG hsz dX12_bagsOf_13 ⟨Nat.le_of_ble_eq_true rfl, Nat.le_of_ble_eq_true rfl⟩ ⟨rfl, rfl⟩
    · replace hM := ifn hM c_46
      refine lv_lconst (v := jJ 1) hx hb dX12_bagsOf_8 (by decide) ?_
      refine lv_goto (tgt := 13) hx hb dX12_bagsOf_9 (by decide) ?_
      cases hM
      exact g_lret S hr hlk hG hsz dX12_bagsOf_13 ⟨Nat.le_of_ble_eq_true rfl, Nat.le_of_ble_eq_true rfl⟩ ⟨rfl, rfl⟩
def RX12_bagsOf : Nat → Nat → Int → Int → Int → Int → Int → Int → St → Option (Int)
  | 0, _, _, _, _, _, _, _, _ => none
  | f + 1, t, x1, x2, x3, x4, x5, x6, S0 => if t = 0 then (bX12_bagsOf (RX12_bagsOf f) S0 x1 x2 x3 x4 x5 x6) else (none)
set_option maxHeartbeats 4000000 in
theorem vRX12_bagsOf (l : Launch) {D : va_G} {cy : Nat → ClassId} {b n : Nat} (hn : 102 ≤ n) {X : Nat → va_E} : ∀ f : Nat, (∀ (S0 : St) (a1 : Int) (a2 : Int) (a3 : Int) (a4 : Int) (a5 : Int) (a6 : Int) (o1 : Int), RX12_bagsOf f 0 a1 a2 a3 a4 a5 a6 S0 = some o1 → gL l yX12_bagsOf cX12_bagsOf 15 (2 + f) 0 0 D cy b n (enc b cy X S0) [.ref (b + 80), .int (iI a1), .int (iI a2), .int (iI a3), .int (iI a4), .long (jJ a5), .int (iI a6)] (fun r u => r = jJ o1 ∧ u = (n, enc b cy X S0))) := by
  intro f
  induction f with
  | zero =>
    skip
    all_goals
      intros; rename_i hM; rw [RX12_bagsOf] at hM; cases hM
  | succ f ih =>
    have hr0 := ih
    · intro S0 a1 a2 a3 a4 a5 a6 o1 hM
      rw [RX12_bagsOf] at hM
      replace hM := ifp hM rfl
      exact spX12_bagsOf l hn (RX12_bagsOf f) (2 + f) (Nat.le_add_right _ _) hr0 S0 a1 a2 a3 a4 a5 a6 _ hM
def mX12_bagsOf (S0 : St) (a1 : Int) (a2 : Int) (a3 : Int) (a4 : Int) (a5 : Int) (a6 : Int) : Option (Int) := RX12_bagsOf 12 0 a1 a2 a3 a4 a5 a6 S0
theorem vX12_bagsOf (l : Launch) {D : va_G} {cy : Nat → ClassId} {b n : Nat} (hn : 102 ≤ n) {X : Nat → va_E} {S0 : St} (a1 : Int) (a2 : Int) (a3 : Int) (a4 : Int) (a5 : Int) (a6 : Int) {o1 : Int} (hM : mX12_bagsOf S0 a1 a2 a3 a4 a5 a6 = some o1) : gL l yX12_bagsOf cX12_bagsOf 15 14 0 0 D cy b n (enc b cy X S0) [.ref (b + 80), .int (iI a1), .int (iI a2), .int (iI a3), .int (iI a4), .long (jJ a5), .int (iI a6)] (fun r u => r = jJ o1 ∧ u = (n, enc b cy X S0)) := by
  unfold mX12_bagsOf at hM
  exact (vRX12_bagsOf l hn 12) S0 a1 a2 a3 a4 a5 a6 _ hM
def mX12_findsBag_117 (z_40 : Int) (z_37 : Int) (x_43 : Int) (r_15 : Int) (v_1 : Int) (v_2 : Int) (v_4 : Int) (a1 : Int) (a4 : Int) : Nat → Int → Int → St → Option (Int × St)
  | 0, _, _, _ => none
  | f + 1, v_44, v_45, S_46 => gd (inI z_40) <| if z_40 = 0 then (some (v_45, S_46)) else (gd (inI v_44) <| gd ((inL v_44) ∧ (inL z_37)) <| if z_37 ≤ v_44 then (some (v_45, S_46)) else (gd (inI v_45) <| if 0 ≤ v_45 then (some (v_45, S_46)) else (bd1 (gd (inI a4) <| if a4 = 0 then (gd (inI (v_44 + 1)) <| some ((v_44 + 1))) else (some (v_44))) fun z_61 => bd1 (mX12_bagsOf S_46 a1 (v_4 - x_43) r_15 x_43 z_61 a4) fun r_65 => gd ((inL (S_46 83 32)) ∧ (inL r_65)) <| if r_65 ≤ (S_46 83 32) then (nx (up S_46 83 32 ((S_46 83 32) - r_65)) fun S_68 => mX12_findsBag_117 z_40 z_37 x_43 r_15 v_1 v_2 v_4 a1 a4 f (v_44 + 1) v_45 S_68) else (mX12_findsBag_117 z_40 z_37 x_43 r_15 v_1 v_2 v_4 a1 a4 f (v_44 + 1) v_44 S_46))))
def mX12_findsBag_31 (r_15 : Int) (v_1 : Int) (v_2 : Int) (v_4 : Int) (a1 : Int) (a4 : Int) : Nat → Int → Int → St → Option (Int × Int × St)
  | 0, _, _, _ => none
  | f + 1, v_16, v_17, S_18 => gd (inI v_16) <| if 0 ≤ v_16 then (some (v_17, v_16, S_18)) else (bd1 (gd ((inI (v_17 + 1)) ∧ (inI v_2)) <| if (v_17 + 1) = v_2 then (some (v_1)) else (bd1 (mX12_place a1 (v_17 + 1) 0) fun r_86 => gd (0 ≤ r_86 ∧ r_86 < 1920) <| some ((S_18 90 r_86)))) fun z_37 => bd1 (gd (inL z_37) <| if z_37 ≤ 0 then (some (0)) else (bd1 (gd (inI a4) <| if a4 = 0 then (some (z_37)) else (some ((z_37 - 1)))) fun z_74 => bd1 (mX12_bagsOf S_18 a1 (v_4 - (v_17 + 1)) r_15 (v_17 + 1) z_74 a4) fun r_78 => gd (inL r_78) <| if r_78 ≤ 0 then (some (0)) else (some (1)))) fun z_40 => nx (v_17 + 1) fun x_43 => bd2 (mX12_findsBag_117 z_40 z_37 x_43 r_15 v_1 v_2 v_4 a1 a4 FU 0 v_16 S_18) fun y_47 S_48 => mX12_findsBag_31 r_15 v_1 v_2 v_4 a1 a4 f y_47 x_43 S_48)
def mX12_findsBag_13 (a1 : Int) (a4 : Int) : Nat → Int → Int → Int → Int → St → Option (St)
  | 0, _, _, _, _, _ => none
  | f + 1, v_1, v_2, v_3, v_4, S_5 => gd (inI v_4) <| if v_4 ≤ 0 then (some (S_5)) else (bd1 (mX12_less v_3) fun r_15 => bd3 (mX12_findsBag_31 r_15 v_1 v_2 v_4 a1 a4 FU (-1) 0 S_5) fun y_19 y_20 S_21 => bd1 (mX12_pushes S_21 y_19 y_20) fun S_25 => nx (v_4 - y_19) fun x_26 => gd (inI a4) <| if a4 = 0 then (gd (inI (y_20 + 1)) <| nx (y_20 + 1) fun x_30 => mX12_findsBag_13 a1 a4 f x_30 y_19 r_15 x_26 S_25) else (gd (inI y_20) <| mX12_findsBag_13 a1 a4 f y_20 y_19 r_15 x_26 S_25))
def mX12_findsBag (S0 : St) (a1 : Int) (a2 : Int) (a3 : Int) (a4 : Int) : Option (St) := bd1 (mX12_findsBag_13 a1 a4 FU 0 8 a3 a2 S0) fun S_6 => some (S_6)
set_option maxHeartbeats 4000000 in
set_option maxRecDepth 100000 in
theorem vX12_findsBag (l : Launch) {D : va_G} {cy : Nat → ClassId} {b n : Nat} (hn : 102 ≤ n) {X : Nat → va_E} {S0 : St} (a1 : Int) (a2 : Int) (a3 : Int) (a4 : Int) {o1 : St} (hM : mX12_findsBag S0 a1 a2 a3 a4 = some o1) : gV l yX12_findsBag cX12_findsBag 18 15 0 0 D cy b n (enc b cy X S0) [.ref (b + 80), .int (iI a1), .int (iI a2), .int (iI a3), .int (iI a4)] (fun u => u = (n, enc b cy X o1)) := by
  refine gV_of (by decide) (Nat.le_of_ble_eq_true rfl) ?_
  intro p e s m args below meth c S hr hlk hin hsz ls hl hG
  have hx := S.1
  have hb := S.2.1
  have hl : lv_has ls 18 [(0, .ref (b + 80)), (1, .int (iI a1)), (2, .int (iI a2)), (3, .int (iI a3)), (4, .int (iI a4))] := hl
  replace hG : gW D cy b n s s.heap [] (enc b cy X S0) := hG
  obtain ⟨H, eH⟩ : ∃ H, H = s.heap := ⟨_, rfl⟩
  obtain ⟨locs, elocs⟩ : ∃ locs : List Loc, locs = [] := ⟨_, rfl⟩
  rw [← eH, ← elocs] at hG
  rw [← eH, ← elocs]
  clear eH elocs
  unfold mX12_findsBag at hM
  refine lv_iload_n hx hb dX12_findsBag_0 rfl (lv_at hl 2 rfl) ?_
  refine lv_istore (lv' := [(5, .int (iI a2)), (0, .ref (b + 80)), (1, .int (iI a1)), (2, .int (iI a2)), (3, .int (iI a3)), (4, .int (iI a4))]) hx hb dX12_findsBag_1 hl (by decide) rfl (fun ls hl => ?_)
  refine lv_iload_n hx hb dX12_findsBag_3 rfl (lv_at hl 4 rfl) ?_
  refine lv_istore (lv' := [(6, .int (iI a3)), (5, .int (iI a2)), (0, .ref (b + 80)), (1, .int (iI a1)), (2, .int (iI a2)), (3, .int (iI a3)), (4, .int (iI a4))]) hx hb dX12_findsBag_4 hl (by decide) rfl (fun ls hl => ?_)
  refine lv_bipush (v := iI 8) hx hb dX12_findsBag_6 (by decide) ?_
  refine lv_istore (lv' := [(7, .int (iI 8)), (6, .int (iI a3)), (5, .int (iI a2)), (0, .ref (b + 80)), (1, .int (iI a1)), (2, .int (iI a2)), (3, .int (iI a3)), (4, .int (iI a4))]) hx hb dX12_findsBag_8 hl (by decide) rfl (fun ls hl => ?_)
  refine lv_lconst (v := jJ 0) hx hb dX12_findsBag_10 (by decide) ?_
  refine lv_lstore (lv' := [(8, .long (jJ 0)), (7, .int (iI 8)), (6, .int (iI a3)), (5, .int (iI a2)), (0, .ref (b + 80)), (1, .int (iI a1)), (2, .int (iI a2)), (3, .int (iI a3)), (4, .int (iI a4))]) hx hb dX12_findsBag_11 hl (by decide) rfl (fun ls hl => ?_)
  obtain ⟨S_6, hc_7, hM⟩ := bd1_some hM
  have hK_8 : ∀ (H : Heap) (locs : List Loc) (ls : Array Slot), gW D cy b n s H locs (enc b cy X S_6) → lv_has ls 18 [] → W p l e (gRm 15 0 0) s m args below meth c H locs 0 0 (gQV D cy b s args below 0 0 (fun u => u = (n, enc b cy X o1))) (F0 m 247 ls []) := by
    intro H locs ls hG hl
    cases hM
    exact g_vret S hr hlk hG hsz dX12_findsBag_247 ⟨Nat.le_of_ble_eq_true rfl, Nat.le_of_ble_eq_true rfl⟩ rfl
  have loop_9 : ∀ (f : Nat) (v_1 : Int) (v_2 : Int) (v_3 : Int) (v_4 : Int) (S_5 : St) (H : Heap) (locs : List Loc) (ls : Array Slot), mX12_findsBag_13 a1 a4 f v_1 v_2 v_3 v_4 S_5 = some S_6 → gW D cy b n s H locs (enc b cy X S_5) → lv_has ls 18 [(8, .long (jJ v_1)), (7, .int (iI v_2)), (6, .int (iI v_3)), (5, .int (iI v_4)), (0, .ref (b + 80)), (1, .int (iI a1)), (4, .int (iI a4))] → W p l e (gRm 15 0 0) s m args below meth c H locs 0 0 (gQV D cy b s args below 0 0 (fun u => u = (n, enc b cy X o1))) (F0 m 13 ls []) := by
    clear hM
    intro f
    induction f with
    | zero => intro v_1 v_2 v_3 v_4 S_5 H locs ls hM; rw [mX12_findsBag_13] at hM; cases hM
    | succ f_11 ih_10 =>
      intro v_1 v_2 v_3 v_4 S_5 H locs ls hM hG hl
      rw [mX12_findsBag_13] at hM
      refine lv_iload hx hb dX12_findsBag_13 (lv_at hl 3 rfl) ?_
      obtain ⟨hg_12, hM⟩ := gd_some hM
      refine gi_if_le (tgt := 247) hx hb dX12_findsBag_15 (by decide) hg_12 (fun c_13 => ?_) (fun c_13 => ?_)
      · replace hM := ifp hM c_13
        cases hM
        exact hK_8 H locs ls hG (lv_sub hl [] rfl)
      · replace hM := ifn hM c_13
        refine lv_iload hx hb dX12_findsBag_18 (lv_at hl 2 rfl) ?_
        obtain ⟨r_15, hc_14, hM⟩ := bd1_some hM
        refine g_si (As := [.int (iI v_3)]) (rest := []) S hG hsz (vX12_less l hn v_3 hc_14) wS_12_450 dX12_findsBag_20 rfl hl.1 (ar := 1) (by decide +kernel) rfl ⟨Nat.le_of_ble_eq_true rfl, Nat.le_of_ble_eq_true rfl, Nat.le_of_ble_eq_true rfl, Nat.le_of_ble_eq_true rfl⟩ (Nat.le_of_ble_eq_true rfl) (fun rv uu H locs hp hG => ?_)
        obtain ⟨rfl, rfl⟩ := hp
        replace hG : gW D cy b n s H locs (enc b cy X S_5) := hG
        refine lv_istore (lv' := [(6, .int (iI r_15)), (8, .long (jJ v_1)), (7, .int (iI v_2)), (5, .int (iI v_4)), (0, .ref (b + 80)), (1, .int (iI a1)), (4, .int (iI a4))]) hx hb dX12_findsBag_23 hl (by decide) rfl (fun ls hl => ?_)
        refine lv_iconst (v := iI 0) hx hb dX12_findsBag_25 (by decide) ?_
        refine lv_istore (lv' := [(10, .int (iI 0)), (6, .int (iI r_15)), (8, .long (jJ v_1)), (7, .int (iI v_2)), (5, .int (iI v_4)), (0, .ref (b + 80)), (1, .int (iI a1)), (4, .int (iI a4))]) hx hb dX12_findsBag_26 hl (by decide) rfl (fun ls hl => ?_)
        refine lv_iconst (v := iI (-1)) hx hb dX12_findsBag_28 (by decide) ?_
        refine lv_istore (lv' := [(11, .int (iI (-1))), (10, .int (iI 0)), (6, .int (iI r_15)), (8, .long (jJ v_1)), (7, .int (iI v_2)), (5, .int (iI v_4)), (0, .ref (b + 80)), (1, .int (iI a1)), (4, .int (iI a4))]) hx hb dX12_findsBag_29 hl (by decide) rfl (fun ls hl => ?_)
        obtain ⟨y_19, y_20, S_21, hc_22, hM⟩ := bd3_some hM
        have hK_23 : ∀ (H : Heap) (locs : List Loc) (ls : Array Slot), gW D cy b n s H locs (enc b cy X S_21) → lv_has ls 18 [(6, .int (iI r_15)), (5, .int (iI v_4)), (0, .ref (b + 80)), (1, .int (iI a1)), (4, .int (iI a4)), (10, .int (iI y_19)), (11, .int (iI y_20))] → W p l e (gRm 15 0 0) s m args below meth c H locs 0 0 (gQV D cy b s args below 0 0 (fun u => u = (n, enc b cy X o1))) (F0 m 207 ls []) := by
          intro H locs ls hG hl
          refine lv_aload_n hx hb dX12_findsBag_207 rfl (lv_at hl 2 rfl) ?_
          refine lv_iload hx hb dX12_findsBag_208 (lv_at hl 5 rfl) ?_
          refine lv_iload hx hb dX12_findsBag_210 (lv_at hl 6 rfl) ?_
          obtain ⟨S_25, hc_24, hM⟩ := bd1_some hM
          refine g_vv (As := [.int (iI y_19), .int (iI y_20)]) (rest := []) S hG hsz (vX12_pushes l hn y_19 y_20 hc_24) wV_12_456 (ec_83 _) cpX12 (Nat.lt_of_lt_of_le (Nat.le_of_ble_eq_true rfl) hn) dX12_findsBag_212 rfl hl.1 (ar := 2) (by decide +kernel) rfl ⟨Nat.le_of_ble_eq_true rfl, Nat.le_of_ble_eq_true rfl, Nat.le_of_ble_eq_true rfl, Nat.le_of_ble_eq_true rfl⟩ (Nat.le_of_ble_eq_true rfl) (fun uu H locs hp hG => ?_)
          obtain rfl := hp
          replace hG : gW D cy b n s H locs (enc b cy X S_25) := hG
          refine lv_iload hx hb dX12_findsBag_215 (lv_at hl 1 rfl) ?_
          refine lv_iload hx hb dX12_findsBag_217 (lv_at hl 5 rfl) ?_
          refine gi_sub hx hb dX12_findsBag_219 ?_
          refine gi_nm (fun x_26 ex_26 => ?_)
          replace hM := nx_at hM ex_26
          clear ex_26
          refine lv_istore (lv' := [(5, .int (iI x_26)), (6, .int (iI r_15)), (0, .ref (b + 80)), (1, .int (iI a1)), (4, .int (iI a4)), (10, .int (iI y_19)), (11, .int (iI y_20))]) hx hb dX12_findsBag_220 hl (by decide) rfl (fun ls hl => ?_)
          refine lv_iload hx hb dX12_findsBag_222 (lv_at hl 5 rfl) ?_
          refine lv_istore (lv' := [(7, .int (iI y_19)), (5, .int (iI x_26)), (6, .int (iI r_15)), (0, .ref (b + 80)), (1, .int (iI a1)), (4, .int (iI a4)), (10, .int (iI y_19)), (11, .int (iI y_20))]) hx hb dX12_findsBag_224 hl (by decide) rfl (fun ls hl => ?_)
          refine lv_iload hx hb dX12_findsBag_226 (lv_at hl 5 rfl) ?_
          obtain ⟨hg_27, hM⟩ := gd_some hM
          refine gi_if_eq (tgt := 237) hx hb dX12_findsBag_228 (by decide) hg_27 (fun c_28 => ?_) (fun c_28 => ?_)
          · replace hM := ifp hM c_28
            refine lv_iload hx hb dX12_findsBag_237 (lv_at hl 7 rfl) ?_
            refine lv_iconst (v := iI 1) hx hb dX12_findsBag_239 (by decide) ?_
            refine gi_add hx hb dX12_findsBag_240 ?_
            obtain ⟨hg_29, hM⟩ := gd_some hM
            refine gi_i2l hx hb dX12_findsBag_241 hg_29 ?_
            refine gj_nm (fun x_30 ex_30 => ?_)
            replace hM := nx_at hM ex_30
            clear ex_30
            refine lv_lstore (lv' := [(8, .long (jJ x_30)), (7, .int (iI y_19)), (5, .int (iI x_26)), (6, .int (iI r_15)), (0, .ref (b + 80)), (1, .int (iI a1)), (4, .int (iI a4)), (10, .int (iI y_19)), (11, .int (iI y_20))]) hx hb dX12_findsBag_242 hl (by decide) rfl (fun ls hl => ?_)
            refine lv_goto (tgt := 13) hx hb dX12_findsBag_244 (by decide) ?_
            exact ih_10 x_30 y_19 r_15 x_26 S_25 H locs ls hM hG (lv_sub hl [0, 1, 3, 2, 4, 5, 6] rfl)
          · replace hM := ifn hM c_28
            refine lv_iload hx hb dX12_findsBag_231 (lv_at hl 7 rfl) ?_
            obtain ⟨hg_31, hM⟩ := gd_some hM
            refine gi_i2l hx hb dX12_findsBag_233 hg_31 ?_
            refine lv_goto (tgt := 242) hx hb dX12_findsBag_234 (by decide) ?_
            refine lv_lstore (lv' := [(8, .long (jJ y_20)), (7, .int (iI y_19)), (5, .int (iI x_26)), (6, .int (iI r_15)), (0, .ref (b + 80)), (1, .int (iI a1)), (4, .int (iI a4)), (10, .int (iI y_19)), (11, .int (iI y_20))]) hx hb dX12_findsBag_242 hl (by decide) rfl (fun ls hl => ?_)
            refine lv_goto (tgt := 13) hx hb dX12_findsBag_244 (by decide) ?_
            exact ih_10 y_20 y_19 r_15 x_26 S_25 H locs ls hM hG (lv_sub hl [0, 1, 3, 2, 4, 5, 6] rfl)
        have loop_32 : ∀ (f : Nat) (v_16 : Int) (v_17 : Int) (S_18 : St) (H : Heap) (locs : List Loc) (ls : Array Slot), mX12_findsBag_31 r_15 v_1 v_2 v_4 a1 a4 f v_16 v_17 S_18 = some (y_19, y_20, S_21) → gW D cy b n s H locs (enc b cy X S_18) → lv_has ls 18 [(11, .int (iI v_16)), (10, .int (iI v_17)), (6, .int (iI r_15)), (8, .long (jJ v_1)), (7, .int (iI v_2)), (5, .int (iI v_4)), (0, .ref (b + 80)), (1, .int (iI a1)), (4, .int (iI a4))] → W p l e (gRm 15 0 0) s m args below meth c H locs 0 0 (gQV D cy b s args below 0 0 (fun u => u = (n, enc b cy X o1))) (F0 m 31 ls []) := by
          clear hM
          intro f
          induction f with
          | zero => intro v_16 v_17 S_18 H locs ls hM; rw [mX12_findsBag_31] at hM; cases hM
          | succ f_34 ih_33 =>
            intro v_16 v_17 S_18 H locs ls hM hG hl
            rw [mX12_findsBag_31] at hM
            refine lv_iload hx hb dX12_findsBag_31 (lv_at hl 0 rfl) ?_
            obtain ⟨hg_35, hM⟩ := gd_some hM
            refine gi_if_ge (tgt := 207) hx hb dX12_findsBag_33 (by decide) hg_35 (fun c_36 => ?_) (fun c_36 => ?_)
            · replace hM := ifp hM c_36
              cases hM
              exact hK_23 H locs ls hG (lv_sub hl [2, 5, 6, 7, 8, 1, 0] rfl)
            · replace hM := ifn hM c_36
              refine lv_iinc (v := iI (v_17 + 1)) (lv' := [(10, .int (iI (v_17 + 1))), (11, .int (iI v_16)), (6, .int (iI r_15)), (8, .long (jJ v_1)), (7, .int (iI v_2)), (5, .int (iI v_4)), (0, .ref (b + 80)), (1, .int (iI a1)), (4, .int (iI a4))]) hx hb dX12_findsBag_36 hl (k := 1) rfl ((iI_add v_17 (1)).trans (congrArg iI (by omega))) (by decide) rfl (fun ls hl => ?_)
              refine lv_iload hx hb dX12_findsBag_39 (lv_at hl 0 rfl) ?_
              refine lv_iload hx hb dX12_findsBag_41 (lv_at hl 4 rfl) ?_
              obtain ⟨z_37, hc_38, hM⟩ := bd1_some hM
              have hK_39 : ∀ (H : Heap) (locs : List Loc) (ls : Array Slot), gW D cy b n s H locs (enc b cy X S_18) → lv_has ls 18 [(10, .int (iI (v_17 + 1))), (11, .int (iI v_16)), (6, .int (iI r_15)), (8, .long (jJ v_1)), (7, .int (iI v_2)), (5, .int (iI v_4)), (0, .ref (b + 80)), (1, .int (iI a1)), (4, .int (iI a4))] → W p l e (gRm 15 0 0) s m args below meth c H locs 0 0 (gQV D cy b s args below 0 0 (fun u => u = (n, enc b cy X o1))) (F0 m 63 ls [.long (jJ z_37)]) := by
                intro H locs ls hG hl
                refine lv_lstore (lv' := [(12, .long (jJ z_37)), (10, .int (iI (v_17 + 1))), (11, .int (iI v_16)), (6, .int (iI r_15)), (8, .long (jJ v_1)), (7, .int (iI v_2)), (5, .int (iI v_4)), (0, .ref (b + 80)), (1, .int (iI a1)), (4, .int (iI a4))]) hx hb dX12_findsBag_63 hl (by decide) rfl (fun ls hl => ?_)
                refine lv_lload hx hb dX12_findsBag_65 (lv_at hl 0 rfl) ?_
                refine lv_lconst (v := jJ 0) hx hb dX12_findsBag_67 (by decide) ?_
                obtain ⟨z_40, hc_41, hM⟩ := bd1_some hM
                have hK_42 : ∀ (H : Heap) (locs : List Loc) (ls : Array Slot), gW D cy b n s H locs (enc b cy X S_18) → lv_has ls 18 [(12, .long (jJ z_37)), (10, .int (iI (v_17 + 1))), (11, .int (iI v_16)), (6, .int (iI r_15)), (8, .long (jJ v_1)), (7, .int (iI v_2)), (5, .int (iI v_4)), (0, .ref (b + 80)), (1, .int (iI a1)), (4, .int (iI a4))] → W p l e (gRm 15 0 0) s m args below meth c H locs 0 0 (gQV D cy b s args below 0 0 (fun u => u = (n, enc b cy X o1))) (F0 m 112 ls [.int (iI z_40)]) := by
                  intro H locs ls hG hl
                  refine lv_istore (lv' := [(14, .int (iI z_40)), (12, .long (jJ z_37)), (10, .int (iI (v_17 + 1))), (11, .int (iI v_16)), (6, .int (iI r_15)), (8, .long (jJ v_1)), (7, .int (iI v_2)), (5, .int (iI v_4)), (0, .ref (b + 80)), (1, .int (iI a1)), (4, .int (iI a4))]) hx hb dX12_findsBag_112 hl (by decide) rfl (fun ls hl => ?_)
                  refine lv_iconst (v := iI 0) hx hb dX12_findsBag_114 (by decide) ?_
                  refine lv_istore (lv' := [(15, .int (iI 0)), (14, .int (iI z_40)), (12, .long (jJ z_37)), (10, .int (iI (v_17 + 1))), (11, .int (iI v_16)), (6, .int (iI r_15)), (8, .long (jJ v_1)), (7, .int (iI v_2)), (5, .int (iI v_4)), (0, .ref (b + 80)), (1, .int (iI a1)), (4, .int (iI a4))]) hx hb dX12_findsBag_115 hl (by decide) rfl (fun ls hl => ?_)
                  obtain ⟨x_43, ex_43⟩ : ∃ x_43, x_43 = (v_17 + 1) := ⟨_, rfl⟩
                  replace hM := nx_at hM ex_43
                  rw [← ex_43] at hl
                  clear ex_43
                  obtain ⟨y_47, S_48, hc_49, hM⟩ := bd2_some hM
                  have hK_50 : ∀ (H : Heap) (locs : List Loc) (ls : Array Slot), gW D cy b n s H locs (enc b cy X S_48) → lv_has ls 18 [(10, .int (iI x_43)), (6, .int (iI r_15)), (8, .long (jJ v_1)), (7, .int (iI v_2)), (5, .int (iI v_4)), (0, .ref (b + 80)), (1, .int (iI a1)), (4, .int (iI a4)), (11, .int (iI y_47))] → W p l e (gRm 15 0 0) s m args below meth c H locs 0 0 (gQV D cy b s args below 0 0 (fun u => u = (n, enc b cy X o1))) (F0 m 204 ls []) := by
                    intro H locs ls hG hl
                    refine lv_goto (tgt := 31) hx hb dX12_findsBag_204 (by decide) ?_
                    exact ih_33 y_47 x_43 S_48 H locs ls hM hG (lv_sub hl [8, 0, 1, 2, 3, 4, 5, 6, 7] rfl)
                  have loop_51 : ∀ (f : Nat) (v_44 : Int) (v_45 : Int) (S_46 : St) (H : Heap) (locs : List Loc) (ls : Array Slot), mX12_findsBag_117 z_40 z_37 x_43 r_15 v_1 v_2 v_4 a1 a4 f v_44 v_45 S_46 = some (y_47, S_48) → gW D cy b n s H locs (enc b cy X S_46) → lv_has ls 18 [(15, .int (iI v_44)), (14, .int (iI z_40)), (12, .long (jJ z_37)), (10, .int (iI x_43)), (11, .int (iI v_45)), (6, .int (iI r_15)), (8, .long (jJ v_1)), (7, .int (iI v_2)), (5, .int (iI v_4)), (0, .ref (b + 80)), (1, .int (iI a1)), (4, .int (iI a4))] → W p l e (gRm 15 0 0) s m args below meth c H locs 0 0 (gQV D cy b s args below 0 0 (fun u => u = (n, enc b cy X o1))) (F0 m 117 ls []) := by
                    clear hM
                    intro f
                    induction f with
                    | zero => intro v_44 v_45 S_46 H locs ls hM; rw [mX12_findsBag_117] at hM; cases hM
                    | succ f_53 ih_52 =>
                      intro v_44 v_45 S_46 H locs ls hM hG hl
                      rw [mX12_findsBag_117] at hM
                      refine lv_iload hx hb dX12_findsBag_117 (lv_at hl 1 rfl) ?_
                      obtain ⟨hg_54, hM⟩ := gd_some hM
                      refine gi_if_eq (tgt := 204) hx hb dX12_findsBag_119 (by decide) hg_54 (fun c_55 => ?_) (fun c_55 => ?_)
                      · replace hM := ifp hM c_55
                        cases hM
                        exact hK_50 H locs ls hG (lv_sub hl [3, 5, 6, 7, 8, 9, 10, 11, 4] rfl)
                      · replace hM := ifn hM c_55
                        refine lv_iload hx hb dX12_findsBag_122 (lv_at hl 0 rfl) ?_
                        obtain ⟨hg_56, hM⟩ := gd_some hM
                        refine gi_i2l hx hb dX12_findsBag_124 hg_56 ?_
                        refine lv_lload hx hb dX12_findsBag_125 (lv_at hl 2 rfl) ?_
                        obtain ⟨hg_57, hM⟩ := gd_some hM
                        refine gj_cmp_ge (tgt := 204) hx hb dX12_findsBag_127 dX12_findsBag_128 (by decide) hg_57.1 hg_57.2 (fun c_58 => ?_) (fun c_58 => ?_)
                        · replace hM := ifp hM c_58
                          cases hM
                          exact hK_50 H locs ls hG (lv_sub hl [3, 5, 6, 7, 8, 9, 10, 11, 4] rfl)
                        · replace hM := ifn hM c_58
                          refine lv_iload hx hb dX12_findsBag_131 (lv_at hl 4 rfl) ?_
                          obtain ⟨hg_59, hM⟩ := gd_some hM
                          refine gi_if_ge (tgt := 204) hx hb dX12_findsBag_133 (by decide) hg_59 (fun c_60 => ?_) (fun c_60 => ?_)
                          · replace hM := ifp hM c_60
                            cases hM
                            exact hK_50 H locs ls hG (lv_sub hl [3, 5, 6, 7, 8, 9, 10, 11, 4] rfl)
                          · replace hM := ifn hM c_60
                            refine lv_aload_n hx hb dX12_findsBag_136 rfl (lv_at hl 9 rfl) ?_
                            refine lv_iload_n hx hb dX12_findsBag_137 rfl (lv_at hl 10 rfl) ?_
                            refine lv_iload hx hb dX12_findsBag_138 (lv_at hl 8 rfl) ?_
                            refine lv_iload hx hb dX12_findsBag_140 (lv_at hl 3 rfl) ?_
                            refine gi_sub hx hb dX12_findsBag_142 ?_
                            refine lv_iload hx hb dX12_findsBag_143 (lv_at hl 5 rfl) ?_
                            refine lv_iload hx hb dX12_findsBag_145 (lv_at hl 3 rfl) ?_
                            refine lv_iload hx hb dX12_findsBag_147 (lv_at hl 11 rfl) ?_
                            obtain ⟨z_61, hc_62, hM⟩ := bd1_some hM
                            have hK_63 : ∀ (H : Heap) (locs : List Loc) (ls : Array Slot), gW D cy b n s H locs (enc b cy X S_46) → lv_has ls 18 [(15, .int (iI v_44)), (14, .int (iI z_40)), (12, .long (jJ z_37)), (10, .int (iI x_43)), (11, .int (iI v_45)), (6, .int (iI r_15)), (8, .long (jJ v_1)), (7, .int (iI v_2)), (5, .int (iI v_4)), (0, .ref (b + 80)), (1, .int (iI a1)), (4, .int (iI a4))] → W p l e (gRm 15 0 0) s m args below meth c H locs 0 0 (gQV D cy b s args below 0 0 (fun u => u = (n, enc b cy X o1))) (F0 m 163 ls [.long (jJ z_61), .int (iI x_43), .int (iI r_15), .int (iI (v_4 - x_43)), .int (iI a1), .ref (b + 80)]) := by
                              intro H locs ls hG hl
                              refine lv_iload hx hb dX12_findsBag_163 (lv_at hl 11 rfl) ?_
                              obtain ⟨r_65, hc_64, hM⟩ := bd1_some hM
                              refine g_vl (As := [.int (iI a1), .int (iI (v_4 - x_43)), .int (iI r_15), .int (iI x_43), .long (jJ z_61), .int (iI a4)]) (rest := []) S hG hsz (vX12_bagsOf l hn a1 (v_4 - x_43) r_15 x_43 z_61 a4 hc_64) wV_12_459 (ec_83 _) cpX12 (Nat.lt_of_lt_of_le (Nat.le_of_ble_eq_true rfl) hn) dX12_findsBag_165 rfl hl.1 (ar := 6) (by decide +kernel) rfl ⟨Nat.le_of_ble_eq_true rfl, Nat.le_of_ble_eq_true rfl, Nat.le_of_ble_eq_true rfl, Nat.le_of_ble_eq_true rfl⟩ (Nat.le_of_ble_eq_true rfl) (fun rv uu H locs hp hG => ?_)
                              obtain ⟨rfl, rfl⟩ := hp
                              replace hG : gW D cy b n s H locs (enc b cy X S_46) := hG
                              refine lv_lstore (lv' := [(16, .long (jJ r_65)), (15, .int (iI v_44)), (14, .int (iI z_40)), (12, .long (jJ z_37)), (10, .int (iI x_43)), (11, .int (iI v_45)), (6, .int (iI r_15)), (8, .long (jJ v_1)), (7, .int (iI v_2)), (5, .int (iI v_4)), (0, .ref (b + 80)), (1, .int (iI a1)), (4, .int (iI a4))]) hx hb dX12_findsBag_168 hl (by decide) rfl (fun ls hl => ?_)
                              refine lv_aload_n hx hb dX12_findsBag_170 rfl (lv_at hl 10 rfl) ?_
                              refine m_get S hG 80 83 32 rfl ec_83 cpX12 wm_1705 dX12_findsBag_171 rfl (Nat.lt_of_lt_of_le (Nat.le_of_ble_eq_true rfl) hn) (by decide) ?_
                              refine lv_lload hx hb dX12_findsBag_174 (lv_at hl 0 rfl) ?_
                              obtain ⟨hg_66, hM⟩ := gd_some hM
                              refine gj_cmp_ge (tgt := 187) hx hb dX12_findsBag_176 dX12_findsBag_177 (by decide) hg_66.1 hg_66.2 (fun c_67 => ?_) (fun c_67 => ?_)
                              · replace hM := ifp hM c_67
                                refine lv_aload_n hx hb dX12_findsBag_187 rfl (lv_at hl 10 rfl) ?_
                                refine lv_dup hx hb dX12_findsBag_188 rfl ?_
                                refine m_get S hG 80 83 32 rfl ec_83 cpX12 wm_1705 dX12_findsBag_189 rfl (Nat.lt_of_lt_of_le (Nat.le_of_ble_eq_true rfl) hn) (by decide) ?_
                                refine lv_lload hx hb dX12_findsBag_192 (lv_at hl 0 rfl) ?_
                                refine gj_sub hx hb dX12_findsBag_194 ?_
                                refine m_put S hG 80 83 32 rfl 32 ((S_46 83 32) - r_65) ec_83 cpX12 wm_1705 dX12_findsBag_195 (pf_83_32) (Nat.lt_of_lt_of_le (Nat.le_of_ble_eq_true rfl) hn) (by decide) (Nat.le_of_ble_eq_true rfl) rfl rfl rfl (fun H locs S_68 eS_68 hG => ?_)
                                replace hM := nx_at hM eS_68
                                clear eS_68
                                refine lv_iinc (v := iI (v_44 + 1)) (lv' := [(15, .int (iI (v_44 + 1))), (16, .long (jJ r_65)), (14, .int (iI z_40)), (12, .long (jJ z_37)), (10, .int (iI x_43)), (11, .int (iI v_45)), (6, .int (iI r_15)), (8, .long (jJ v_1)), (7, .int (iI v_2)), (5, .int (iI v_4)), (0, .ref (b + 80)), (1, .int (iI a1)), (4, .int (iI a4))]) hx hb dX12_findsBag_198 hl (k := 1) rfl ((iI_add v_44 (1)).trans (congrArg iI (by omega))) (by decide) rfl (fun ls hl => ?_)
                                refine lv_goto (tgt := 117) hx hb dX12_findsBag_201 (by decide) ?_
                                exact ih_52 (v_44 + 1) v_45 S_68 H locs ls hM hG (lv_sub hl [0, 2, 3, 4, 5, 6, 7, 8, 9, 10, 11, 12] rfl)
                              · replace hM := ifn hM c_67
                                refine lv_iload hx hb dX12_findsBag_180 (lv_at hl 1 rfl) ?_
                                refine lv_istore (lv' := [(11, .int (iI v_44)), (16, .long (jJ r_65)), (15, .int (iI v_44)), (14, .int (iI z_40)), (12, .long (jJ z_37)), (10, .int (iI x_43)), (6, .int (iI r_15)), (8, .long (jJ v_1)), (7, .int (iI v_2)), (5, .int (iI v_4)), (0, .ref (b + 80)), (1, .int (iI a1)), (4, .int (iI a4))]) hx hb dX12_findsBag_182 hl (by decide) rfl (fun ls hl => ?_)
                                refine lv_goto (tgt := 198) hx hb dX12_findsBag_184 (by decide) ?_
                                refine lv_iinc (v := iI (v_44 + 1)) (lv' := [(15, .int (iI (v_44 + 1))), (11, .int (iI v_44)), (16, .long (jJ r_65)), (14, .int (iI z_40)), (12, .long (jJ z_37)), (10, .int (iI x_43)), (6, .int (iI r_15)), (8, .long (jJ v_1)), (7, .int (iI v_2)), (5, .int (iI v_4)), (0, .ref (b + 80)), (1, .int (iI a1)), (4, .int (iI a4))]) hx hb dX12_findsBag_198 hl (k := 2) rfl ((iI_add v_44 (1)).trans (congrArg iI (by omega))) (by decide) rfl (fun ls hl => ?_)
                                refine lv_goto (tgt := 117) hx hb dX12_findsBag_201 (by decide) ?_
                                exact ih_52 (v_44 + 1) v_44 S_46 H locs ls hM hG (lv_sub hl [0, 3, 4, 5, 1, 6, 7, 8, 9, 10, 11, 12] rfl)
                            clear hM
                            replace hM := hc_62
                            obtain ⟨hg_69, hM⟩ := gd_some hM
                            refine gi_if_eq (tgt := 158) hx hb dX12_findsBag_149 (by decide) hg_69 (fun c_70 => ?_) (fun c_70 => ?_)
                            · replace hM := ifp hM c_70
                              refine lv_iload hx hb dX12_findsBag_158 (lv_at hl 0 rfl) ?_
                              refine lv_iconst (v := iI 1) hx hb dX12_findsBag_160 (by decide) ?_
                              refine gi_add hx hb dX12_findsBag_161 ?_
                              obtain ⟨hg_71, hM⟩ := gd_some hM
                              refine gi_i2l hx hb dX12_findsBag_162 hg_71 ?_
                              cases hM
                              exact hK_63 H locs ls hG (lv_sub hl [0, 1, 2, 3, 4, 5, 6, 7, 8, 9, 10, 11] rfl)
                            · replace hM := ifn hM c_70
                              refine lv_iload hx hb dX12_findsBag_152 (lv_at hl 0 rfl) ?_
                              refine gi_i2l hx hb dX12_findsBag_154 hg_56 ?_
                              refine lv_goto (tgt := 163) hx hb dX12_findsBag_155 (by decide) ?_
                              cases hM
                              exact hK_63 H locs ls hG (lv_sub hl [0, 1, 2, 3, 4, 5, 6, 7, 8, 9, 10, 11] rfl)
                  exact loop_51 FU 0 v_16 S_18 H locs ls hc_49 hG (lv_sub hl [0, 1, 2, 3, 4, 5, 6, 7, 8, 9, 10, 11] rfl)
                clear hM
                replace hM := hc_41
                obtain ⟨hg_72, hM⟩ := gd_some hM
                refine gj_cmp_le (tgt := 111) hx hb dX12_findsBag_68 dX12_findsBag_69 (by decide) hg_72 (by decide) (fun c_73 => ?_) (fun c_73 => ?_)
                · replace hM := ifp hM c_73
                  refine lv_iconst (v := iI 0) hx hb dX12_findsBag_111 (by decide) ?_
                  cases hM
                  exact hK_42 H locs ls hG (lv_sub hl [0, 1, 2, 3, 4, 5, 6, 7, 8, 9] rfl)
                · replace hM := ifn hM c_73
                  refine lv_aload_n hx hb dX12_findsBag_72 rfl (lv_at hl 7 rfl) ?_
                  refine lv_iload_n hx hb dX12_findsBag_73 rfl (lv_at hl 8 rfl) ?_
                  refine lv_iload hx hb dX12_findsBag_74 (lv_at hl 6 rfl) ?_
                  refine lv_iload hx hb dX12_findsBag_76 (lv_at hl 1 rfl) ?_
                  refine gi_sub hx hb dX12_findsBag_78 ?_
                  refine lv_iload hx hb dX12_findsBag_79 (lv_at hl 3 rfl) ?_
                  refine lv_iload hx hb dX12_findsBag_81 (lv_at hl 1 rfl) ?_
                  refine lv_iload hx hb dX12_findsBag_83 (lv_at hl 9 rfl) ?_
                  obtain ⟨z_74, hc_75, hM⟩ := bd1_some hM
                  have hK_76 : ∀ (H : Heap) (locs : List Loc) (ls : Array Slot), gW D cy b n s H locs (enc b cy X S_18) → lv_has ls 18 [(12, .long (jJ z_37)), (10, .int (iI (v_17 + 1))), (11, .int (iI v_16)), (6, .int (iI r_15)), (8, .long (jJ v_1)), (7, .int (iI v_2)), (5, .int (iI v_4)), (0, .ref (b + 80)), (1, .int (iI a1)), (4, .int (iI a4))] → W p l e (gRm 15 0 0) s m args below meth c H locs 0 0 (gQV D cy b s args below 0 0 (fun u => u = (n, enc b cy X o1))) (F0 m 97 ls [.long (jJ z_74), .int (iI (v_17 + 1)), .int (iI r_15), .int (iI (v_4 - (v_17 + 1))), .int (iI a1), .ref (b + 80)]) := by
                    intro H locs ls hG hl
                    refine lv_iload hx hb dX12_findsBag_97 (lv_at hl 9 rfl) ?_
                    obtain ⟨r_78, hc_77, hM⟩ := bd1_some hM
                    refine g_vl (As := [.int (iI a1), .int (iI (v_4 - (v_17 + 1))), .int (iI r_15), .int (iI (v_17 + 1)), .long (jJ z_74), .int (iI a4)]) (rest := []) S hG hsz (vX12_bagsOf l hn a1 (v_4 - (v_17 + 1)) r_15 (v_17 + 1) z_74 a4 hc_77) wV_12_459 (ec_83 _) cpX12 (Nat.lt_of_lt_of_le (Nat.le_of_ble_eq_true rfl) hn) dX12_findsBag_99 rfl hl.1 (ar := 6) (by decide +kernel) rfl ⟨Nat.le_of_ble_eq_true rfl, Nat.le_of_ble_eq_true rfl, Nat.le_of_ble_eq_true rfl, Nat.le_of_ble_eq_true rfl⟩ (Nat.le_of_ble_eq_true rfl) (fun rv uu H locs hp hG => ?_)
                    obtain ⟨rfl, rfl⟩ := hp
                    replace hG : gW D cy b n s H locs (enc b cy X S_18) := hG
                    refine lv_lconst (v := jJ 0) hx hb dX12_findsBag_102 (by decide) ?_
                    obtain ⟨hg_79, hM⟩ := gd_some hM
                    refine gj_cmp_le (tgt := 111) hx hb dX12_findsBag_103 dX12_findsBag_104 (by decide) hg_79 (by decide) (fun c_80 => ?_) (fun c_80 => ?_)
                    · replace hM := ifp hM c_80
                      refine lv_iconst (v := iI 0) hx hb dX12_findsBag_111 (by decide) ?_
                      cases hM
                      exact hK_42 H locs ls hG (lv_sub hl [0, 1, 2, 3, 4, 5, 6, 7, 8, 9] rfl)
                    · replace hM := ifn hM c_80
                      refine lv_iconst (v := iI 1) hx hb dX12_findsBag_107 (by decide) ?_
                      refine lv_goto (tgt := 112) hx hb dX12_findsBag_108 (by decide) ?_
                      cases hM
                      exact hK_42 H locs ls hG (lv_sub hl [0, 1, 2, 3, 4, 5, 6, 7, 8, 9] rfl)
                  clear hM
                  replace hM := hc_75
                  obtain ⟨hg_81, hM⟩ := gd_some hM
                  refine gi_if_eq (tgt := 95) hx hb dX12_findsBag_85 (by decide) hg_81 (fun c_82 => ?_) (fun c_82 => ?_)
                  · replace hM := ifp hM c_82
                    refine lv_lload hx hb dX12_findsBag_95 (lv_at hl 0 rfl) ?_
                    cases hM
                    exact hK_76 H locs ls hG (lv_sub hl [0, 1, 2, 3, 4, 5, 6, 7, 8, 9] rfl)
                  · replace hM := ifn hM c_82
                    refine lv_lload hx hb dX12_findsBag_88 (lv_at hl 0 rfl) ?_
                    refine lv_lconst (v := jJ 1) hx hb dX12_findsBag_90 (by decide) ?_
                    refine gj_sub hx hb dX12_findsBag_91 ?_
                    refine lv_goto (tgt := 97) hx hb dX12_findsBag_92 (by decide) ?_
                    cases hM
                    exact hK_76 H locs ls hG (lv_sub hl [0, 1, 2, 3, 4, 5, 6, 7, 8, 9] rfl)
              clear hM
              replace hM := hc_38
              obtain ⟨hg_83, hM⟩ := gd_some hM
              refine gi_icmp_ne (tgt := 51) hx hb dX12_findsBag_43 (by decide) hg_83.1 hg_83.2 (fun c_84 => ?_) (fun c_84 => ?_)
              · replace hM := ifn hM c_84
                refine lv_aload_n hx hb dX12_findsBag_51 rfl (lv_at hl 6 rfl) ?_
                refine m_get S hG 80 83 14 rfl ec_83 cpX12 wm_1687 dX12_findsBag_52 rfl (Nat.lt_of_lt_of_le (Nat.le_of_ble_eq_true rfl) hn) (by decide) ?_
                refine lv_iload_n hx hb dX12_findsBag_55 rfl (lv_at hl 7 rfl) ?_
                refine lv_iload hx hb dX12_findsBag_56 (lv_at hl 0 rfl) ?_
                refine lv_iconst (v := iI 0) hx hb dX12_findsBag_58 (by decide) ?_
                obtain ⟨r_86, hc_85, hM⟩ := bd1_some hM
                refine g_si (As := [.int (iI a1), .int (iI (v_17 + 1)), .int (iI 0)]) (rest := [.ref (b + 87)]) S hG hsz (vX12_place l hn a1 (v_17 + 1) 0 hc_85) wS_12_276 dX12_findsBag_59 rfl hl.1 (ar := 3) (by decide +kernel) rfl ⟨Nat.le_of_ble_eq_true rfl, Nat.le_of_ble_eq_true rfl, Nat.le_of_ble_eq_true rfl, Nat.le_of_ble_eq_true rfl⟩ (Nat.le_of_ble_eq_true rfl) (fun rv uu H locs hp hG => ?_)
                obtain ⟨rfl, rfl⟩ := hp
                replace hG : gW D cy b n s H locs (enc b cy X S_18) := hG
                obtain ⟨hg_87, hM⟩ := gd_some hM
                refine mj_ald S hG 87 90 rfl ec_90 (Nat.lt_of_lt_of_le (Nat.le_of_ble_eq_true rfl) hn) dX12_findsBag_62 hg_87 (by decide) ?_
                cases hM
                exact hK_39 H locs ls hG (lv_sub hl [0, 1, 2, 3, 4, 5, 6, 7, 8] rfl)
              · replace hM := ifp hM c_84
                refine lv_lload hx hb dX12_findsBag_46 (lv_at hl 3 rfl) ?_
                refine lv_goto (tgt := 63) hx hb dX12_findsBag_48 (by decide) ?_
                cases hM
                exact hK_39 H locs ls hG (lv_sub hl [0, 1, 2, 3, 4, 5, 6, 7, 8] rfl)
        exact loop_32 FU (-1) 0 S_5 H locs ls hc_22 hG (lv_sub hl [0, 1, 2, 3, 4, 5, 6, 7, 8] rfl)
  exact loop_9 FU 0 8 a3 a2 S0 H locs ls hc_7 hG (lv_sub hl [0, 1, 2, 3, 4, 5, 8] rfl)
theorem wV_12_427 : gWV "GrownKindsModel" 427 yX12_seeks cX12_seeks 9 (some .boolean) := ⟨wm_2226, wm_2228, wm_148, wm_188, wm_2229, by decide +kernel, by decide +kernel⟩
theorem wV_12_467 : gWV "GrownKindsModel" 467 yX12_isLeast cX12_isLeast 5 (some .boolean) := ⟨wm_2230, wm_2232, wm_149, wm_188, wm_2233, by decide +kernel, by decide +kernel⟩
def mX12_seeks_112 (rec : Nat → Int → Int → Int → Int → St → Option (Int × St)) (x_20 : Int) (v_3 : Int) (a1 : Int) (a2 : Int) (a3 : Int) (a4 : Int) : Nat → Int → St → Option (Int × St)
  | 0, _, _ => none
  | f + 1, v_29, S_30 => gd (inI v_29) <| gd (inL v_29) <| if x_20 ≤ v_29 then (some (1, S_30)) else (gd ((inI (S_30 83 31)) ∧ (inI a2)) <| if (S_30 83 31) ≤ a2 then (bd1 (mX12_pushes S_30 v_3 v_29) fun S_45 => bd1 (mX12_less a4) fun r_47 => bd2 (rec 0 a1 a2 (a3 - v_3) r_47 S_45) fun r_49 S_50 => gd (inI r_49) <| if r_49 = 0 then (nx (up S_50 83 31 ((S_50 83 31) - 1)) fun S_53 => mX12_seeks_112 rec x_20 v_3 a1 a2 a3 a4 f (v_29 + 1) S_53) else (some (0, S_50))) else (bd1 (mX12_isBelow S_30 v_3 v_29 a2) fun r_55 => gd (inI r_55) <| if r_55 = 0 then (bd1 (mX12_pushes S_30 v_3 v_29) fun S_59 => bd1 (mX12_less a4) fun r_61 => bd2 (rec 0 a1 a2 (a3 - v_3) r_61 S_59) fun r_63 S_64 => gd (inI r_63) <| if r_63 = 0 then (nx (up S_64 83 31 ((S_64 83 31) - 1)) fun S_67 => mX12_seeks_112 rec x_20 v_3 a1 a2 a3 a4 f (v_29 + 1) S_67) else (some (0, S_64))) else (mX12_seeks_112 rec x_20 v_3 a1 a2 a3 a4 f (v_29 + 1) S_30)))
def mX12_seeks_55 (rec : Nat → Int → Int → Int → Int → St → Option (Int × St)) (a1 : Int) (a2 : Int) (a3 : Int) (a4 : Int) : Nat → Int → St → Option (Int × St)
  | 0, _, _ => none
  | f + 1, v_3, S_4 => gd (inI v_3) <| if a3 < v_3 then (some (1, S_4)) else (gd (inI a4) <| if a4 = 0 then (some (1, S_4)) else (bd1 (mX12_place a1 v_3 0) fun r_18 => gd (0 ≤ r_18 ∧ r_18 < 1920) <| nx (S_4 90 r_18) fun x_20 => gd (inL x_20) <| if x_20 = 0 then (mX12_seeks_55 rec a1 a2 a3 a4 f (v_3 + 1) S_4) else (bd1 (mX12_less a4) fun r_24 => bd1 (mX12_rowsOf S_4 a1 (a3 - v_3) r_24) fun r_26 => gd (inL r_26) <| if r_26 = 0 then (mX12_seeks_55 rec a1 a2 a3 a4 f (v_3 + 1) S_4) else (bd2 (mX12_seeks_112 rec x_20 v_3 a1 a2 a3 a4 FU 0 S_4) fun t_31 S_32 => if t_31 = 0 then (some (0, S_32)) else (mX12_seeks_55 rec a1 a2 a3 a4 f (v_3 + 1) S_32)))))
def bX12_seeks (rec : Nat → Int → Int → Int → Int → St → Option (Int × St)) (S0 : St) (a1 : Int) (a2 : Int) (a3 : Int) (a4 : Int) : Option (Int × St) := gd (inI a3) <| if a3 = 0 then (gd (inI a4) <| if 0 < a4 then (some (0, S0)) else (gd ((inI (S0 83 31)) ∧ (inI a2)) <| if (S0 83 31) = a2 then (some (0, S0)) else (bd1 (mX12_isLeast S0 a2) fun r_73 => gd (inI r_73) <| if r_73 = 0 then (some (0, S0)) else (nx (up S0 83 32 ((S0 83 32) - 1)) fun S_76 => gd (inL (S_76 83 32)) <| if 0 ≤ (S_76 83 32) then (some (0, S_76)) else (some (1, S_76)))))) else (bd2 (mX12_seeks_55 rec a1 a2 a3 a4 FU 1 S0) fun t_5 S_6 => if t_5 = 0 then (some (1, S_6)) else (some (0, S_6)))
set_option maxHeartbeats 4000000 in
set_option maxRecDepth 100000 in
theorem spX12_seeks (l : Launch) {D : va_G} {cy : Nat → ClassId} {b n : Nat} (hn : 102 ≤ n) {X : Nat → va_E} (rec : Nat → Int → Int → Int → Int → St → Option (Int × St)) (d : Nat) (hd : 15 ≤ d) (hr0 : ∀ (S0 : St) (a1 : Int) (a2 : Int) (a3 : Int) (a4 : Int) (o1 : Int) (o2 : St), rec 0 a1 a2 a3 a4 S0 = some (o1, o2) → gI l yX12_seeks cX12_seeks 9 (some .boolean) d 0 0 D cy b n (enc b cy X S0) [.ref (b + 80), .int (iI a1), .int (iI a2), .int (iI a3), .int (iI a4)] (fun r u => r = iI o1 ∧ u = (n, enc b cy X o2))) (S0 : St) (a1 : Int) (a2 : Int) (a3 : Int) (a4 : Int) (o1 : Int) (o2 : St) (hM : bX12_seeks rec S0 a1 a2 a3 a4 = some (o1, o2)) : gI l yX12_seeks cX12_seeks 9 (some .boolean) (d + 1) 0 0 D cy b n (enc b cy X S0) [.ref (b + 80), .int (iI a1), .int (iI a2), .int (iI a3), .int (iI a4)] (fun r u => r = iI o1 ∧ u = (n, enc b cy X o2)) := by
  refine gI_of (by decide) (Nat.le_of_ble_eq_true rfl) ?_
  intro p e s m args below meth c S hr hlk hin hsz ls hl hG
  have hx := S.1
  have hb := S.2.1
  have hl : lv_has ls 9 [(0, .ref (b + 80)), (1, .int (iI a1)), (2, .int (iI a2)), (3, .int (iI a3)), (4, .int (iI a4))] := hl
  replace hG : gW D cy b n s s.heap [] (enc b cy X S0) := hG
  obtain ⟨H, eH⟩ : ∃ H, H = s.heap := ⟨_, rfl⟩
  obtain ⟨locs, elocs⟩ : ∃ locs : List Loc, locs = [] := ⟨_, rfl⟩
  rw [← eH, ← elocs] at hG
  rw [← eH, ← elocs]
  clear eH elocs
  unfold bX12_seeks at hM
  refine lv_iload_n hx hb dX12_seeks_0 rfl (lv_at hl 3 rfl) ?_
  obtain ⟨hg_1, hM⟩ := gd_some hM
  refine gi_if_ne (tgt := 52) hx hb dX12_seeks_1 (by decide) hg_1 (fun c_2 => ?_) (fun c_2 => ?_)
  · replace hM := ifn hM c_2
    refine lv_iconst (v := iI 1) hx hb dX12_seeks_52 (by decide) ?_
    refine lv_istore (lv' := [(5, .int (iI 1)), (0, .ref (b + 80)), (1, .int (iI a1)), (2, .int (iI a2)), (3, .int (iI a3)), (4, .int (iI a4))]) hx hb dX12_seeks_53 hl (by decide) rfl (fun ls hl => ?_)
    obtain ⟨t_5, S_6, hc_7, hM⟩ := bd2_some hM
    have hK_8 : ∀ (H : Heap) (locs : List Loc) (ls : Array Slot), t_5 = 0 → gW D cy b n s H locs (enc b cy X S_6) → lv_has ls 9 [] → W p l e (gRm (d + 1) 0 0) s m args below meth c H locs 0 0 (gQI D cy b s args below 0 0 (fun r u => r = iI o1 ∧ u = (n, enc b cy X o2))) (F0 m 170 ls []) := by
      intro H locs ls ht hG hl
      subst ht
      replace hM := ifp hM rfl
      refine lv_iconst (v := iI 1) hx hb dX12_seeks_170 (by decide) ?_
      cases hM
      exact g_zret S hr hlk hG hsz dX12_seeks_171 ⟨Nat.le_of_ble_eq_true rfl, Nat.le_of_ble_eq_true rfl⟩ (nar_z (by decide)) ⟨rfl, rfl⟩
    have hK_9 : ∀ (H : Heap) (locs : List Loc) (ls : Array Slot), t_5 = 1 → gW D cy b n s H locs (enc b cy X S_6) → lv_has ls 9 [] → W p l e (gRm (d + 1) 0 0) s m args below meth c H locs 0 0 (gQI D cy b s args below 0 0 (fun r u => r = iI o1 ∧ u = (n, enc b cy X o2))) (F0 m 194 ls []) := by
      intro H locs ls ht hG hl
      subst ht
      replace hM := ifn hM (by decide)
      refine lv_iconst (v := iI 0) hx hb dX12_seeks_194 (by decide) ?_
      cases hM
      exact g_zret S hr hlk hG hsz dX12_seeks_195 ⟨Nat.le_of_ble_eq_true rfl, Nat.le_of_ble_eq_true rfl⟩ (nar_z (by decide)) ⟨rfl, rfl⟩
    have loop_10 : ∀ (f : Nat) (v_3 : Int) (S_4 : St) (H : Heap) (locs : List Loc) (ls : Array Slot), mX12_seeks_55 rec a1 a2 a3 a4 f v_3 S_4 = some (t_5, S_6) → gW D cy b n s H locs (enc b cy X S_4) → lv_has ls 9 [(5, .int (iI v_3)), (0, .ref (b + 80)), (1, .int (iI a1)), (2, .int (iI a2)), (3, .int (iI a3)), (4, .int (iI a4))] → W p l e (gRm (d + 1) 0 0) s m args below meth c H locs 0 0 (gQI D cy b s args below 0 0 (fun r u => r = iI o1 ∧ u = (n, enc b cy X o2))) (F0 m 55 ls []) := by
      clear hM
      intro f
      induction f with
      | zero => intro v_3 S_4 H locs ls hM; rw [mX12_seeks_55] at hM; cases hM
      | succ f_12 ih_11 =>
        intro v_3 S_4 H locs ls hM hG hl
        rw [mX12_seeks_55] at hM
        refine lv_iload hx hb dX12_seeks_55 (lv_at hl 0 rfl) ?_
        refine lv_iload_n hx hb dX12_seeks_57 rfl (lv_at hl 4 rfl) ?_
        obtain ⟨hg_13, hM⟩ := gd_some hM
        refine gi_icmp_gt (tgt := 194) hx hb dX12_seeks_58 (by decide) hg_13 hg_1 (fun c_14 => ?_) (fun c_14 => ?_)
        · replace hM := ifp hM c_14
          cases hM
          exact hK_9 H locs ls rfl hG (lv_sub hl [] rfl)
        · replace hM := ifn hM c_14
          refine lv_iload hx hb dX12_seeks_61 (lv_at hl 5 rfl) ?_
          obtain ⟨hg_15, hM⟩ := gd_some hM
          refine gi_if_eq (tgt := 194) hx hb dX12_seeks_63 (by decide) hg_15 (fun c_16 => ?_) (fun c_16 => ?_)
          · replace hM := ifp hM c_16
            cases hM
            exact hK_9 H locs ls rfl hG (lv_sub hl [] rfl)
          · replace hM := ifn hM c_16
            refine lv_aload_n hx hb dX12_seeks_66 rfl (lv_at hl 1 rfl) ?_
            refine m_get S hG 80 83 14 rfl ec_83 cpX12 wm_1687 dX12_seeks_67 rfl (Nat.lt_of_lt_of_le (Nat.le_of_ble_eq_true rfl) hn) (by decide) ?_
            refine lv_iload_n hx hb dX12_seeks_70 rfl (lv_at hl 2 rfl) ?_
            refine lv_iload hx hb dX12_seeks_71 (lv_at hl 0 rfl) ?_
            refine lv_iconst (v := iI 0) hx hb dX12_seeks_73 (by decide) ?_
            obtain ⟨r_18, hc_17, hM⟩ := bd1_some hM
            refine g_si (As := [.int (iI a1), .int (iI v_3), .int (iI 0)]) (rest := [.ref (b + 87)]) S hG hsz (vX12_place l hn a1 v_3 0 hc_17) wS_12_276 dX12_seeks_74 rfl hl.1 (ar := 3) (by decide +kernel) rfl (by refine ⟨?_, ?_, ?_, ?_⟩ <;> first | exact Nat.le_of_ble_eq_true rfl | (simp only [gRm]; omega)) (Nat.le_of_ble_eq_true rfl) (fun rv uu H locs hp hG => ?_)
            obtain ⟨rfl, rfl⟩ := hp
            replace hG : gW D cy b n s H locs (enc b cy X S_4) := hG
            obtain ⟨hg_19, hM⟩ := gd_some hM
            refine mj_ald S hG 87 90 rfl ec_90 (Nat.lt_of_lt_of_le (Nat.le_of_ble_eq_true rfl) hn) dX12_seeks_77 hg_19 (by decide) ?_
            refine gj_nm (fun x_20 ex_20 => ?_)
            replace hM := nx_at hM ex_20
            clear ex_20
            refine lv_lstore (lv' := [(6, .long (jJ x_20)), (5, .int (iI v_3)), (0, .ref (b + 80)), (1, .int (iI a1)), (2, .int (iI a2)), (3, .int (iI a3)), (4, .int (iI a4))]) hx hb dX12_seeks_78 hl (by decide) rfl (fun ls hl => ?_)
            refine lv_lload hx hb dX12_seeks_80 (lv_at hl 0 rfl) ?_
            refine lv_lconst (v := jJ 0) hx hb dX12_seeks_82 (by decide) ?_
            obtain ⟨hg_21, hM⟩ := gd_some hM
            refine gj_cmp_eq (tgt := 188) hx hb dX12_seeks_83 dX12_seeks_84 (by decide) hg_21 (by decide) (fun c_22 => ?_) (fun c_22 => ?_)
            · replace hM := ifp hM c_22
              refine lv_iinc (v := iI (v_3 + 1)) (lv' := [(5, .int (iI (v_3 + 1))), (6, .long (jJ x_20)), (0, .ref (b + 80)), (1, .int (iI a1)), (2, .int (iI a2)), (3, .int (iI a3)), (4, .int (iI a4))]) hx hb dX12_seeks_188 hl (k := 1) rfl ((iI_add v_3 (1)).trans (congrArg iI (by omega))) (by decide) rfl (fun ls hl => ?_)
              refine lv_goto (tgt := 55) hx hb dX12_seeks_191 (by decide) ?_
              exact ih_11 (v_3 + 1) S_4 H locs ls hM hG (lv_sub hl [0, 2, 3, 4, 5, 6] rfl)
            · replace hM := ifn hM c_22
              refine lv_aload_n hx hb dX12_seeks_87 rfl (lv_at hl 2 rfl) ?_
              refine lv_iload_n hx hb dX12_seeks_88 rfl (lv_at hl 3 rfl) ?_
              refine lv_iload_n hx hb dX12_seeks_89 rfl (lv_at hl 5 rfl) ?_
              refine lv_iload hx hb dX12_seeks_90 (lv_at hl 1 rfl) ?_
              refine gi_sub hx hb dX12_seeks_92 ?_
              refine lv_iload hx hb dX12_seeks_93 (lv_at hl 6 rfl) ?_
              obtain ⟨r_24, hc_23, hM⟩ := bd1_some hM
              refine g_si (As := [.int (iI a4)]) (rest := [.int (iI (a3 - v_3)), .int (iI a1), .ref (b + 80)]) S hG hsz (vX12_less l hn a4 hc_23) wS_12_450 dX12_seeks_95 rfl hl.1 (ar := 1) (by decide +kernel) rfl (by refine ⟨?_, ?_, ?_, ?_⟩ <;> first | exact Nat.le_of_ble_eq_true rfl | (simp only [gRm]; omega)) (Nat.le_of_ble_eq_true rfl) (fun rv uu H locs hp hG => ?_)
              obtain ⟨rfl, rfl⟩ := hp
              replace hG : gW D cy b n s H locs (enc b cy X S_4) := hG
              obtain ⟨r_26, hc_25, hM⟩ := bd1_some hM
              refine g_vl (As := [.int (iI a1), .int (iI (a3 - v_3)), .int (iI r_24)]) (rest := []) S hG hsz (vX12_rowsOf l hn a1 (a3 - v_3) r_24 hc_25) wV_12_453 (ec_83 _) cpX12 (Nat.lt_of_lt_of_le (Nat.le_of_ble_eq_true rfl) hn) dX12_seeks_98 rfl hl.1 (ar := 3) (by decide +kernel) rfl (by refine ⟨?_, ?_, ?_, ?_⟩ <;> first | exact Nat.le_of_ble_eq_true rfl | (simp only [gRm]; omega)) (Nat.le_of_ble_eq_true rfl) (fun rv uu H locs hp hG => ?_)
              obtain ⟨rfl, rfl⟩ := hp
              replace hG : gW D cy b n s H locs (enc b cy X S_4) := hG
              refine lv_lconst (v := jJ 0) hx hb dX12_seeks_101 (by decide) ?_
              obtain ⟨hg_27, hM⟩ := gd_some hM
              refine gj_cmp_ne (tgt := 109) hx hb dX12_seeks_102 dX12_seeks_103 (by decide) hg_27 (by decide) (fun c_28 => ?_) (fun c_28 => ?_)
              · replace hM := ifn hM c_28
                refine lv_iconst (v := iI 0) hx hb dX12_seeks_109 (by decide) ?_
                refine lv_istore (lv' := [(8, .int (iI 0)), (6, .long (jJ x_20)), (5, .int (iI v_3)), (0, .ref (b + 80)), (1, .int (iI a1)), (2, .int (iI a2)), (3, .int (iI a3)), (4, .int (iI a4))]) hx hb dX12_seeks_110 hl (by decide) rfl (fun ls hl => ?_)
                obtain ⟨t_31, S_32, hc_33, hM⟩ := bd2_some hM
                have hK_34 : ∀ (H : Heap) (locs : List Loc) (ls : Array Slot), t_31 = 0 → gW D cy b n s H locs (enc b cy X S_32) → lv_has ls 9 [] → W p l e (gRm (d + 1) 0 0) s m args below meth c H locs 0 0 (gQI D cy b s args below 0 0 (fun r u => r = iI o1 ∧ u = (n, enc b cy X o2))) (F0 m 170 ls []) := by
                  intro H locs ls ht hG hl
                  subst ht
                  replace hM := ifp hM rfl
                  cases hM
                  exact hK_8 H locs ls rfl hG (lv_sub hl [] rfl)
                have hK_35 : ∀ (H : Heap) (locs : List Loc) (ls : Array Slot), t_31 = 1 → gW D cy b n s H locs (enc b cy X S_32) → lv_has ls 9 [(5, .int (iI v_3)), (0, .ref (b + 80)), (1, .int (iI a1)), (2, .int (iI a2)), (3, .int (iI a3)), (4, .int (iI a4))] → W p l e (gRm (d + 1) 0 0) s m args below meth c H locs 0 0 (gQI D cy b s args below 0 0 (fun r u => r = iI o1 ∧ u = (n, enc b cy X o2))) (F0 m 188 ls []) := by
                  intro H locs ls ht hG hl
                  subst ht
                  replace hM := ifn hM (by decide)
                  refine lv_iinc (v := iI (v_3 + 1)) (lv' := [(5, .int (iI (v_3 + 1))), (0, .ref (b + 80)), (1, .int (iI a1)), (2, .int (iI a2)), (3, .int (iI a3)), (4, .int (iI a4))]) hx hb dX12_seeks_188 hl (k := 0) rfl ((iI_add v_3 (1)).trans (congrArg iI (by omega))) (by decide) rfl (fun ls hl => ?_)
                  refine lv_goto (tgt := 55) hx hb dX12_seeks_191 (by decide) ?_
                  exact ih_11 (v_3 + 1) S_32 H locs ls hM hG (lv_sub hl [0, 1, 2, 3, 4, 5] rfl)
                have loop_36 : ∀ (f : Nat) (v_29 : Int) (S_30 : St) (H : Heap) (locs : List Loc) (ls : Array Slot), mX12_seeks_112 rec x_20 v_3 a1 a2 a3 a4 f v_29 S_30 = some (t_31, S_32) → gW D cy b n s H locs (enc b cy X S_30) → lv_has ls 9 [(8, .int (iI v_29)), (6, .long (jJ x_20)), (5, .int (iI v_3)), (0, .ref (b + 80)), (1, .int (iI a1)), (2, .int (iI a2)), (3, .int (iI a3)), (4, .int (iI a4))] → W p l e (gRm (d + 1) 0 0) s m args below meth c H locs 0 0 (gQI D cy b s args below 0 0 (fun r u => r = iI o1 ∧ u = (n, enc b cy X o2))) (F0 m 112 ls []) := by
                  clear hM
                  intro f
                  induction f with
                  | zero => intro v_29 S_30 H locs ls hM; rw [mX12_seeks_112] at hM; cases hM
                  | succ f_38 ih_37 =>
                    intro v_29 S_30 H locs ls hM hG hl
                    rw [mX12_seeks_112] at hM
                    refine lv_iload hx hb dX12_seeks_112 (lv_at hl 0 rfl) ?_
                    obtain ⟨hg_39, hM⟩ := gd_some hM
                    refine gi_i2l hx hb dX12_seeks_114 hg_39 ?_
                    refine lv_lload hx hb dX12_seeks_115 (lv_at hl 1 rfl) ?_
                    obtain ⟨hg_40, hM⟩ := gd_some hM
                    refine gj_cmp_ge (tgt := 188) hx hb dX12_seeks_117 dX12_seeks_118 (by decide) hg_40 hg_21 (fun c_41 => ?_) (fun c_41 => ?_)
                    · replace hM := ifp hM c_41
                      cases hM
                      exact hK_35 H locs ls rfl hG (lv_sub hl [2, 3, 4, 5, 6, 7] rfl)
                    · replace hM := ifn hM c_41
                      refine lv_aload_n hx hb dX12_seeks_121 rfl (lv_at hl 3 rfl) ?_
                      refine m_get S hG 80 83 31 rfl ec_83 cpX12 wm_1704 dX12_seeks_122 rfl (Nat.lt_of_lt_of_le (Nat.le_of_ble_eq_true rfl) hn) (by decide) ?_
                      refine lv_iload_n hx hb dX12_seeks_125 rfl (lv_at hl 5 rfl) ?_
                      obtain ⟨hg_42, hM⟩ := gd_some hM
                      refine gi_icmp_le (tgt := 144) hx hb dX12_seeks_126 (by decide) hg_42.1 hg_42.2 (fun c_43 => ?_) (fun c_43 => ?_)
                      · replace hM := ifp hM c_43
                        refine lv_aload_n hx hb dX12_seeks_144 rfl (lv_at hl 3 rfl) ?_
                        refine lv_iload hx hb dX12_seeks_145 (lv_at hl 2 rfl) ?_
                        refine lv_iload hx hb dX12_seeks_147 (lv_at hl 0 rfl) ?_
                        obtain ⟨S_45, hc_44, hM⟩ := bd1_some hM
                        refine g_vv (As := [.int (iI v_3), .int (iI v_29)]) (rest := []) S hG hsz (vX12_pushes l hn v_3 v_29 hc_44) wV_12_456 (ec_83 _) cpX12 (Nat.lt_of_lt_of_le (Nat.le_of_ble_eq_true rfl) hn) dX12_seeks_149 rfl hl.1 (ar := 2) (by decide +kernel) rfl (by refine ⟨?_, ?_, ?_, ?_⟩ <;> first | exact Nat.le_of_ble_eq_true rfl | (simp only [gRm]; omega)) (Nat.le_of_ble_eq_true rfl) (fun uu H locs hp hG => ?_)
                        obtain rfl := hp
                        replace hG : gW D cy b n s H locs (enc b cy X S_45) := hG
                        refine lv_aload_n hx hb dX12_seeks_152 rfl (lv_at hl 3 rfl) ?_
                        refine lv_iload_n hx hb dX12_seeks_153 rfl (lv_at hl 4 rfl) ?_
                        refine lv_iload_n hx hb dX12_seeks_154 rfl (lv_at hl 5 rfl) ?_
                        refine lv_iload_n hx hb dX12_seeks_155 rfl (lv_at hl 6 rfl) ?_
                        refine lv_iload hx hb dX12_seeks_156 (lv_at hl 2 rfl) ?_
                        refine gi_sub hx hb dX12_seeks_158 ?_
                        refine lv_iload hx hb dX12_seeks_159 (lv_at hl 7 rfl) ?_
                        obtain ⟨r_47, hc_46, hM⟩ := bd1_some hM
                        refine g_si (As := [.int (iI a4)]) (rest := [.int (iI (a3 - v_3)), .int (iI a2), .int (iI a1), .ref (b + 80)]) S hG hsz (vX12_less l hn a4 hc_46) wS_12_450 dX12_seeks_161 rfl hl.1 (ar := 1) (by decide +kernel) rfl (by refine ⟨?_, ?_, ?_, ?_⟩ <;> first | exact Nat.le_of_ble_eq_true rfl | (simp only [gRm]; omega)) (Nat.le_of_ble_eq_true rfl) (fun rv uu H locs hp hG => ?_)
                        obtain ⟨rfl, rfl⟩ := hp
                        replace hG : gW D cy b n s H locs (enc b cy X S_45) := hG
                        obtain ⟨r_49, S_50, hc_48, hM⟩ := bd2_some hM
                        refine g_vi (As := [.int (iI a1), .int (iI a2), .int (iI (a3 - v_3)), .int (iI r_47)]) (rest := []) S hG hsz (hr0 _ a1 a2 (a3 - v_3) r_47 _ _ hc_48) wV_12_427 (ec_83 _) cpX12 (Nat.lt_of_lt_of_le (Nat.le_of_ble_eq_true rfl) hn) dX12_seeks_164 rfl hl.1 (ar := 4) (by decide +kernel) rfl (by refine ⟨?_, ?_, ?_, ?_⟩ <;> first | exact Nat.le_of_ble_eq_true rfl | (simp only [gRm]; omega)) (Nat.le_of_ble_eq_true rfl) (fun rv uu H locs hp hG => ?_)
                        obtain ⟨rfl, rfl⟩ := hp
                        replace hG : gW D cy b n s H locs (enc b cy X S_50) := hG
                        obtain ⟨hg_51, hM⟩ := gd_some hM
                        refine gi_if_eq (tgt := 172) hx hb dX12_seeks_167 (by decide) hg_51 (fun c_52 => ?_) (fun c_52 => ?_)
                        · replace hM := ifp hM c_52
                          refine lv_aload_n hx hb dX12_seeks_172 rfl (lv_at hl 3 rfl) ?_
                          refine lv_dup hx hb dX12_seeks_173 rfl ?_
                          refine m_get S hG 80 83 31 rfl ec_83 cpX12 wm_1704 dX12_seeks_174 rfl (Nat.lt_of_lt_of_le (Nat.le_of_ble_eq_true rfl) hn) (by decide) ?_
                          refine lv_iconst (v := iI 1) hx hb dX12_seeks_177 (by decide) ?_
                          refine gi_sub hx hb dX12_seeks_178 ?_
                          refine m_put S hG 80 83 31 rfl 31 ((S_50 83 31) - 1) ec_83 cpX12 wm_1704 dX12_seeks_179 (pf_83_31) (Nat.lt_of_lt_of_le (Nat.le_of_ble_eq_true rfl) hn) (by decide) (Nat.le_of_ble_eq_true rfl) rfl rfl rfl (fun H locs S_53 eS_53 hG => ?_)
                          replace hM := nx_at hM eS_53
                          clear eS_53
                          refine lv_iinc (v := iI (v_29 + 1)) (lv' := [(8, .int (iI (v_29 + 1))), (6, .long (jJ x_20)), (5, .int (iI v_3)), (0, .ref (b + 80)), (1, .int (iI a1)), (2, .int (iI a2)), (3, .int (iI a3)), (4, .int (iI a4))]) hx hb dX12_seeks_182 hl (k := 0) rfl ((iI_add v_29 (1)).trans (congrArg iI (by omega))) (by decide) rfl (fun ls hl => ?_)
                          refine lv_goto (tgt := 112) hx hb dX12_seeks_185 (by decide) ?_
                          exact ih_37 (v_29 + 1) S_53 H locs ls hM hG (lv_sub hl [0, 1, 2, 3, 4, 5, 6, 7] rfl)
                        · replace hM := ifn hM c_52
                          cases hM
                          exact hK_34 H locs ls rfl hG (lv_sub hl [] rfl)
                      · replace hM := ifn hM c_43
                        refine lv_aload_n hx hb dX12_seeks_129 rfl (lv_at hl 3 rfl) ?_
                        refine lv_iload hx hb dX12_seeks_130 (lv_at hl 2 rfl) ?_
                        refine lv_iload hx hb dX12_seeks_132 (lv_at hl 0 rfl) ?_
                        refine lv_iload_n hx hb dX12_seeks_134 rfl (lv_at hl 5 rfl) ?_
                        obtain ⟨r_55, hc_54, hM⟩ := bd1_some hM
                        refine g_vi (As := [.int (iI v_3), .int (iI v_29), .int (iI a2)]) (rest := []) S hG hsz (vX12_isBelow l hn v_3 v_29 a2 hc_54) wV_12_463 (ec_83 _) cpX12 (Nat.lt_of_lt_of_le (Nat.le_of_ble_eq_true rfl) hn) dX12_seeks_135 rfl hl.1 (ar := 3) (by decide +kernel) rfl (by refine ⟨?_, ?_, ?_, ?_⟩ <;> first | exact Nat.le_of_ble_eq_true rfl | (simp only [gRm]; omega)) (Nat.le_of_ble_eq_true rfl) (fun rv uu H locs hp hG => ?_)
                        obtain ⟨rfl, rfl⟩ := hp
                        replace hG : gW D cy b n s H locs (enc b cy X S_30) := hG
                        obtain ⟨hg_56, hM⟩ := gd_some hM
                        refine gi_if_eq (tgt := 144) hx hb dX12_seeks_138 (by decide) hg_56 (fun c_57 => ?_) (fun c_57 => ?_)
                        · replace hM := ifp hM c_57
                          refine lv_aload_n hx hb dX12_seeks_144 rfl (lv_at hl 3 rfl) ?_
                          refine lv_iload hx hb dX12_seeks_145 (lv_at hl 2 rfl) ?_
                          refine lv_iload hx hb dX12_seeks_147 (lv_at hl 0 rfl) ?_
                          obtain ⟨S_59, hc_58, hM⟩ := bd1_some hM
                          refine g_vv (As := [.int (iI v_3), .int (iI v_29)]) (rest := []) S hG hsz (vX12_pushes l hn v_3 v_29 hc_58) wV_12_456 (ec_83 _) cpX12 (Nat.lt_of_lt_of_le (Nat.le_of_ble_eq_true rfl) hn) dX12_seeks_149 rfl hl.1 (ar := 2) (by decide +kernel) rfl (by refine ⟨?_, ?_, ?_, ?_⟩ <;> first | exact Nat.le_of_ble_eq_true rfl | (simp only [gRm]; omega)) (Nat.le_of_ble_eq_true rfl) (fun uu H locs hp hG => ?_)
                          obtain rfl := hp
                          replace hG : gW D cy b n s H locs (enc b cy X S_59) := hG
                          refine lv_aload_n hx hb dX12_seeks_152 rfl (lv_at hl 3 rfl) ?_
                          refine lv_iload_n hx hb dX12_seeks_153 rfl (lv_at hl 4 rfl) ?_
                          refine lv_iload_n hx hb dX12_seeks_154 rfl (lv_at hl 5 rfl) ?_
                          refine lv_iload_n hx hb dX12_seeks_155 rfl (lv_at hl 6 rfl) ?_
                          refine lv_iload hx hb dX12_seeks_156 (lv_at hl 2 rfl) ?_
                          refine gi_sub hx hb dX12_seeks_158 ?_
                          refine lv_iload hx hb dX12_seeks_159 (lv_at hl 7 rfl) ?_
                          obtain ⟨r_61, hc_60, hM⟩ := bd1_some hM
                          refine g_si (As := [.int (iI a4)]) (rest := [.int (iI (a3 - v_3)), .int (iI a2), .int (iI a1), .ref (b + 80)]) S hG hsz (vX12_less l hn a4 hc_60) wS_12_450 dX12_seeks_161 rfl hl.1 (ar := 1) (by decide +kernel) rfl (by refine ⟨?_, ?_, ?_, ?_⟩ <;> first | exact Nat.le_of_ble_eq_true rfl | (simp only [gRm]; omega)) (Nat.le_of_ble_eq_true rfl) (fun rv uu H locs hp hG => ?_)
                          obtain ⟨rfl, rfl⟩ := hp
                          replace hG : gW D cy b n s H locs (enc b cy X S_59) := hG
                          obtain ⟨r_63, S_64, hc_62, hM⟩ := bd2_some hM
                          refine g_vi (As := [.int (iI a1), .int (iI a2), .int (iI (a3 - v_3)), .int (iI r_61)]) (rest := []) S hG hsz (hr0 _ a1 a2 (a3 - v_3) r_61 _ _ hc_62) wV_12_427 (ec_83 _) cpX12 (Nat.lt_of_lt_of_le (Nat.le_of_ble_eq_true rfl) hn) dX12_seeks_164 rfl hl.1 (ar := 4) (by decide +kernel) rfl (by refine ⟨?_, ?_, ?_, ?_⟩ <;> first | exact Nat.le_of_ble_eq_true rfl | (simp only [gRm]; omega)) (Nat.le_of_ble_eq_true rfl) (fun rv uu H locs hp hG => ?_)
                          obtain ⟨rfl, rfl⟩ := hp
                          replace hG : gW D cy b n s H locs (enc b cy X S_64) := hG
                          obtain ⟨hg_65, hM⟩ := gd_some hM
                          refine gi_if_eq (tgt := 172) hx hb dX12_seeks_167 (by decide) hg_65 (fun c_66 => ?_) (fun c_66 => ?_)
                          · replace hM := ifp hM c_66
                            refine lv_aload_n hx hb dX12_seeks_172 rfl (lv_at hl 3 rfl) ?_
                            refine lv_dup hx hb dX12_seeks_173 rfl ?_
                            refine m_get S hG 80 83 31 rfl ec_83 cpX12 wm_1704 dX12_seeks_174 rfl (Nat.lt_of_lt_of_le (Nat.le_of_ble_eq_true rfl) hn) (by decide) ?_
                            refine lv_iconst (v := iI 1) hx hb dX12_seeks_177 (by decide) ?_
                            refine gi_sub hx hb dX12_seeks_178 ?_
                            refine m_put S hG 80 83 31 rfl 31 ((S_64 83 31) - 1) ec_83 cpX12 wm_1704 dX12_seeks_179 (pf_83_31) (Nat.lt_of_lt_of_le (Nat.le_of_ble_eq_true rfl) hn) (by decide) (Nat.le_of_ble_eq_true rfl) rfl rfl rfl (fun H locs S_67 eS_67 hG => ?_)
                            replace hM := nx_at hM eS_67
                            clear eS_67
                            refine lv_iinc (v := iI (v_29 + 1)) (lv' := [(8, .int (iI (v_29 + 1))), (6, .long (jJ x_20)), (5, .int (iI v_3)), (0, .ref (b + 80)), (1, .int (iI a1)), (2, .int (iI a2)), (3, .int (iI a3)), (4, .int (iI a4))]) hx hb dX12_seeks_182 hl (k := 0) rfl ((iI_add v_29 (1)).trans (congrArg iI (by omega))) (by decide) rfl (fun ls hl => ?_)
                            refine lv_goto (tgt := 112) hx hb dX12_seeks_185 (by decide) ?_
                            exact ih_37 (v_29 + 1) S_67 H locs ls hM hG (lv_sub hl [0, 1, 2, 3, 4, 5, 6, 7] rfl)
                          · replace hM := ifn hM c_66
                            cases hM
                            exact hK_34 H locs ls rfl hG (lv_sub hl [] rfl)
                        · replace hM := ifn hM c_57
                          refine lv_goto (tgt := 182) hx hb dX12_seeks_141 (by decide) ?_
                          refine lv_iinc (v := iI (v_29 + 1)) (lv' := [(8, .int (iI (v_29 + 1))), (6, .long (jJ x_20)), (5, .int (iI v_3)), (0, .ref (b + 80)), (1, .int (iI a1)), (2, .int (iI a2)), (3, .int (iI a3)), (4, .int (iI a4))]) hx hb dX12_seeks_182 hl (k := 0) rfl ((iI_add v_29 (1)).trans (congrArg iI (by omega))) (by decide) rfl (fun ls hl => ?_)
                          refine lv_goto (tgt := 112) hx hb dX12_seeks_185 (by decide) ?_
                          exact ih_37 (v_29 + 1) S_30 H locs ls hM hG (lv_sub hl [0, 1, 2, 3, 4, 5, 6, 7] rfl)
                exact loop_36 FU 0 S_4 H locs ls hc_33 hG (lv_sub hl [0, 1, 2, 3, 4, 5, 6, 7] rfl)
              · replace hM := ifp hM c_28
                refine lv_goto (tgt := 188) hx hb dX12_seeks_106 (by decide) ?_
                refine lv_iinc (v := iI (v_3 + 1)) (lv' := [(5, .int (iI (v_3 + 1))), (6, .long (jJ x_20)), (0, .ref (b + 80)), (1, .int (iI a1)), (2, .int (iI a2)), (3, .int (iI a3)), (4, .int (iI a4))]) hx hb dX12_seeks_188 hl (k := 1) rfl ((iI_add v_3 (1)).trans (congrArg iI (by omega))) (by decide) rfl (fun ls hl => ?_)
                refine lv_goto (tgt := 55) hx hb dX12_seeks_191 (by decide) ?_
                exact ih_11 (v_3 + 1) S_4 H locs ls hM hG (lv_sub hl [0, 2, 3, 4, 5, 6] rfl)
    exact loop_10 FU 1 S0 H locs ls hc_7 hG (lv_sub hl [0, 1, 2, 3, 4, 5] rfl)
  · replace hM := ifp hM c_2
    refine lv_iload hx hb dX12_seeks_4 (lv_at hl 4 rfl) ?_
    obtain ⟨hg_68, hM⟩ := gd_some hM
    refine gi_if_gt (tgt := 25) hx hb dX12_seeks_6 (by decide) hg_68 (fun c_69 => ?_) (fun c_69 => ?_)
    · replace hM := ifp hM c_69
      refine lv_iconst (v := iI 0) hx hb dX12_seeks_25 (by decide) ?_
      cases hM
      exact g_zret S hr hlk hG hsz dX12_seeks_26 ⟨Nat.le_of_ble_eq_true rfl, Nat.le_of_ble_eq_true rfl⟩ (nar_z (by decide)) ⟨rfl, rfl⟩
    · replace hM := ifn hM c_69
      refine lv_aload_n hx hb dX12_seeks_9 rfl (lv_at hl 0 rfl) ?_
      refine m_get S hG 80 83 31 rfl ec_83 cpX12 wm_1704 dX12_seeks_10 rfl (Nat.lt_of_lt_of_le (Nat.le_of_ble_eq_true rfl) hn) (by decide) ?_
      refine lv_iload_n hx hb dX12_seeks_13 rfl (lv_at hl 2 rfl) ?_
      obtain ⟨hg_70, hM⟩ := gd_some hM
      refine gi_icmp_eq (tgt := 25) hx hb dX12_seeks_14 (by decide) hg_70.1 hg_70.2 (fun c_71 => ?_) (fun c_71 => ?_)
      · replace hM := ifp hM c_71
        refine lv_iconst (v := iI 0) hx hb dX12_seeks_25 (by decide) ?_
        cases hM
        exact g_zret S hr hlk hG hsz dX12_seeks_26 ⟨Nat.le_of_ble_eq_true rfl, Nat.le_of_ble_eq_true rfl⟩ (nar_z (by decide)) ⟨rfl, rfl⟩
      · replace hM := ifn hM c_71
        refine lv_aload_n hx hb dX12_seeks_17 rfl (lv_at hl 0 rfl) ?_
        refine lv_iload_n hx hb dX12_seeks_18 rfl (lv_at hl 2 rfl) ?_
        obtain ⟨r_73, hc_72, hM⟩ := bd1_some hM
        refine g_vi (As := [.int (iI a2)]) (rest := []) S hG hsz (vX12_isLeast l hn a2 hc_72) wV_12_467 (ec_83 _) cpX12 (Nat.lt_of_lt_of_le (Nat.le_of_ble_eq_true rfl) hn) dX12_seeks_19 rfl hl.1 (ar := 1) (by decide +kernel) rfl (by refine ⟨?_, ?_, ?_, ?_⟩ <;> first | exact Nat.le_of_ble_eq_true rfl | (simp only [gRm]; omega)) (Nat.le_of_ble_eq_true rfl) (fun rv uu H locs hp hG => ?_)
        obtain ⟨rfl, rfl⟩ := hp
        replace hG : gW D cy b n s H locs (enc b cy X S0) := hG
        obtain ⟨hg_74, hM⟩ := gd_some hM
        refine gi_if_ne (tgt := 27) hx hb dX12_seeks_22 (by decide) hg_74 (fun c_75 => ?_) (fun c_75 => ?_)
        · replace hM := ifn hM c_75
          refine lv_aload_n hx hb dX12_seeks_27 rfl (lv_at hl 0 rfl) ?_
          refine lv_dup hx hb dX12_seeks_28 rfl ?_
          refine m_get S hG 80 83 32 rfl ec_83 cpX12 wm_1705 dX12_seeks_29 rfl (Nat.lt_of_lt_of_le (Nat.le_of_ble_eq_true rfl) hn) (by decide) ?_
          refine lv_lconst (v := jJ 1) hx hb dX12_seeks_32 (by decide) ?_
          refine gj_sub hx hb dX12_seeks_33 ?_
          refine m_put S hG 80 83 32 rfl 32 ((S0 83 32) - 1) ec_83 cpX12 wm_1705 dX12_seeks_34 (pf_83_32) (Nat.lt_of_lt_of_le (Nat.le_of_ble_eq_true rfl) hn) (by decide) (Nat.le_of_ble_eq_true rfl) rfl rfl rfl (fun H locs S_76 eS_76 hG => ?_)
          replace hM := nx_at hM eS_76
          clear eS_76
          refine lv_aload_n hx hb dX12_seeks_37 rfl (lv_at hl 0 rfl) ?_
          refine m_get S hG 80 83 32 rfl ec_83 cpX12 wm_1705 dX12_seeks_38 rfl (Nat.lt_of_lt_of_le (Nat.le_of_ble_eq_true rfl) hn) (by decide) ?_
          refine lv_lconst (v := jJ 0) hx hb dX12_seeks_41 (by decide) ?_
          obtain ⟨hg_77, hM⟩ := gd_some hM
          refine gj_cmp_ge (tgt := 50) hx hb dX12_seeks_42 dX12_seeks_43 (by decide) hg_77 (by decide) (fun c_78 => ?_) (fun c_78 => ?_)
          · replace hM := ifp hM c_78
            refine lv_iconst (v := iI 0) hx hb dX12_seeks_50 (by decide) ?_
            cases hM
            exact g_zret S hr hlk hG hsz dX12_seeks_51 ⟨Nat.le_of_ble_eq_true rfl, Nat.le_of_ble_eq_true rfl⟩ (nar_z (by decide)) ⟨rfl, rfl⟩
          · replace hM := ifn hM c_78
            refine lv_iconst (v := iI 1) hx hb dX12_seeks_46 (by decide) ?_
            refine lv_goto (tgt := 51) hx hb dX12_seeks_47 (by decide) ?_
            cases hM
            exact g_zret S hr hlk hG hsz dX12_seeks_51 ⟨Nat.le_of_ble_eq_true rfl, Nat.le_of_ble_eq_true rfl⟩ (nar_z (by decide)) ⟨rfl, rfl⟩
        · replace hM := ifp hM c_75
          refine lv_iconst (v := iI 0) hx hb dX12_seeks_25 (by decide) ?_
          cases hM
          exact g_zret S hr hlk hG hsz dX12_seeks_26 ⟨Nat.le_of_ble_eq_true rfl, Nat.le_of_ble_eq_true rfl⟩ (nar_z (by decide)) ⟨rfl, rfl⟩
def RX12_seeks : Nat → Nat → Int → Int → Int → Int → St → Option (Int × St)
  | 0, _, _, _, _, _, _ => none
  | f + 1, t, x1, x2, x3, x4, S0 => if t = 0 then (bX12_seeks (RX12_seeks f) S0 x1 x2 x3 x4) else (none)
set_option maxHeartbeats 4000000 in
theorem vRX12_seeks (l : Launch) {D : va_G} {cy : Nat → ClassId} {b n : Nat} (hn : 102 ≤ n) {X : Nat → va_E} : ∀ f : Nat, (∀ (S0 : St) (a1 : Int) (a2 : Int) (a3 : Int) (a4 : Int) (o1 : Int) (o2 : St), RX12_seeks f 0 a1 a2 a3 a4 S0 = some (o1, o2) → gI l yX12_seeks cX12_seeks 9 (some .boolean) (15 + f) 0 0 D cy b n (enc b cy X S0) [.ref (b + 80), .int (iI a1), .int (iI a2), .int (iI a3), .int (iI a4)] (fun r u => r = iI o1 ∧ u = (n, enc b cy X o2))) := by
  intro f
  induction f with
  | zero =>
    skip
    all_goals
      intros; rename_i hM; rw [RX12_seeks] at hM; cases hM
  | succ f ih =>
    have hr0 := ih
    · intro S0 a1 a2 a3 a4 o1 o2 hM
      rw [RX12_seeks] at hM
      replace hM := ifp hM rfl
      exact spX12_seeks l hn (RX12_seeks f) (15 + f) (Nat.le_add_right _ _) hr0 S0 a1 a2 a3 a4 _ _ hM
def mX12_seeks (S0 : St) (a1 : Int) (a2 : Int) (a3 : Int) (a4 : Int) : Option (Int × St) := RX12_seeks 12 0 a1 a2 a3 a4 S0
theorem vX12_seeks (l : Launch) {D : va_G} {cy : Nat → ClassId} {b n : Nat} (hn : 102 ≤ n) {X : Nat → va_E} {S0 : St} (a1 : Int) (a2 : Int) (a3 : Int) (a4 : Int) {o1 : Int} {o2 : St} (hM : mX12_seeks S0 a1 a2 a3 a4 = some (o1, o2)) : gI l yX12_seeks cX12_seeks 9 (some .boolean) 27 0 0 D cy b n (enc b cy X S0) [.ref (b + 80), .int (iI a1), .int (iI a2), .int (iI a3), .int (iI a4)] (fun r u => r = iI o1 ∧ u = (n, enc b cy X o2)) := by
  unfold mX12_seeks at hM
  exact (vRX12_seeks l hn 12) S0 a1 a2 a3 a4 _ _ hM
theorem wV_12_522 : gWV "GrownKindsModel" 522 yX12_areSameBags cX12_areSameBags 8 (some .boolean) := ⟨wm_2330, wm_2332, wm_166, wm_188, wm_2333, by decide +kernel, by decide +kernel⟩
theorem wV_12_525 : gWV "GrownKindsModel" 525 yX12_areSameFrom cX12_areSameFrom 6 (some .boolean) := ⟨wm_2334, wm_2336, wm_167, wm_188, wm_2337, by decide +kernel, by decide +kernel⟩
theorem wV_12_519 : gWV "GrownKindsModel" 519 yX12_areSame cX12_areSame 4 (some .boolean) := ⟨wm_2326, wm_2328, wm_165, wm_188, wm_2329, by decide +kernel, by decide +kernel⟩
def mX12_areSame_105 (rec : Nat → Int → Int → Int → St → Option (Int)) (S0 : St) (a1 : Int) (a2 : Int) : Nat → Int → Option (Int)
  | 0, _ => none
  | f + 1, v_16 => gd (inI v_16) <| if v_16 < 0 then (some (1)) else (bd1 (rec 2 a1 a2 v_16 S0) fun r_27 => gd (inI r_27) <| if r_27 = 0 then (gd (0 ≤ v_16 ∧ v_16 < 1024) <| nx (S0 103 v_16) fun x_31 => mX12_areSame_105 rec S0 a1 a2 f x_31) else (some (0)))
def bX12_areSame (rec : Nat → Int → Int → Int → St → Option (Int)) (S0 : St) (a1 : Int) (a2 : Int) : Option (Int) := gd (0 ≤ a1 ∧ a1 < 1024) <| gd (0 ≤ a2 ∧ a2 < 1024) <| gd ((inI (S0 99 a1)) ∧ (inI (S0 99 a2))) <| if (S0 99 a1) = (S0 99 a2) then (gd ((inI (S0 100 a1)) ∧ (inI (S0 100 a2))) <| if (S0 100 a1) = (S0 100 a2) then (gd ((inI (S0 101 a1)) ∧ (inI (S0 101 a2))) <| if (S0 101 a1) = (S0 101 a2) then (if (S0 99 a1) = 4 then (bd1 (rec 1 a1 a2 0 S0) fun r_11 => gd (r_11 = 0 ∨ r_11 = 1) <| some (r_11)) else (if (S0 99 a1) = 5 then (bd1 (rec 1 a1 a2 0 S0) fun r_36 => gd (r_36 = 0 ∨ r_36 = 1) <| some (r_36)) else (if (S0 99 a1) = 6 then (nx (S0 102 a2) fun x_15 => bd1 (mX12_areSame_105 rec S0 a1 a2 FU x_15) fun t_17 => if t_17 = 0 then (some (1)) else (some (0))) else (bd1 (rec 2 a1 a2 (S0 102 a2) S0) fun r_33 => gd (r_33 = 0 ∨ r_33 = 1) <| some (r_33))))) else (some (0))) else (some (0))) else (some (0))
set_option maxHeartbeats 4000000 in
set_option maxRecDepth 100000 in
theorem spX12_areSame (l : Launch) {D : va_G} {cy : Nat → ClassId} {b n : Nat} (hn : 102 ≤ n) {X : Nat → va_E} (rec : Nat → Int → Int → Int → St → Option (Int)) (d : Nat) (hd : 1 ≤ d) (hr0 : ∀ (S0 : St) (a1 : Int) (a2 : Int) (o1 : Int), rec 0 a1 a2 0 S0 = some o1 → gI l yX12_areSame cX12_areSame 4 (some .boolean) d 0 0 D cy b n (enc b cy X S0) [.ref (b + 80), .int (iI a1), .int (iI a2)] (fun r u => r = iI o1 ∧ u = (n, enc b cy X S0))) (hr1 : ∀ (S0 : St) (a1 : Int) (a2 : Int) (o1 : Int), rec 1 a1 a2 0 S0 = some o1 → gI l yX12_areSameBags cX12_areSameBags 8 (some .boolean) d 0 0 D cy b n (enc b cy X S0) [.ref (b + 80), .int (iI a1), .int (iI a2)] (fun r u => r = iI o1 ∧ u = (n, enc b cy X S0))) (hr2 : ∀ (S0 : St) (a1 : Int) (a2 : Int) (a3 : Int) (o1 : Int), rec 2 a1 a2 a3 S0 = some o1 → gI l yX12_areSameFrom cX12_areSameFrom 6 (some .boolean) d 0 0 D cy b n (enc b cy X S0) [.ref (b + 80), .int (iI a1), .int (iI a2), .int (iI a3)] (fun r u => r = iI o1 ∧ u = (n, enc b cy X S0))) (S0 : St) (a1 : Int) (a2 : Int) (o1 : Int) (hM : bX12_areSame rec S0 a1 a2 = some o1) : gI l yX12_areSame cX12_areSame 4 (some .boolean) (d + 1) 0 0 D cy b n (enc b cy X S0) [.ref (b + 80), .int (iI a1), .int (iI a2)] (fun r u => r = iI o1 ∧ u = (n, enc b cy X S0)) := by
  refine gI_of (by decide) (Nat.le_of_ble_eq_true rfl) ?_
  intro p e s m args below meth c S hr hlk hin hsz ls hl hG
  have hx := S.1
  have hb := S.2.1
  have hl : lv_has ls 4 [(0, .ref (b + 80)), (1, .int (iI a1)), (2, .int (iI a2))] := hl
  replace hG : gW D cy b n s s.heap [] (enc b cy X S0) := hG
  obtain ⟨H, eH⟩ : ∃ H, H = s.heap := ⟨_, rfl⟩
  obtain ⟨locs, elocs⟩ : ∃ locs : List Loc, locs = [] := ⟨_, rfl⟩
  rw [← eH, ← elocs] at hG
  rw [← eH, ← elocs]
  clear eH elocs
  unfold bX12_areSame at hM
  refine lv_aload_n hx hb dX12_areSame_0 rfl (lv_at hl 0 rfl) ?_
  refine m_get S hG 80 83 33 rfl ec_83 cpX12 wm_1706 dX12_areSame_1 rfl (Nat.lt_of_lt_of_le (Nat.le_of_ble_eq_true rfl) hn) (by decide) ?_
  refine lv_iload_n hx hb dX12_areSame_4 rfl (lv_at hl 1 rfl) ?_
  obtain ⟨hg_1, hM⟩ := gd_some hM
  refine mi_ald S hG 96 99 rfl ec_99 (Nat.lt_of_lt_of_le (Nat.le_of_ble_eq_true rfl) hn) dX12_areSame_5 hg_1 (by decide) ?_
  refine lv_aload_n hx hb dX12_areSame_6 rfl (lv_at hl 0 rfl) ?_
  refine m_get S hG 80 83 33 rfl ec_83 cpX12 wm_1706 dX12_areSame_7 rfl (Nat.lt_of_lt_of_le (Nat.le_of_ble_eq_true rfl) hn) (by decide) ?_
  refine lv_iload_n hx hb dX12_areSame_10 rfl (lv_at hl 2 rfl) ?_
  obtain ⟨hg_2, hM⟩ := gd_some hM
  refine mi_ald S hG 96 99 rfl ec_99 (Nat.lt_of_lt_of_le (Nat.le_of_ble_eq_true rfl) hn) dX12_areSame_11 hg_2 (by decide) ?_
  obtain ⟨hg_3, hM⟩ := gd_some hM
  refine gi_icmp_ne (tgt := 45) hx hb dX12_areSame_12 (by decide) hg_3.1 hg_3.2 (fun c_4 => ?_) (fun c_4 => ?_)
  · replace hM := ifn hM c_4
    refine lv_iconst (v := iI 0) hx hb dX12_areSame_45 (by decide) ?_
    cases hM
    exact g_zret S hr hlk hG hsz dX12_areSame_46 ⟨Nat.le_of_ble_eq_true rfl, Nat.le_of_ble_eq_true rfl⟩ (nar_z (by decide)) ⟨rfl, rfl⟩
  · replace hM := ifp hM c_4
    refine lv_aload_n hx hb dX12_areSame_15 rfl (lv_at hl 0 rfl) ?_
    refine m_get S hG 80 83 34 rfl ec_83 cpX12 wm_1707 dX12_areSame_16 rfl (Nat.lt_of_lt_of_le (Nat.le_of_ble_eq_true rfl) hn) (by decide) ?_
    refine lv_iload_n hx hb dX12_areSame_19 rfl (lv_at hl 1 rfl) ?_
    refine mi_ald S hG 97 100 rfl ec_100 (Nat.lt_of_lt_of_le (Nat.le_of_ble_eq_true rfl) hn) dX12_areSame_20 hg_1 (by decide) ?_
    refine lv_aload_n hx hb dX12_areSame_21 rfl (lv_at hl 0 rfl) ?_
    refine m_get S hG 80 83 34 rfl ec_83 cpX12 wm_1707 dX12_areSame_22 rfl (Nat.lt_of_lt_of_le (Nat.le_of_ble_eq_true rfl) hn) (by decide) ?_
    refine lv_iload_n hx hb dX12_areSame_25 rfl (lv_at hl 2 rfl) ?_
    refine mi_ald S hG 97 100 rfl ec_100 (Nat.lt_of_lt_of_le (Nat.le_of_ble_eq_true rfl) hn) dX12_areSame_26 hg_2 (by decide) ?_
    obtain ⟨hg_5, hM⟩ := gd_some hM
    refine gi_icmp_ne (tgt := 45) hx hb dX12_areSame_27 (by decide) hg_5.1 hg_5.2 (fun c_6 => ?_) (fun c_6 => ?_)
    · replace hM := ifn hM c_6
      refine lv_iconst (v := iI 0) hx hb dX12_areSame_45 (by decide) ?_
      cases hM
      exact g_zret S hr hlk hG hsz dX12_areSame_46 ⟨Nat.le_of_ble_eq_true rfl, Nat.le_of_ble_eq_true rfl⟩ (nar_z (by decide)) ⟨rfl, rfl⟩
    · replace hM := ifp hM c_6
      refine lv_aload_n hx hb dX12_areSame_30 rfl (lv_at hl 0 rfl) ?_
      refine m_get S hG 80 83 35 rfl ec_83 cpX12 wm_1708 dX12_areSame_31 rfl (Nat.lt_of_lt_of_le (Nat.le_of_ble_eq_true rfl) hn) (by decide) ?_
      refine lv_iload_n hx hb dX12_areSame_34 rfl (lv_at hl 1 rfl) ?_
      refine mi_ald S hG 98 101 rfl ec_101 (Nat.lt_of_lt_of_le (Nat.le_of_ble_eq_true rfl) hn) dX12_areSame_35 hg_1 (by decide) ?_
      refine lv_aload_n hx hb dX12_areSame_36 rfl (lv_at hl 0 rfl) ?_
      refine m_get S hG 80 83 35 rfl ec_83 cpX12 wm_1708 dX12_areSame_37 rfl (Nat.lt_of_lt_of_le (Nat.le_of_ble_eq_true rfl) hn) (by decide) ?_
      refine lv_iload_n hx hb dX12_areSame_40 rfl (lv_at hl 2 rfl) ?_
      refine mi_ald S hG 98 101 rfl ec_101 (Nat.lt_of_lt_of_le (Nat.le_of_ble_eq_true rfl) hn) dX12_areSame_41 hg_2 (by decide) ?_
      obtain ⟨hg_7, hM⟩ := gd_some hM
      refine gi_icmp_eq (tgt := 47) hx hb dX12_areSame_42 (by decide) hg_7.1 hg_7.2 (fun c_8 => ?_) (fun c_8 => ?_)
      · replace hM := ifp hM c_8
        refine lv_aload_n hx hb dX12_areSame_47 rfl (lv_at hl 0 rfl) ?_
        refine m_get S hG 80 83 33 rfl ec_83 cpX12 wm_1706 dX12_areSame_48 rfl (Nat.lt_of_lt_of_le (Nat.le_of_ble_eq_true rfl) hn) (by decide) ?_
        refine lv_iload_n hx hb dX12_areSame_51 rfl (lv_at hl 1 rfl) ?_
        refine mi_ald S hG 96 99 rfl ec_99 (Nat.lt_of_lt_of_le (Nat.le_of_ble_eq_true rfl) hn) dX12_areSame_52 hg_1 (by decide) ?_
        refine lv_iconst (v := iI 4) hx hb dX12_areSame_53 (by decide) ?_
        refine gi_icmp_eq (tgt := 67) hx hb dX12_areSame_54 (by decide) hg_3.1 (by decide) (fun c_9 => ?_) (fun c_9 => ?_)
        · replace hM := ifp hM c_9
          refine lv_aload_n hx hb dX12_areSame_67 rfl (lv_at hl 0 rfl) ?_
          refine lv_iload_n hx hb dX12_areSame_68 rfl (lv_at hl 1 rfl) ?_
          refine lv_iload_n hx hb dX12_areSame_69 rfl (lv_at hl 2 rfl) ?_
          obtain ⟨r_11, hc_10, hM⟩ := bd1_some hM
          refine g_vi (As := [.int (iI a1), .int (iI a2)]) (rest := []) S hG hsz (hr1 _ a1 a2 _ hc_10) wV_12_522 (ec_83 _) cpX12 (Nat.lt_of_lt_of_le (Nat.le_of_ble_eq_true rfl) hn) dX12_areSame_70 rfl hl.1 (ar := 2) (by decide +kernel) rfl (by refine ⟨?_, ?_, ?_, ?_⟩ <;> first | exact Nat.le_of_ble_eq_true rfl | (simp only [gRm]; omega)) (Nat.le_of_ble_eq_true rfl) (fun rv uu H locs hp hG => ?_)
          obtain ⟨rfl, rfl⟩ := hp
          replace hG : gW D cy b n s H locs (enc b cy X S0) := hG
          obtain ⟨hg_12, hM⟩ := gd_some hM
          cases hM
          exact g_zret S hr hlk hG hsz dX12_areSame_73 ⟨Nat.le_of_ble_eq_true rfl, Nat.le_of_ble_eq_true rfl⟩ (nar_z hg_12) ⟨rfl, rfl⟩
        · replace hM := ifn hM c_9
          refine lv_aload_n hx hb dX12_areSame_57 rfl (lv_at hl 0 rfl) ?_
          refine m_get S hG 80 83 33 rfl ec_83 cpX12 wm_1706 dX12_areSame_58 rfl (Nat.lt_of_lt_of_le (Nat.le_of_ble_eq_true rfl) hn) (by decide) ?_
          refine lv_iload_n hx hb dX12_areSame_61 rfl (lv_at hl 1 rfl) ?_
          refine mi_ald S hG 96 99 rfl ec_99 (Nat.lt_of_lt_of_le (Nat.le_of_ble_eq_true rfl) hn) dX12_areSame_62 hg_1 (by decide) ?_
          refine lv_iconst (v := iI 5) hx hb dX12_areSame_63 (by decide) ?_
          refine gi_icmp_ne (tgt := 74) hx hb dX12_areSame_64 (by decide) hg_3.1 (by decide) (fun c_13 => ?_) (fun c_13 => ?_)
          · replace hM := ifn hM c_13
            refine lv_aload_n hx hb dX12_areSame_74 rfl (lv_at hl 0 rfl) ?_
            refine m_get S hG 80 83 33 rfl ec_83 cpX12 wm_1706 dX12_areSame_75 rfl (Nat.lt_of_lt_of_le (Nat.le_of_ble_eq_true rfl) hn) (by decide) ?_
            refine lv_iload_n hx hb dX12_areSame_78 rfl (lv_at hl 1 rfl) ?_
            refine mi_ald S hG 96 99 rfl ec_99 (Nat.lt_of_lt_of_le (Nat.le_of_ble_eq_true rfl) hn) dX12_areSame_79 hg_1 (by decide) ?_
            refine lv_bipush (v := iI 6) hx hb dX12_areSame_80 (by decide) ?_
            refine gi_icmp_eq (tgt := 98) hx hb dX12_areSame_82 (by decide) hg_3.1 (by decide) (fun c_14 => ?_) (fun c_14 => ?_)
            · replace hM := ifp hM c_14
              refine lv_aload_n hx hb dX12_areSame_98 rfl (lv_at hl 0 rfl) ?_
              refine m_get S hG 80 83 36 rfl ec_83 cpX12 wm_1709 dX12_areSame_99 rfl (Nat.lt_of_lt_of_le (Nat.le_of_ble_eq_true rfl) hn) (by decide) ?_
              refine lv_iload_n hx hb dX12_areSame_102 rfl (lv_at hl 2 rfl) ?_
              refine mi_ald S hG 99 102 rfl ec_102 (Nat.lt_of_lt_of_le (Nat.le_of_ble_eq_true rfl) hn) dX12_areSame_103 hg_2 (by decide) ?_
              refine gi_nm (fun x_15 ex_15 => ?_)
              replace hM := nx_at hM ex_15
              clear ex_15
              refine lv_istore_n (lv' := [(3, .int (iI x_15)), (0, .ref (b + 80)), (1, .int (iI a1)), (2, .int (iI a2))]) hx hb dX12_areSame_104 rfl hl (by decide) rfl (fun ls hl => ?_)
              obtain ⟨t_17, hc_18, hM⟩ := bd1_some hM
              have hK_19 : ∀ (H : Heap) (locs : List Loc) (ls : Array Slot), t_17 = 0 → gW D cy b n s H locs (enc b cy X S0) → lv_has ls 4 [] → W p l e (gRm (d + 1) 0 0) s m args below meth c H locs 0 0 (gQI D cy b s args below 0 0 (fun r u => r = iI o1 ∧ u = (n, enc b cy X S0))) (F0 m 119 ls []) := by
                intro H locs ls ht hG hl
                subst ht
                replace hM := ifp hM rfl
                refine lv_iconst (v := iI 1) hx hb dX12_areSame_119 (by decide) ?_
                cases hM
                exact g_zret S hr hlk hG hsz dX12_areSame_120 ⟨Nat.le_of_ble_eq_true rfl, Nat.le_of_ble_eq_true rfl⟩ (nar_z (by decide)) ⟨rfl, rfl⟩
              have hK_20 : ∀ (H : Heap) (locs : List Loc) (ls : Array Slot), t_17 = 1 → gW D cy b n s H locs (enc b cy X S0) → lv_has ls 4 [] → W p l e (gRm (d + 1) 0 0) s m args below meth c H locs 0 0 (gQI D cy b s args below 0 0 (fun r u => r = iI o1 ∧ u = (n, enc b cy X S0))) (F0 m 131 ls []) := by
                intro H locs ls ht hG hl
                subst ht
                replace hM := ifn hM (by decide)
                refine lv_iconst (v := iI 0) hx hb dX12_areSame_131 (by decide) ?_
                cases hM
                exact g_zret S hr hlk hG hsz dX12_areSame_132 ⟨Nat.le_of_ble_eq_true rfl, Nat.le_of_ble_eq_true rfl⟩ (nar_z (by decide)) ⟨rfl, rfl⟩
              have loop_21 : ∀ (f : Nat) (v_16 : Int) (H : Heap) (locs : List Loc) (ls : Array Slot), mX12_areSame_105 rec S0 a1 a2 f v_16 = some t_17 → gW D cy b n s H locs (enc b cy X S0) → lv_has ls 4 [(3, .int (iI v_16)), (0, .ref (b + 80)), (1, .int (iI a1)), (2, .int (iI a2))] → W p l e (gRm (d + 1) 0 0) s m args below meth c H locs 0 0 (gQI D cy b s args below 0 0 (fun r u => r = iI o1 ∧ u = (n, enc b cy X S0))) (F0 m 105 ls []) := by
                clear hM
                intro f
                induction f with
                | zero => intro v_16 H locs ls hM; rw [mX12_areSame_105] at hM; cases hM
                | succ f_23 ih_22 =>
                  intro v_16 H locs ls hM hG hl
                  rw [mX12_areSame_105] at hM
                  refine lv_iload_n hx hb dX12_areSame_105 rfl (lv_at hl 0 rfl) ?_
                  obtain ⟨hg_24, hM⟩ := gd_some hM
                  refine gi_if_lt (tgt := 131) hx hb dX12_areSame_106 (by decide) hg_24 (fun c_25 => ?_) (fun c_25 => ?_)
                  · replace hM := ifp hM c_25
                    cases hM
                    exact hK_20 H locs ls rfl hG (lv_sub hl [] rfl)
                  · replace hM := ifn hM c_25
                    refine lv_aload_n hx hb dX12_areSame_109 rfl (lv_at hl 1 rfl) ?_
                    refine lv_iload_n hx hb dX12_areSame_110 rfl (lv_at hl 2 rfl) ?_
                    refine lv_iload_n hx hb dX12_areSame_111 rfl (lv_at hl 3 rfl) ?_
                    refine lv_iload_n hx hb dX12_areSame_112 rfl (lv_at hl 0 rfl) ?_
                    obtain ⟨r_27, hc_26, hM⟩ := bd1_some hM
                    refine g_vi (As := [.int (iI a1), .int (iI a2), .int (iI v_16)]) (rest := []) S hG hsz (hr2 _ a1 a2 v_16 _ hc_26) wV_12_525 (ec_83 _) cpX12 (Nat.lt_of_lt_of_le (Nat.le_of_ble_eq_true rfl) hn) dX12_areSame_113 rfl hl.1 (ar := 3) (by decide +kernel) rfl (by refine ⟨?_, ?_, ?_, ?_⟩ <;> first | exact Nat.le_of_ble_eq_true rfl | (simp only [gRm]; omega)) (Nat.le_of_ble_eq_true rfl) (fun rv uu H locs hp hG => ?_)
                    obtain ⟨rfl, rfl⟩ := hp
                    replace hG : gW D cy b n s H locs (enc b cy X S0) := hG
                    obtain ⟨hg_28, hM⟩ := gd_some hM
                    refine gi_if_eq (tgt := 121) hx hb dX12_areSame_116 (by decide) hg_28 (fun c_29 => ?_) (fun c_29 => ?_)
                    · replace hM := ifp hM c_29
                      refine lv_aload_n hx hb dX12_areSame_121 rfl (lv_at hl 1 rfl) ?_
                      refine m_get S hG 80 83 37 rfl ec_83 cpX12 wm_1710 dX12_areSame_122 rfl (Nat.lt_of_lt_of_le (Nat.le_of_ble_eq_true rfl) hn) (by decide) ?_
                      refine lv_iload_n hx hb dX12_areSame_125 rfl (lv_at hl 0 rfl) ?_
                      obtain ⟨hg_30, hM⟩ := gd_some hM
                      refine mi_ald S hG 100 103 rfl ec_103 (Nat.lt_of_lt_of_le (Nat.le_of_ble_eq_true rfl) hn) dX12_areSame_126 hg_30 (by decide) ?_
                      refine gi_nm (fun x_31 ex_31 => ?_)
                      replace hM := nx_at hM ex_31
                      clear ex_31
                      refine lv_istore_n (lv' := [(3, .int (iI x_31)), (0, .ref (b + 80)), (1, .int (iI a1)), (2, .int (iI a2))]) hx hb dX12_areSame_127 rfl hl (by decide) rfl (fun ls hl => ?_)
                      refine lv_goto (tgt := 105) hx hb dX12_areSame_128 (by decide) ?_
                      exact ih_22 x_31 H locs ls hM hG (lv_sub hl [0, 1, 2, 3] rfl)
                    · replace hM := ifn hM c_29
                      cases hM
                      exact hK_19 H locs ls rfl hG (lv_sub hl [] rfl)
              exact loop_21 FU x_15 H locs ls hc_18 hG (lv_sub hl [0, 1, 2, 3] rfl)
            · replace hM := ifn hM c_14
              refine lv_aload_n hx hb dX12_areSame_85 rfl (lv_at hl 0 rfl) ?_
              refine lv_iload_n hx hb dX12_areSame_86 rfl (lv_at hl 1 rfl) ?_
              refine lv_iload_n hx hb dX12_areSame_87 rfl (lv_at hl 2 rfl) ?_
              refine lv_aload_n hx hb dX12_areSame_88 rfl (lv_at hl 0 rfl) ?_
              refine m_get S hG 80 83 36 rfl ec_83 cpX12 wm_1709 dX12_areSame_89 rfl (Nat.lt_of_lt_of_le (Nat.le_of_ble_eq_true rfl) hn) (by decide) ?_
              refine lv_iload_n hx hb dX12_areSame_92 rfl (lv_at hl 2 rfl) ?_
              refine mi_ald S hG 99 102 rfl ec_102 (Nat.lt_of_lt_of_le (Nat.le_of_ble_eq_true rfl) hn) dX12_areSame_93 hg_2 (by decide) ?_
              obtain ⟨r_33, hc_32, hM⟩ := bd1_some hM
              refine g_vi (As := [.int (iI a1), .int (iI a2), .int (iI (S0 102 a2))]) (rest := []) S hG hsz (hr2 _ a1 a2 (S0 102 a2) _ hc_32) wV_12_525 (ec_83 _) cpX12 (Nat.lt_of_lt_of_le (Nat.le_of_ble_eq_true rfl) hn) dX12_areSame_94 rfl hl.1 (ar := 3) (by decide +kernel) rfl (by refine ⟨?_, ?_, ?_, ?_⟩ <;> first | exact Nat.le_of_ble_eq_true rfl | (simp only [gRm]; omega)) (Nat.le_of_ble_eq_true rfl) (fun rv uu H locs hp hG => ?_)
              obtain ⟨rfl, rfl⟩ := hp
              replace hG : gW D cy b n s H locs (enc b cy X S0) := hG
              obtain ⟨hg_34, hM⟩ := gd_some hM
              cases hM
              exact g_zret S hr hlk hG hsz dX12_areSame_97 ⟨Nat.le_of_ble_eq_true rfl, Nat.le_of_ble_eq_true rfl⟩ (nar_z hg_34) ⟨rfl, rfl⟩
          · replace hM := ifp hM c_13
            refine lv_aload_n hx hb dX12_areSame_67 rfl (lv_at hl 0 rfl) ?_
            refine lv_iload_n hx hb dX12_areSame_68 rfl (lv_at hl 1 rfl) ?_
            refine lv_iload_n hx hb dX12_areSame_69 rfl (lv_at hl 2 rfl) ?_
            obtain ⟨r_36, hc_35, hM⟩ := bd1_some hM
            refine g_vi (As := [.int (iI a1), .int (iI a2)]) (rest := []) S hG hsz (hr1 _ a1 a2 _ hc_35) wV_12_522 (ec_83 _) cpX12 (Nat.lt_of_lt_of_le (Nat.le_of_ble_eq_true rfl) hn) dX12_areSame_70 rfl hl.1 (ar := 2) (by decide +kernel) rfl (by refine ⟨?_, ?_, ?_, ?_⟩ <;> first | exact Nat.le_of_ble_eq_true rfl | (simp only [gRm]; omega)) (Nat.le_of_ble_eq_true rfl) (fun rv uu H locs hp hG => ?_)
            obtain ⟨rfl, rfl⟩ := hp
            replace hG : gW D cy b n s H locs (enc b cy X S0) := hG
            obtain ⟨hg_37, hM⟩ := gd_some hM
            cases hM
            exact g_zret S hr hlk hG hsz dX12_areSame_73 ⟨Nat.le_of_ble_eq_true rfl, Nat.le_of_ble_eq_true rfl⟩ (nar_z hg_37) ⟨rfl, rfl⟩
      · replace hM := ifn hM c_8
        refine lv_iconst (v := iI 0) hx hb dX12_areSame_45 (by decide) ?_
        cases hM
        exact g_zret S hr hlk hG hsz dX12_areSame_46 ⟨Nat.le_of_ble_eq_true rfl, Nat.le_of_ble_eq_true rfl⟩ (nar_z (by decide)) ⟨rfl, rfl⟩
def mX12_areSameBags_26 (rec : Nat → Int → Int → Int → St → Option (Int)) (S0 : St) (v_3 : Int) (v_4 : Int) (a2 : Int) : Nat → Int → Int → Option (Int × Int)
  | 0, _, _ => none
  | f + 1, v_16, v_17 => gd (inI v_16) <| if v_16 < 0 then (some (v_17, v_16)) else (bd1 (gd (inL (lan (lshr v_4 v_17) 1)) <| if (lan (lshr v_4 v_17) 1) = 1 then (some (0)) else (bd1 (rec 0 v_3 v_16 0 S0) fun r_41 => gd (inI r_41) <| if r_41 = 0 then (some (0)) else (some (1)))) fun t_32 => if t_32 = 0 then (gd (0 ≤ v_16 ∧ v_16 < 1024) <| nx (S0 103 v_16) fun x_36 => mX12_areSameBags_26 rec S0 v_3 v_4 a2 f x_36 (v_17 + 1)) else (some (v_17, v_16)))
def mX12_areSameBags_10 (rec : Nat → Int → Int → Int → St → Option (Int)) (S0 : St) (a2 : Int) : Nat → Int → Int → Option (Int)
  | 0, _, _ => none
  | f + 1, v_3, v_4 => gd (inI v_3) <| if v_3 < 0 then (some (1)) else (gd (0 ≤ a2 ∧ a2 < 1024) <| nx (S0 102 a2) fun x_15 => bd2 (mX12_areSameBags_26 rec S0 v_3 v_4 a2 FU x_15 0) fun y_18 y_19 => gd (inI y_19) <| if 0 ≤ y_19 then (nx (lor v_4 (lsh 1 y_18)) fun x_24 => gd (0 ≤ v_3 ∧ v_3 < 1024) <| nx (S0 103 v_3) fun x_26 => mX12_areSameBags_10 rec S0 a2 f x_26 x_24) else (some (0)))
def bX12_areSameBags (rec : Nat → Int → Int → Int → St → Option (Int)) (S0 : St) (a1 : Int) (a2 : Int) : Option (Int) := gd (0 ≤ a1 ∧ a1 < 1024) <| nx (S0 102 a1) fun x_2 => bd1 (mX12_areSameBags_10 rec S0 a2 FU x_2 0) fun t_5 => if t_5 = 0 then (some (0)) else (some (1))
set_option maxHeartbeats 4000000 in
set_option maxRecDepth 100000 in
theorem spX12_areSameBags (l : Launch) {D : va_G} {cy : Nat → ClassId} {b n : Nat} (hn : 102 ≤ n) {X : Nat → va_E} (rec : Nat → Int → Int → Int → St → Option (Int)) (d : Nat) (hd : 1 ≤ d) (hr0 : ∀ (S0 : St) (a1 : Int) (a2 : Int) (o1 : Int), rec 0 a1 a2 0 S0 = some o1 → gI l yX12_areSame cX12_areSame 4 (some .boolean) d 0 0 D cy b n (enc b cy X S0) [.ref (b + 80), .int (iI a1), .int (iI a2)] (fun r u => r = iI o1 ∧ u = (n, enc b cy X S0))) (hr1 : ∀ (S0 : St) (a1 : Int) (a2 : Int) (o1 : Int), rec 1 a1 a2 0 S0 = some o1 → gI l yX12_areSameBags cX12_areSameBags 8 (some .boolean) d 0 0 D cy b n (enc b cy X S0) [.ref (b + 80), .int (iI a1), .int (iI a2)] (fun r u => r = iI o1 ∧ u = (n, enc b cy X S0))) (hr2 : ∀ (S0 : St) (a1 : Int) (a2 : Int) (a3 : Int) (o1 : Int), rec 2 a1 a2 a3 S0 = some o1 → gI l yX12_areSameFrom cX12_areSameFrom 6 (some .boolean) d 0 0 D cy b n (enc b cy X S0) [.ref (b + 80), .int (iI a1), .int (iI a2), .int (iI a3)] (fun r u => r = iI o1 ∧ u = (n, enc b cy X S0))) (S0 : St) (a1 : Int) (a2 : Int) (o1 : Int) (hM : bX12_areSameBags rec S0 a1 a2 = some o1) : gI l yX12_areSameBags cX12_areSameBags 8 (some .boolean) (d + 1) 0 0 D cy b n (enc b cy X S0) [.ref (b + 80), .int (iI a1), .int (iI a2)] (fun r u => r = iI o1 ∧ u = (n, enc b cy X S0)) := by
  refine gI_of (by decide) (Nat.le_of_ble_eq_true rfl) ?_
  intro p e s m args below meth c S hr hlk hin hsz ls hl hG
  have hx := S.1
  have hb := S.2.1
  have hl : lv_has ls 8 [(0, .ref (b + 80)), (1, .int (iI a1)), (2, .int (iI a2))] := hl
  replace hG : gW D cy b n s s.heap [] (enc b cy X S0) := hG
  obtain ⟨H, eH⟩ : ∃ H, H = s.heap := ⟨_, rfl⟩
  obtain ⟨locs, elocs⟩ : ∃ locs : List Loc, locs = [] := ⟨_, rfl⟩
  rw [← eH, ← elocs] at hG
  rw [← eH, ← elocs]
  clear eH elocs
  unfold bX12_areSameBags at hM
  refine lv_lconst (v := jJ 0) hx hb dX12_areSameBags_0 (by decide) ?_
  refine lv_lstore_n (lv' := [(3, .long (jJ 0)), (0, .ref (b + 80)), (1, .int (iI a1)), (2, .int (iI a2))]) hx hb dX12_areSameBags_1 rfl hl (by decide) rfl (fun ls hl => ?_)
  refine lv_aload_n hx hb dX12_areSameBags_2 rfl (lv_at hl 1 rfl) ?_
  refine m_get S hG 80 83 36 rfl ec_83 cpX12 wm_1709 dX12_areSameBags_3 rfl (Nat.lt_of_lt_of_le (Nat.le_of_ble_eq_true rfl) hn) (by decide) ?_
  refine lv_iload_n hx hb dX12_areSameBags_6 rfl (lv_at hl 2 rfl) ?_
  obtain ⟨hg_1, hM⟩ := gd_some hM
  refine mi_ald S hG 99 102 rfl ec_102 (Nat.lt_of_lt_of_le (Nat.le_of_ble_eq_true rfl) hn) dX12_areSameBags_7 hg_1 (by decide) ?_
  refine gi_nm (fun x_2 ex_2 => ?_)
  replace hM := nx_at hM ex_2
  clear ex_2
  refine lv_istore (lv' := [(5, .int (iI x_2)), (3, .long (jJ 0)), (0, .ref (b + 80)), (1, .int (iI a1)), (2, .int (iI a2))]) hx hb dX12_areSameBags_8 hl (by decide) rfl (fun ls hl => ?_)
  obtain ⟨t_5, hc_6, hM⟩ := bd1_some hM
  have hK_7 : ∀ (H : Heap) (locs : List Loc) (ls : Array Slot), t_5 = 0 → gW D cy b n s H locs (enc b cy X S0) → lv_has ls 8 [] → W p l e (gRm (d + 1) 0 0) s m args below meth c H locs 0 0 (gQI D cy b s args below 0 0 (fun r u => r = iI o1 ∧ u = (n, enc b cy X S0))) (F0 m 73 ls []) := by
    intro H locs ls ht hG hl
    subst ht
    replace hM := ifp hM rfl
    refine lv_iconst (v := iI 0) hx hb dX12_areSameBags_73 (by decide) ?_
    cases hM
    exact g_zret S hr hlk hG hsz dX12_areSameBags_74 ⟨Nat.le_of_ble_eq_true rfl, Nat.le_of_ble_eq_true rfl⟩ (nar_z (by decide)) ⟨rfl, rfl⟩
  have hK_8 : ∀ (H : Heap) (locs : List Loc) (ls : Array Slot), t_5 = 1 → gW D cy b n s H locs (enc b cy X S0) → lv_has ls 8 [] → W p l e (gRm (d + 1) 0 0) s m args below meth c H locs 0 0 (gQI D cy b s args below 0 0 (fun r u => r = iI o1 ∧ u = (n, enc b cy X S0))) (F0 m 94 ls []) := by
    intro H locs ls ht hG hl
    subst ht
    replace hM := ifn hM (by decide)
    refine lv_iconst (v := iI 1) hx hb dX12_areSameBags_94 (by decide) ?_
    cases hM
    exact g_zret S hr hlk hG hsz dX12_areSameBags_95 ⟨Nat.le_of_ble_eq_true rfl, Nat.le_of_ble_eq_true rfl⟩ (nar_z (by decide)) ⟨rfl, rfl⟩
  have loop_9 : ∀ (f : Nat) (v_3 : Int) (v_4 : Int) (H : Heap) (locs : List Loc) (ls : Array Slot), mX12_areSameBags_10 rec S0 a2 f v_3 v_4 = some t_5 → gW D cy b n s H locs (enc b cy X S0) → lv_has ls 8 [(5, .int (iI v_3)), (3, .long (jJ v_4)), (0, .ref (b + 80)), (2, .int (iI a2))] → W p l e (gRm (d + 1) 0 0) s m args below meth c H locs 0 0 (gQI D cy b s args below 0 0 (fun r u => r = iI o1 ∧ u = (n, enc b cy X S0))) (F0 m 10 ls []) := by
    clear hM
    intro f
    induction f with
    | zero => intro v_3 v_4 H locs ls hM; rw [mX12_areSameBags_10] at hM; cases hM
    | succ f_11 ih_10 =>
      intro v_3 v_4 H locs ls hM hG hl
      rw [mX12_areSameBags_10] at hM
      refine lv_iload hx hb dX12_areSameBags_10 (lv_at hl 0 rfl) ?_
      obtain ⟨hg_12, hM⟩ := gd_some hM
      refine gi_if_lt (tgt := 94) hx hb dX12_areSameBags_12 (by decide) hg_12 (fun c_13 => ?_) (fun c_13 => ?_)
      · replace hM := ifp hM c_13
        cases hM
        exact hK_8 H locs ls rfl hG (lv_sub hl [] rfl)
      · replace hM := ifn hM c_13
        refine lv_iconst (v := iI 0) hx hb dX12_areSameBags_15 (by decide) ?_
        refine lv_istore (lv' := [(6, .int (iI 0)), (5, .int (iI v_3)), (3, .long (jJ v_4)), (0, .ref (b + 80)), (2, .int (iI a2))]) hx hb dX12_areSameBags_16 hl (by decide) rfl (fun ls hl => ?_)
        refine lv_aload_n hx hb dX12_areSameBags_18 rfl (lv_at hl 3 rfl) ?_
        refine m_get S hG 80 83 36 rfl ec_83 cpX12 wm_1709 dX12_areSameBags_19 rfl (Nat.lt_of_lt_of_le (Nat.le_of_ble_eq_true rfl) hn) (by decide) ?_
        refine lv_iload_n hx hb dX12_areSameBags_22 rfl (lv_at hl 4 rfl) ?_
        obtain ⟨hg_14, hM⟩ := gd_some hM
        refine mi_ald S hG 99 102 rfl ec_102 (Nat.lt_of_lt_of_le (Nat.le_of_ble_eq_true rfl) hn) dX12_areSameBags_23 hg_14 (by decide) ?_
        refine gi_nm (fun x_15 ex_15 => ?_)
        replace hM := nx_at hM ex_15
        clear ex_15
        refine lv_istore (lv' := [(7, .int (iI x_15)), (6, .int (iI 0)), (5, .int (iI v_3)), (3, .long (jJ v_4)), (0, .ref (b + 80)), (2, .int (iI a2))]) hx hb dX12_areSameBags_24 hl (by decide) rfl (fun ls hl => ?_)
        obtain ⟨y_18, y_19, hc_20, hM⟩ := bd2_some hM
        have hK_21 : ∀ (H : Heap) (locs : List Loc) (ls : Array Slot), gW D cy b n s H locs (enc b cy X S0) → lv_has ls 8 [(5, .int (iI v_3)), (3, .long (jJ v_4)), (0, .ref (b + 80)), (2, .int (iI a2)), (6, .int (iI y_18)), (7, .int (iI y_19))] → W p l e (gRm (d + 1) 0 0) s m args below meth c H locs 0 0 (gQI D cy b s args below 0 0 (fun r u => r = iI o1 ∧ u = (n, enc b cy X S0))) (F0 m 68 ls []) := by
          intro H locs ls hG hl
          refine lv_iload hx hb dX12_areSameBags_68 (lv_at hl 5 rfl) ?_
          obtain ⟨hg_22, hM⟩ := gd_some hM
          refine gi_if_ge (tgt := 75) hx hb dX12_areSameBags_70 (by decide) hg_22 (fun c_23 => ?_) (fun c_23 => ?_)
          · replace hM := ifp hM c_23
            refine lv_lload_n hx hb dX12_areSameBags_75 rfl (lv_at hl 1 rfl) ?_
            refine lv_lconst (v := jJ 1) hx hb dX12_areSameBags_76 (by decide) ?_
            refine lv_iload hx hb dX12_areSameBags_77 (lv_at hl 4 rfl) ?_
            refine gj_shl hx hb dX12_areSameBags_79 ?_
            refine gj_or hx hb dX12_areSameBags_80 ?_
            refine gj_nm (fun x_24 ex_24 => ?_)
            replace hM := nx_at hM ex_24
            clear ex_24
            refine lv_lstore_n (lv' := [(3, .long (jJ x_24)), (5, .int (iI v_3)), (0, .ref (b + 80)), (2, .int (iI a2)), (6, .int (iI y_18)), (7, .int (iI y_19))]) hx hb dX12_areSameBags_81 rfl hl (by decide) rfl (fun ls hl => ?_)
            refine lv_aload_n hx hb dX12_areSameBags_82 rfl (lv_at hl 2 rfl) ?_
            refine m_get S hG 80 83 37 rfl ec_83 cpX12 wm_1710 dX12_areSameBags_83 rfl (Nat.lt_of_lt_of_le (Nat.le_of_ble_eq_true rfl) hn) (by decide) ?_
            refine lv_iload hx hb dX12_areSameBags_86 (lv_at hl 1 rfl) ?_
            obtain ⟨hg_25, hM⟩ := gd_some hM
            refine mi_ald S hG 100 103 rfl ec_103 (Nat.lt_of_lt_of_le (Nat.le_of_ble_eq_true rfl) hn) dX12_areSameBags_88 hg_25 (by decide) ?_
            refine gi_nm (fun x_26 ex_26 => ?_)
            replace hM := nx_at hM ex_26
            clear ex_26
            refine lv_istore (lv' := [(5, .int (iI x_26)), (3, .long (jJ x_24)), (0, .ref (b + 80)), (2, .int (iI a2)), (6, .int (iI y_18)), (7, .int (iI y_19))]) hx hb dX12_areSameBags_89 hl (by decide) rfl (fun ls hl => ?_)
            refine lv_goto (tgt := 10) hx hb dX12_areSameBags_91 (by decide) ?_
            exact ih_10 x_26 x_24 H locs ls hM hG (lv_sub hl [0, 1, 2, 3] rfl)
          · replace hM := ifn hM c_23
            cases hM
            exact hK_7 H locs ls rfl hG (lv_sub hl [] rfl)
        have loop_27 : ∀ (f : Nat) (v_16 : Int) (v_17 : Int) (H : Heap) (locs : List Loc) (ls : Array Slot), mX12_areSameBags_26 rec S0 v_3 v_4 a2 f v_16 v_17 = some (y_18, y_19) → gW D cy b n s H locs (enc b cy X S0) → lv_has ls 8 [(7, .int (iI v_16)), (6, .int (iI v_17)), (5, .int (iI v_3)), (3, .long (jJ v_4)), (0, .ref (b + 80)), (2, .int (iI a2))] → W p l e (gRm (d + 1) 0 0) s m args below meth c H locs 0 0 (gQI D cy b s args below 0 0 (fun r u => r = iI o1 ∧ u = (n, enc b cy X S0))) (F0 m 26 ls []) := by
          clear hM
          intro f
          induction f with
          | zero => intro v_16 v_17 H locs ls hM; rw [mX12_areSameBags_26] at hM; cases hM
          | succ f_29 ih_28 =>
            intro v_16 v_17 H locs ls hM hG hl
            rw [mX12_areSameBags_26] at hM
            refine lv_iload hx hb dX12_areSameBags_26 (lv_at hl 0 rfl) ?_
            obtain ⟨hg_30, hM⟩ := gd_some hM
            refine gi_if_lt (tgt := 68) hx hb dX12_areSameBags_28 (by decide) hg_30 (fun c_31 => ?_) (fun c_31 => ?_)
            · replace hM := ifp hM c_31
              cases hM
              exact hK_21 H locs ls hG (lv_sub hl [2, 3, 4, 5, 1, 0] rfl)
            · replace hM := ifn hM c_31
              refine lv_lload_n hx hb dX12_areSameBags_31 rfl (lv_at hl 3 rfl) ?_
              refine lv_iload hx hb dX12_areSameBags_32 (lv_at hl 1 rfl) ?_
              refine gj_shr hx hb dX12_areSameBags_34 ?_
              refine lv_lconst (v := jJ 1) hx hb dX12_areSameBags_35 (by decide) ?_
              refine gj_and hx hb dX12_areSameBags_36 ?_
              refine lv_lconst (v := jJ 1) hx hb dX12_areSameBags_37 (by decide) ?_
              obtain ⟨t_32, hc_33, hM⟩ := bd1_some hM
              have hK_34 : ∀ (H : Heap) (locs : List Loc) (ls : Array Slot), t_32 = 0 → gW D cy b n s H locs (enc b cy X S0) → lv_has ls 8 [(7, .int (iI v_16)), (6, .int (iI v_17)), (5, .int (iI v_3)), (3, .long (jJ v_4)), (0, .ref (b + 80)), (2, .int (iI a2))] → W p l e (gRm (d + 1) 0 0) s m args below meth c H locs 0 0 (gQI D cy b s args below 0 0 (fun r u => r = iI o1 ∧ u = (n, enc b cy X S0))) (F0 m 53 ls []) := by
                intro H locs ls ht hG hl
                subst ht
                replace hM := ifp hM rfl
                refine lv_aload_n hx hb dX12_areSameBags_53 rfl (lv_at hl 4 rfl) ?_
                refine m_get S hG 80 83 37 rfl ec_83 cpX12 wm_1710 dX12_areSameBags_54 rfl (Nat.lt_of_lt_of_le (Nat.le_of_ble_eq_true rfl) hn) (by decide) ?_
                refine lv_iload hx hb dX12_areSameBags_57 (lv_at hl 0 rfl) ?_
                obtain ⟨hg_35, hM⟩ := gd_some hM
                refine mi_ald S hG 100 103 rfl ec_103 (Nat.lt_of_lt_of_le (Nat.le_of_ble_eq_true rfl) hn) dX12_areSameBags_59 hg_35 (by decide) ?_
                refine gi_nm (fun x_36 ex_36 => ?_)
                replace hM := nx_at hM ex_36
                clear ex_36
                refine lv_istore (lv' := [(7, .int (iI x_36)), (6, .int (iI v_17)), (5, .int (iI v_3)), (3, .long (jJ v_4)), (0, .ref (b + 80)), (2, .int (iI a2))]) hx hb dX12_areSameBags_60 hl (by decide) rfl (fun ls hl => ?_)
                refine lv_iinc (v := iI (v_17 + 1)) (lv' := [(6, .int (iI (v_17 + 1))), (7, .int (iI x_36)), (5, .int (iI v_3)), (3, .long (jJ v_4)), (0, .ref (b + 80)), (2, .int (iI a2))]) hx hb dX12_areSameBags_62 hl (k := 1) rfl ((iI_add v_17 (1)).trans (congrArg iI (by omega))) (by decide) rfl (fun ls hl => ?_)
                refine lv_goto (tgt := 26) hx hb dX12_areSameBags_65 (by decide) ?_
                exact ih_28 x_36 (v_17 + 1) H locs ls hM hG (lv_sub hl [1, 0, 2, 3, 4, 5] rfl)
              have hK_37 : ∀ (H : Heap) (locs : List Loc) (ls : Array Slot), t_32 = 1 → gW D cy b n s H locs (enc b cy X S0) → lv_has ls 8 [(7, .int (iI v_16)), (6, .int (iI v_17)), (5, .int (iI v_3)), (3, .long (jJ v_4)), (0, .ref (b + 80)), (2, .int (iI a2))] → W p l e (gRm (d + 1) 0 0) s m args below meth c H locs 0 0 (gQI D cy b s args below 0 0 (fun r u => r = iI o1 ∧ u = (n, enc b cy X S0))) (F0 m 68 ls []) := by
                intro H locs ls ht hG hl
                subst ht
                replace hM := ifn hM (by decide)
                cases hM
                exact hK_21 H locs ls hG (lv_sub hl [2, 3, 4, 5, 1, 0] rfl)
              clear hM
              replace hM := hc_33
              obtain ⟨hg_38, hM⟩ := gd_some hM
              refine gj_cmp_eq (tgt := 53) hx hb dX12_areSameBags_38 dX12_areSameBags_39 (by decide) hg_38 (by decide) (fun c_39 => ?_) (fun c_39 => ?_)
              · replace hM := ifp hM c_39
                cases hM
                exact hK_34 H locs ls rfl hG (lv_sub hl [0, 1, 2, 3, 4, 5] rfl)
              · replace hM := ifn hM c_39
                refine lv_aload_n hx hb dX12_areSameBags_42 rfl (lv_at hl 4 rfl) ?_
                refine lv_iload hx hb dX12_areSameBags_43 (lv_at hl 2 rfl) ?_
                refine lv_iload hx hb dX12_areSameBags_45 (lv_at hl 0 rfl) ?_
                obtain ⟨r_41, hc_40, hM⟩ := bd1_some hM
                refine g_vi (As := [.int (iI v_3), .int (iI v_16)]) (rest := []) S hG hsz (hr0 _ v_3 v_16 _ hc_40) wV_12_519 (ec_83 _) cpX12 (Nat.lt_of_lt_of_le (Nat.le_of_ble_eq_true rfl) hn) dX12_areSameBags_47 rfl hl.1 (ar := 2) (by decide +kernel) rfl (by refine ⟨?_, ?_, ?_, ?_⟩ <;> first | exact Nat.le_of_ble_eq_true rfl | (simp only [gRm]; omega)) (Nat.le_of_ble_eq_true rfl) (fun rv uu H locs hp hG => ?_)
                obtain ⟨rfl, rfl⟩ := hp
                replace hG : gW D cy b n s H locs (enc b cy X S0) := hG
                obtain ⟨hg_42, hM⟩ := gd_some hM
                refine gi_if_ne (tgt := 68) hx hb dX12_areSameBags_50 (by decide) hg_42 (fun c_43 => ?_) (fun c_43 => ?_)
                · replace hM := ifn hM c_43
                  cases hM
                  exact hK_37 H locs ls rfl hG (lv_sub hl [0, 1, 2, 3, 4, 5] rfl)
                · replace hM := ifp hM c_43
                  cases hM
                  exact hK_34 H locs ls rfl hG (lv_sub hl [0, 1, 2, 3, 4, 5] rfl)
        exact loop_27 FU x_15 0 H locs ls hc_20 hG (lv_sub hl [0, 1, 2, 3, 4, 5] rfl)
  exact loop_9 FU x_2 0 H locs ls hc_6 hG (lv_sub hl [0, 1, 2, 4] rfl)
def mX12_areSameFrom_11 (rec : Nat → Int → Int → Int → St → Option (Int)) (S0 : St) (a2 : Int) : Nat → Int → Int → Option (Int)
  | 0, _, _ => none
  | f + 1, v_3, v_4 => gd (inI v_3) <| if v_3 < 0 then (some (1)) else (bd1 (rec 0 v_3 v_4 0 S0) fun r_15 => gd (inI r_15) <| if r_15 = 0 then (some (0)) else (gd (0 ≤ v_4 ∧ v_4 < 1024) <| bd1 (gd (inI (S0 103 v_4)) <| if 0 ≤ (S0 103 v_4) then (some ((S0 103 v_4))) else (gd (0 ≤ a2 ∧ a2 < 1024) <| some ((S0 102 a2)))) fun z_19 => gd (0 ≤ v_3 ∧ v_3 < 1024) <| nx (S0 103 v_3) fun x_23 => mX12_areSameFrom_11 rec S0 a2 f x_23 z_19))
def bX12_areSameFrom (rec : Nat → Int → Int → Int → St → Option (Int)) (S0 : St) (a1 : Int) (a2 : Int) (a3 : Int) : Option (Int) := gd (0 ≤ a1 ∧ a1 < 1024) <| nx (S0 102 a1) fun x_2 => bd1 (mX12_areSameFrom_11 rec S0 a2 FU x_2 a3) fun t_5 => if t_5 = 0 then (some (0)) else (some (1))
set_option maxHeartbeats 4000000 in
set_option maxRecDepth 100000 in
theorem spX12_areSameFrom (l : Launch) {D : va_G} {cy : Nat → ClassId} {b n : Nat} (hn : 102 ≤ n) {X : Nat → va_E} (rec : Nat → Int → Int → Int → St → Option (Int)) (d : Nat) (hd : 1 ≤ d) (hr0 : ∀ (S0 : St) (a1 : Int) (a2 : Int) (o1 : Int), rec 0 a1 a2 0 S0 = some o1 → gI l yX12_areSame cX12_areSame 4 (some .boolean) d 0 0 D cy b n (enc b cy X S0) [.ref (b + 80), .int (iI a1), .int (iI a2)] (fun r u => r = iI o1 ∧ u = (n, enc b cy X S0))) (hr1 : ∀ (S0 : St) (a1 : Int) (a2 : Int) (o1 : Int), rec 1 a1 a2 0 S0 = some o1 → gI l yX12_areSameBags cX12_areSameBags 8 (some .boolean) d 0 0 D cy b n (enc b cy X S0) [.ref (b + 80), .int (iI a1), .int (iI a2)] (fun r u => r = iI o1 ∧ u = (n, enc b cy X S0))) (hr2 : ∀ (S0 : St) (a1 : Int) (a2 : Int) (a3 : Int) (o1 : Int), rec 2 a1 a2 a3 S0 = some o1 → gI l yX12_areSameFrom cX12_areSameFrom 6 (some .boolean) d 0 0 D cy b n (enc b cy X S0) [.ref (b + 80), .int (iI a1), .int (iI a2), .int (iI a3)] (fun r u => r = iI o1 ∧ u = (n, enc b cy X S0))) (S0 : St) (a1 : Int) (a2 : Int) (a3 : Int) (o1 : Int) (hM : bX12_areSameFrom rec S0 a1 a2 a3 = some o1) : gI l yX12_areSameFrom cX12_areSameFrom 6 (some .boolean) (d + 1) 0 0 D cy b n (enc b cy X S0) [.ref (b + 80), .int (iI a1), .int (iI a2), .int (iI a3)] (fun r u => r = iI o1 ∧ u = (n, enc b cy X S0)) := by
  refine gI_of (by decide) (Nat.le_of_ble_eq_true rfl) ?_
  intro p e s m args below meth c S hr hlk hin hsz ls hl hG
  have hx := S.1
  have hb := S.2.1
  have hl : lv_has ls 6 [(0, .ref (b + 80)), (1, .int (iI a1)), (2, .int (iI a2)), (3, .int (iI a3))] := hl
  replace hG : gW D cy b n s s.heap [] (enc b cy X S0) := hG
  obtain ⟨H, eH⟩ : ∃ H, H = s.heap := ⟨_, rfl⟩
  obtain ⟨locs, elocs⟩ : ∃ locs : List Loc, locs = [] := ⟨_, rfl⟩
  rw [← eH, ← elocs] at hG
  rw [← eH, ← elocs]
  clear eH elocs
  unfold bX12_areSameFrom at hM
  refine lv_iload_n hx hb dX12_areSameFrom_0 rfl (lv_at hl 3 rfl) ?_
  refine lv_istore (lv' := [(4, .int (iI a3)), (0, .ref (b + 80)), (1, .int (iI a1)), (2, .int (iI a2)), (3, .int (iI a3))]) hx hb dX12_areSameFrom_1 hl (by decide) rfl (fun ls hl => ?_)
  refine lv_aload_n hx hb dX12_areSameFrom_3 rfl (lv_at hl 1 rfl) ?_
  refine m_get S hG 80 83 36 rfl ec_83 cpX12 wm_1709 dX12_areSameFrom_4 rfl (Nat.lt_of_lt_of_le (Nat.le_of_ble_eq_true rfl) hn) (by decide) ?_
  refine lv_iload_n hx hb dX12_areSameFrom_7 rfl (lv_at hl 2 rfl) ?_
  obtain ⟨hg_1, hM⟩ := gd_some hM
  refine mi_ald S hG 99 102 rfl ec_102 (Nat.lt_of_lt_of_le (Nat.le_of_ble_eq_true rfl) hn) dX12_areSameFrom_8 hg_1 (by decide) ?_
  refine gi_nm (fun x_2 ex_2 => ?_)
  replace hM := nx_at hM ex_2
  clear ex_2
  refine lv_istore (lv' := [(5, .int (iI x_2)), (4, .int (iI a3)), (0, .ref (b + 80)), (1, .int (iI a1)), (2, .int (iI a2)), (3, .int (iI a3))]) hx hb dX12_areSameFrom_9 hl (by decide) rfl (fun ls hl => ?_)
  obtain ⟨t_5, hc_6, hM⟩ := bd1_some hM
  have hK_7 : ∀ (H : Heap) (locs : List Loc) (ls : Array Slot), t_5 = 0 → gW D cy b n s H locs (enc b cy X S0) → lv_has ls 6 [] → W p l e (gRm (d + 1) 0 0) s m args below meth c H locs 0 0 (gQI D cy b s args below 0 0 (fun r u => r = iI o1 ∧ u = (n, enc b cy X S0))) (F0 m 27 ls []) := by
    intro H locs ls ht hG hl
    subst ht
    replace hM := ifp hM rfl
    refine lv_iconst (v := iI 0) hx hb dX12_areSameFrom_27 (by decide) ?_
    cases hM
    exact g_zret S hr hlk hG hsz dX12_areSameFrom_28 ⟨Nat.le_of_ble_eq_true rfl, Nat.le_of_ble_eq_true rfl⟩ (nar_z (by decide)) ⟨rfl, rfl⟩
  have hK_8 : ∀ (H : Heap) (locs : List Loc) (ls : Array Slot), t_5 = 1 → gW D cy b n s H locs (enc b cy X S0) → lv_has ls 6 [] → W p l e (gRm (d + 1) 0 0) s m args below meth c H locs 0 0 (gQI D cy b s args below 0 0 (fun r u => r = iI o1 ∧ u = (n, enc b cy X S0))) (F0 m 69 ls []) := by
    intro H locs ls ht hG hl
    subst ht
    replace hM := ifn hM (by decide)
    refine lv_iconst (v := iI 1) hx hb dX12_areSameFrom_69 (by decide) ?_
    cases hM
    exact g_zret S hr hlk hG hsz dX12_areSameFrom_70 ⟨Nat.le_of_ble_eq_true rfl, Nat.le_of_ble_eq_true rfl⟩ (nar_z (by decide)) ⟨rfl, rfl⟩
  have loop_9 : ∀ (f : Nat) (v_3 : Int) (v_4 : Int) (H : Heap) (locs : List Loc) (ls : Array Slot), mX12_areSameFrom_11 rec S0 a2 f v_3 v_4 = some t_5 → gW D cy b n s H locs (enc b cy X S0) → lv_has ls 6 [(5, .int (iI v_3)), (4, .int (iI v_4)), (0, .ref (b + 80)), (2, .int (iI a2))] → W p l e (gRm (d + 1) 0 0) s m args below meth c H locs 0 0 (gQI D cy b s args below 0 0 (fun r u => r = iI o1 ∧ u = (n, enc b cy X S0))) (F0 m 11 ls []) := by
    clear hM
    intro f
    induction f with
    | zero => intro v_3 v_4 H locs ls hM; rw [mX12_areSameFrom_11] at hM; cases hM
    | succ f_11 ih_10 =>
      intro v_3 v_4 H locs ls hM hG hl
      rw [mX12_areSameFrom_11] at hM
      refine lv_iload hx hb dX12_areSameFrom_11 (lv_at hl 0 rfl) ?_
      obtain ⟨hg_12, hM⟩ := gd_some hM
      refine gi_if_lt (tgt := 69) hx hb dX12_areSameFrom_13 (by decide) hg_12 (fun c_13 => ?_) (fun c_13 => ?_)
      · replace hM := ifp hM c_13
        cases hM
        exact hK_8 H locs ls rfl hG (lv_sub hl [] rfl)
      · replace hM := ifn hM c_13
        refine lv_aload_n hx hb dX12_areSameFrom_16 rfl (lv_at hl 2 rfl) ?_
        refine lv_iload hx hb dX12_areSameFrom_17 (lv_at hl 0 rfl) ?_
        refine lv_iload hx hb dX12_areSameFrom_19 (lv_at hl 1 rfl) ?_
        obtain ⟨r_15, hc_14, hM⟩ := bd1_some hM
        refine g_vi (As := [.int (iI v_3), .int (iI v_4)]) (rest := []) S hG hsz (hr0 _ v_3 v_4 _ hc_14) wV_12_519 (ec_83 _) cpX12 (Nat.lt_of_lt_of_le (Nat.le_of_ble_eq_true rfl) hn) dX12_areSameFrom_21 rfl hl.1 (ar := 2) (by decide +kernel) rfl (by refine ⟨?_, ?_, ?_, ?_⟩ <;> first | exact Nat.le_of_ble_eq_true rfl | (simp only [gRm]; omega)) (Nat.le_of_ble_eq_true rfl) (fun rv uu H locs hp hG => ?_)
        obtain ⟨rfl, rfl⟩ := hp
        replace hG : gW D cy b n s H locs (enc b cy X S0) := hG
        obtain ⟨hg_16, hM⟩ := gd_some hM
        refine gi_if_ne (tgt := 29) hx hb dX12_areSameFrom_24 (by decide) hg_16 (fun c_17 => ?_) (fun c_17 => ?_)
        · replace hM := ifn hM c_17
          refine lv_aload_n hx hb dX12_areSameFrom_29 rfl (lv_at hl 2 rfl) ?_
          refine m_get S hG 80 83 37 rfl ec_83 cpX12 wm_1710 dX12_areSameFrom_30 rfl (Nat.lt_of_lt_of_le (Nat.le_of_ble_eq_true rfl) hn) (by decide) ?_
          refine lv_iload hx hb dX12_areSameFrom_33 (lv_at hl 1 rfl) ?_
          obtain ⟨hg_18, hM⟩ := gd_some hM
          refine mi_ald S hG 100 103 rfl ec_103 (Nat.lt_of_lt_of_le (Nat.le_of_ble_eq_true rfl) hn) dX12_areSameFrom_35 hg_18 (by decide) ?_
          obtain ⟨z_19, hc_20, hM⟩ := bd1_some hM
          have hK_21 : ∀ (H : Heap) (locs : List Loc) (ls : Array Slot), gW D cy b n s H locs (enc b cy X S0) → lv_has ls 6 [(5, .int (iI v_3)), (0, .ref (b + 80)), (2, .int (iI a2))] → W p l e (gRm (d + 1) 0 0) s m args below meth c H locs 0 0 (gQI D cy b s args below 0 0 (fun r u => r = iI o1 ∧ u = (n, enc b cy X S0))) (F0 m 55 ls [.int (iI z_19)]) := by
            intro H locs ls hG hl
            refine lv_istore (lv' := [(4, .int (iI z_19)), (5, .int (iI v_3)), (0, .ref (b + 80)), (2, .int (iI a2))]) hx hb dX12_areSameFrom_55 hl (by decide) rfl (fun ls hl => ?_)
            refine lv_aload_n hx hb dX12_areSameFrom_57 rfl (lv_at hl 2 rfl) ?_
            refine m_get S hG 80 83 37 rfl ec_83 cpX12 wm_1710 dX12_areSameFrom_58 rfl (Nat.lt_of_lt_of_le (Nat.le_of_ble_eq_true rfl) hn) (by decide) ?_
            refine lv_iload hx hb dX12_areSameFrom_61 (lv_at hl 1 rfl) ?_
            obtain ⟨hg_22, hM⟩ := gd_some hM
            refine mi_ald S hG 100 103 rfl ec_103 (Nat.lt_of_lt_of_le (Nat.le_of_ble_eq_true rfl) hn) dX12_areSameFrom_63 hg_22 (by decide) ?_
            refine gi_nm (fun x_23 ex_23 => ?_)
            replace hM := nx_at hM ex_23
            clear ex_23
            refine lv_istore (lv' := [(5, .int (iI x_23)), (4, .int (iI z_19)), (0, .ref (b + 80)), (2, .int (iI a2))]) hx hb dX12_areSameFrom_64 hl (by decide) rfl (fun ls hl => ?_)
            refine lv_goto (tgt := 11) hx hb dX12_areSameFrom_66 (by decide) ?_
            exact ih_10 x_23 z_19 H locs ls hM hG (lv_sub hl [0, 1, 2, 3] rfl)
          clear hM
          replace hM := hc_20
          obtain ⟨hg_24, hM⟩ := gd_some hM
          refine gi_if_ge (tgt := 48) hx hb dX12_areSameFrom_36 (by decide) hg_24 (fun c_25 => ?_) (fun c_25 => ?_)
          · replace hM := ifp hM c_25
            refine lv_aload_n hx hb dX12_areSameFrom_48 rfl (lv_at hl 2 rfl) ?_
            refine m_get S hG 80 83 37 rfl ec_83 cpX12 wm_1710 dX12_areSameFrom_49 rfl (Nat.lt_of_lt_of_le (Nat.le_of_ble_eq_true rfl) hn) (by decide) ?_
            refine lv_iload hx hb dX12_areSameFrom_52 (lv_at hl 1 rfl) ?_
            refine mi_ald S hG 100 103 rfl ec_103 (Nat.lt_of_lt_of_le (Nat.le_of_ble_eq_true rfl) hn) dX12_areSameFrom_54 hg_18 (by decide) ?_
            cases hM
            exact hK_21 H locs ls hG (lv_sub hl [0, 2, 3] rfl)
          · replace hM := ifn hM c_25
            refine lv_aload_n hx hb dX12_areSameFrom_39 rfl (lv_at hl 2 rfl) ?_
            refine m_get S hG 80 83 36 rfl ec_83 cpX12 wm_1709 dX12_areSameFrom_40 rfl (Nat.lt_of_lt_of_le (Nat.le_of_ble_eq_true rfl) hn) (by decide) ?_
            refine lv_iload_n hx hb dX12_areSameFrom_43 rfl (lv_at hl 3 rfl) ?_
            obtain ⟨hg_26, hM⟩ := gd_some hM
            refine mi_ald S hG 99 102 rfl ec_102 (Nat.lt_of_lt_of_le (Nat.le_of_ble_eq_true rfl) hn) dX12_areSameFrom_44 hg_26 (by decide) ?_
            refine lv_goto (tgt := 55) hx hb dX12_areSameFrom_45 (by decide) ?_
            cases hM
            exact hK_21 H locs ls hG (lv_sub hl [0, 2, 3] rfl)
        · replace hM := ifp hM c_17
          cases hM
          exact hK_7 H locs ls rfl hG (lv_sub hl [] rfl)
  exact loop_9 FU x_2 a3 H locs ls hc_6 hG (lv_sub hl [0, 1, 2, 4] rfl)
def RX12_areSame : Nat → Nat → Int → Int → Int → St → Option (Int)
  | 0, _, _, _, _, _ => none
  | f + 1, t, x1, x2, x3, S0 => if t = 0 then (bX12_areSame (RX12_areSame f) S0 x1 x2) else (if t = 1 then (bX12_areSameBags (RX12_areSame f) S0 x1 x2) else (if t = 2 then (bX12_areSameFrom (RX12_areSame f) S0 x1 x2 x3) else (none)))
set_option maxHeartbeats 4000000 in
theorem vRX12_areSame (l : Launch) {D : va_G} {cy : Nat → ClassId} {b n : Nat} (hn : 102 ≤ n) {X : Nat → va_E} : ∀ f : Nat, (∀ (S0 : St) (a1 : Int) (a2 : Int) (o1 : Int), RX12_areSame f 0 a1 a2 0 S0 = some o1 → gI l yX12_areSame cX12_areSame 4 (some .boolean) (1 + f) 0 0 D cy b n (enc b cy X S0) [.ref (b + 80), .int (iI a1), .int (iI a2)] (fun r u => r = iI o1 ∧ u = (n, enc b cy X S0))) ∧ (∀ (S0 : St) (a1 : Int) (a2 : Int) (o1 : Int), RX12_areSame f 1 a1 a2 0 S0 = some o1 → gI l yX12_areSameBags cX12_areSameBags 8 (some .boolean) (1 + f) 0 0 D cy b n (enc b cy X S0) [.ref (b + 80), .int (iI a1), .int (iI a2)] (fun r u => r = iI o1 ∧ u = (n, enc b cy X S0))) ∧ (∀ (S0 : St) (a1 : Int) (a2 : Int) (a3 : Int) (o1 : Int), RX12_areSame f 2 a1 a2 a3 S0 = some o1 → gI l yX12_areSameFrom cX12_areSameFrom 6 (some .boolean) (1 + f) 0 0 D cy b n (enc b cy X S0) [.ref (b + 80), .int (iI a1), .int (iI a2), .int (iI a3)] (fun r u => r = iI o1 ∧ u = (n, enc b cy X S0))) := by
  intro f
  induction f with
  | zero =>
    refine ⟨?_, ?_, ?_⟩
    all_goals
      intros; rename_i hM; rw [RX12_areSame] at hM; cases hM
  | succ f ih =>
    obtain ⟨hr0, hr1, hr2⟩ := ih
    refine ⟨?_, ?_, ?_⟩
    · intro S0 a1 a2 o1 hM
      rw [RX12_areSame] at hM
      replace hM := ifp hM rfl
      exact spX12_areSame l hn (RX12_areSame f) (1 + f) (Nat.le_add_right _ _) hr0 hr1 hr2 S0 a1 a2 _ hM
    · intro S0 a1 a2 o1 hM
      rw [RX12_areSame] at hM
      replace hM := ifn hM (by decide)
      replace hM := ifp hM rfl
      exact spX12_areSameBags l hn (RX12_areSame f) (1 + f) (Nat.le_add_right _ _) hr0 hr1 hr2 S0 a1 a2 _ hM
    · intro S0 a1 a2 a3 o1 hM
      rw [RX12_areSame] at hM
      replace hM := ifn hM (by decide)
      replace hM := ifn hM (by decide)
      replace hM := ifp hM rfl
      exact spX12_areSameFrom l hn (RX12_areSame f) (1 + f) (Nat.le_add_right _ _) hr0 hr1 hr2 S0 a1 a2 a3 _ hM
def mX12_areSame (S0 : St) (a1 : Int) (a2 : Int) : Option (Int) := RX12_areSame 200 0 a1 a2 0 S0
theorem vX12_areSame (l : Launch) {D : va_G} {cy : Nat → ClassId} {b n : Nat} (hn : 102 ≤ n) {X : Nat → va_E} {S0 : St} (a1 : Int) (a2 : Int) {o1 : Int} (hM : mX12_areSame S0 a1 a2 = some o1) : gI l yX12_areSame cX12_areSame 4 (some .boolean) 201 0 0 D cy b n (enc b cy X S0) [.ref (b + 80), .int (iI a1), .int (iI a2)] (fun r u => r = iI o1 ∧ u = (n, enc b cy X S0)) := by
  unfold mX12_areSame at hM
  exact (vRX12_areSame l hn 200).1 S0 a1 a2 _ hM
def mX12_areSameBags (S0 : St) (a1 : Int) (a2 : Int) : Option (Int) := RX12_areSame 200 1 a1 a2 0 S0
theorem vX12_areSameBags (l : Launch) {D : va_G} {cy : Nat → ClassId} {b n : Nat} (hn : 102 ≤ n) {X : Nat → va_E} {S0 : St} (a1 : Int) (a2 : Int) {o1 : Int} (hM : mX12_areSameBags S0 a1 a2 = some o1) : gI l yX12_areSameBags cX12_areSameBags 8 (some .boolean) 201 0 0 D cy b n (enc b cy X S0) [.ref (b + 80), .int (iI a1), .int (iI a2)] (fun r u => r = iI o1 ∧ u = (n, enc b cy X S0)) := by
  unfold mX12_areSameBags at hM
  exact (vRX12_areSame l hn 200).2.1 S0 a1 a2 _ hM
def mX12_areSameFrom (S0 : St) (a1 : Int) (a2 : Int) (a3 : Int) : Option (Int) := RX12_areSame 200 2 a1 a2 a3 S0
theorem vX12_areSameFrom (l : Launch) {D : va_G} {cy : Nat → ClassId} {b n : Nat} (hn : 102 ≤ n) {X : Nat → va_E} {S0 : St} (a1 : Int) (a2 : Int) (a3 : Int) {o1 : Int} (hM : mX12_areSameFrom S0 a1 a2 a3 = some o1) : gI l yX12_areSameFrom cX12_areSameFrom 6 (some .boolean) 201 0 0 D cy b n (enc b cy X S0) [.ref (b + 80), .int (iI a1), .int (iI a2), .int (iI a3)] (fun r u => r = iI o1 ∧ u = (n, enc b cy X S0)) := by
  unfold mX12_areSameFrom at hM
  exact (vRX12_areSame l hn 200).2.2 S0 a1 a2 a3 _ hM
def mX12_isAmong_7 (S0 : St) (a2 : Int) : Nat → Int → Option (Int)
  | 0, _ => none
  | f + 1, v_3 => gd (inI v_3) <| if v_3 < 0 then (some (1)) else (bd1 (mX12_areSame S0 v_3 a2) fun r_14 => gd (inI r_14) <| if r_14 = 0 then (gd (0 ≤ v_3 ∧ v_3 < 1024) <| nx (S0 103 v_3) fun x_18 => mX12_isAmong_7 S0 a2 f x_18) else (some (0)))
def mX12_isAmong (S0 : St) (a1 : Int) (a2 : Int) : Option (Int) := gd (0 ≤ a1 ∧ a1 < 1024) <| nx (S0 102 a1) fun x_2 => bd1 (mX12_isAmong_7 S0 a2 FU x_2) fun t_4 => if t_4 = 0 then (some (1)) else (some (0))
set_option maxHeartbeats 4000000 in
set_option maxRecDepth 100000 in
theorem vX12_isAmong (l : Launch) {D : va_G} {cy : Nat → ClassId} {b n : Nat} (hn : 102 ≤ n) {X : Nat → va_E} {S0 : St} (a1 : Int) (a2 : Int) {o1 : Int} (hM : mX12_isAmong S0 a1 a2 = some o1) : gI l yX12_isAmong cX12_isAmong 4 (some .boolean) 202 0 0 D cy b n (enc b cy X S0) [.ref (b + 80), .int (iI a1), .int (iI a2)] (fun r u => r = iI o1 ∧ u = (n, enc b cy X S0)) := by
  refine gI_of (by decide) (Nat.le_of_ble_eq_true rfl) ?_
  intro p e s m args below meth c S hr hlk hin hsz ls hl hG
  have hx := S.1
  have hb := S.2.1
  have hl : lv_has ls 4 [(0, .ref (b + 80)), (1, .int (iI a1)), (2, .int (iI a2))] := hl
  replace hG : gW D cy b n s s.heap [] (enc b cy X S0) := hG
  obtain ⟨H, eH⟩ : ∃ H, H = s.heap := ⟨_, rfl⟩
  obtain ⟨locs, elocs⟩ : ∃ locs : List Loc, locs = [] := ⟨_, rfl⟩
  rw [← eH, ← elocs] at hG
  rw [← eH, ← elocs]
  clear eH elocs
  unfold mX12_isAmong at hM
  refine lv_aload_n hx hb dX12_isAmong_0 rfl (lv_at hl 0 rfl) ?_
  refine m_get S hG 80 83 36 rfl ec_83 cpX12 wm_1709 dX12_isAmong_1 rfl (Nat.lt_of_lt_of_le (Nat.le_of_ble_eq_true rfl) hn) (by decide) ?_
  refine lv_iload_n hx hb dX12_isAmong_4 rfl (lv_at hl 1 rfl) ?_
  obtain ⟨hg_1, hM⟩ := gd_some hM
  refine mi_ald S hG 99 102 rfl ec_102 (Nat.lt_of_lt_of_le (Nat.le_of_ble_eq_true rfl) hn) dX12_isAmong_5 hg_1 (by decide) ?_
  refine gi_nm (fun x_2 ex_2 => ?_)
  replace hM := nx_at hM ex_2
  clear ex_2
  refine lv_istore_n (lv' := [(3, .int (iI x_2)), (0, .ref (b + 80)), (1, .int (iI a1)), (2, .int (iI a2))]) hx hb dX12_isAmong_6 rfl hl (by decide) rfl (fun ls hl => ?_)
  obtain ⟨t_4, hc_5, hM⟩ := bd1_some hM
  have hK_6 : ∀ (H : Heap) (locs : List Loc) (ls : Array Slot), t_4 = 0 → gW D cy b n s H locs (enc b cy X S0) → lv_has ls 4 [] → W p l e (gRm 202 0 0) s m args below meth c H locs 0 0 (gQI D cy b s args below 0 0 (fun r u => r = iI o1 ∧ u = (n, enc b cy X S0))) (F0 m 20 ls []) := by
    intro H locs ls ht hG hl
    subst ht
    replace hM := ifp hM rfl
    refine lv_iconst (v := iI 1) hx hb dX12_isAmong_20 (by decide) ?_
    cases hM
    exact g_zret S hr hlk hG hsz dX12_isAmong_21 ⟨Nat.le_of_ble_eq_true rfl, Nat.le_of_ble_eq_true rfl⟩ (nar_z (by decide)) ⟨rfl, rfl⟩
  have hK_7 : ∀ (H : Heap) (locs : List Loc) (ls : Array Slot), t_4 = 1 → gW D cy b n s H locs (enc b cy X S0) → lv_has ls 4 [] → W p l e (gRm 202 0 0) s m args below meth c H locs 0 0 (gQI D cy b s args below 0 0 (fun r u => r = iI o1 ∧ u = (n, enc b cy X S0))) (F0 m 32 ls []) := by
    intro H locs ls ht hG hl
    subst ht
    replace hM := ifn hM (by decide)
    refine lv_iconst (v := iI 0) hx hb dX12_isAmong_32 (by decide) ?_
    cases hM
    exact g_zret S hr hlk hG hsz dX12_isAmong_33 ⟨Nat.le_of_ble_eq_true rfl, Nat.le_of_ble_eq_true rfl⟩ (nar_z (by decide)) ⟨rfl, rfl⟩
  have loop_8 : ∀ (f : Nat) (v_3 : Int) (H : Heap) (locs : List Loc) (ls : Array Slot), mX12_isAmong_7 S0 a2 f v_3 = some t_4 → gW D cy b n s H locs (enc b cy X S0) → lv_has ls 4 [(3, .int (iI v_3)), (0, .ref (b + 80)), (2, .int (iI a2))] → W p l e (gRm 202 0 0) s m args below meth c H locs 0 0 (gQI D cy b s args below 0 0 (fun r u => r = iI o1 ∧ u = (n, enc b cy X S0))) (F0 m 7 ls []) := by
    clear hM
    intro f
    induction f with
    | zero => intro v_3 H locs ls hM; rw [mX12_isAmong_7] at hM; cases hM
    | succ f_10 ih_9 =>
      intro v_3 H locs ls hM hG hl
      rw [mX12_isAmong_7] at hM
      refine lv_iload_n hx hb dX12_isAmong_7 rfl (lv_at hl 0 rfl) ?_
      obtain ⟨hg_11, hM⟩ := gd_some hM
      refine gi_if_lt (tgt := 32) hx hb dX12_isAmong_8 (by decide) hg_11 (fun c_12 => ?_) (fun c_12 => ?_)
      · replace hM := ifp hM c_12
        cases hM
        exact hK_7 H locs ls rfl hG (lv_sub hl [] rfl)
      · replace hM := ifn hM c_12
        refine lv_aload_n hx hb dX12_isAmong_11 rfl (lv_at hl 1 rfl) ?_
        refine lv_iload_n hx hb dX12_isAmong_12 rfl (lv_at hl 0 rfl) ?_
        refine lv_iload_n hx hb dX12_isAmong_13 rfl (lv_at hl 2 rfl) ?_
        obtain ⟨r_14, hc_13, hM⟩ := bd1_some hM
        refine g_vi (As := [.int (iI v_3), .int (iI a2)]) (rest := []) S hG hsz (vX12_areSame l hn v_3 a2 hc_13) wV_12_519 (ec_83 _) cpX12 (Nat.lt_of_lt_of_le (Nat.le_of_ble_eq_true rfl) hn) dX12_isAmong_14 rfl hl.1 (ar := 2) (by decide +kernel) rfl ⟨Nat.le_of_ble_eq_true rfl, Nat.le_of_ble_eq_true rfl, Nat.le_of_ble_eq_true rfl, Nat.le_of_ble_eq_true rfl⟩ (Nat.le_of_ble_eq_true rfl) (fun rv uu H locs hp hG => ?_)
        obtain ⟨rfl, rfl⟩ := hp
        replace hG : gW D cy b n s H locs (enc b cy X S0) := hG
        obtain ⟨hg_15, hM⟩ := gd_some hM
        refine gi_if_eq (tgt := 22) hx hb dX12_isAmong_17 (by decide) hg_15 (fun c_16 => ?_) (fun c_16 => ?_)
        · replace hM := ifp hM c_16
          refine lv_aload_n hx hb dX12_isAmong_22 rfl (lv_at hl 1 rfl) ?_
          refine m_get S hG 80 83 37 rfl ec_83 cpX12 wm_1710 dX12_isAmong_23 rfl (Nat.lt_of_lt_of_le (Nat.le_of_ble_eq_true rfl) hn) (by decide) ?_
          refine lv_iload_n hx hb dX12_isAmong_26 rfl (lv_at hl 0 rfl) ?_
          obtain ⟨hg_17, hM⟩ := gd_some hM
          refine mi_ald S hG 100 103 rfl ec_103 (Nat.lt_of_lt_of_le (Nat.le_of_ble_eq_true rfl) hn) dX12_isAmong_27 hg_17 (by decide) ?_
          refine gi_nm (fun x_18 ex_18 => ?_)
          replace hM := nx_at hM ex_18
          clear ex_18
          refine lv_istore_n (lv' := [(3, .int (iI x_18)), (0, .ref (b + 80)), (2, .int (iI a2))]) hx hb dX12_isAmong_28 rfl hl (by decide) rfl (fun ls hl => ?_)
          refine lv_goto (tgt := 7) hx hb dX12_isAmong_29 (by decide) ?_
          exact ih_9 x_18 H locs ls hM hG (lv_sub hl [0, 1, 2] rfl)
        · replace hM := ifn hM c_16
          cases hM
          exact hK_6 H locs ls rfl hG (lv_sub hl [] rfl)
  exact loop_8 FU x_2 H locs ls hc_5 hG (lv_sub hl [0, 1, 3] rfl)
