theorem dX8_add_0 : decode cX8_add 0 = .ok (.aload_n 0, 1) := by decide +kernel
theorem dX8_add_1 : decode cX8_add 1 = .ok (.getfield 9, 3) := by decide +kernel
theorem dX8_add_4 : decode cX8_add 4 = .ok (.bipush 8, 2) := by decide +kernel
theorem dX8_add_6 : decode cX8_add 6 = .ok (.if_icmp .ge 36, 3) := by decide +kernel
theorem dX8_add_42 : decode cX8_add 42 = .ok (.return_, 1) := by decide +kernel
theorem dX8_add_9 : decode cX8_add 9 = .ok (.aload_n 0, 1) := by decide +kernel
theorem dX8_add_10 : decode cX8_add 10 = .ok (.getfield 15, 3) := by decide +kernel
theorem dX8_add_13 : decode cX8_add 13 = .ok (.aload_n 0, 1) := by decide +kernel
theorem dX8_add_14 : decode cX8_add 14 = .ok (.getfield 9, 3) := by decide +kernel
theorem dX8_add_17 : decode cX8_add 17 = .ok (.iload_n 1, 1) := by decide +kernel
theorem dX8_add_18 : decode cX8_add 18 = .ok (.sipush 1024, 3) := by decide +kernel
theorem dX8_add_21 : decode cX8_add 21 = .ok (.imul, 1) := by decide +kernel
theorem dX8_add_22 : decode cX8_add 22 = .ok (.lload_n 2, 1) := by decide +kernel
theorem dX8_add_23 : decode cX8_add 23 = .ok (.ldc2_w 61, 3) := by decide +kernel
theorem wm_1331 : (Jvm.Cond.constantLong "GrownKinds$Sequences" (61 : Nat) (1023 : Int64)) ∈ gT := gT_in (List.mem_of_getElem? (i := 1331) (by decide +kernel)) (by decide +kernel)
theorem dX8_add_26 : decode cX8_add 26 = .ok (.invokestatic 63, 3) := by decide +kernel
theorem wm_1332 : (Jvm.Cond.methodLink "GrownKinds$Sequences" (63 : Nat) ({ cls := "java/lang/Math", name := "min", desc := "(JJ)J" } : Jvm.MethodName)) ∈ gT := gT_in (List.mem_of_getElem? (i := 1332) (by decide +kernel)) (by decide +kernel)
theorem dX8_add_29 : decode cX8_add 29 = .ok (.l2i, 1) := by decide +kernel
theorem dX8_add_30 : decode cX8_add 30 = .ok (.iadd, 1) := by decide +kernel
theorem dX8_add_31 : decode cX8_add 31 = .ok (.iastore, 1) := by decide +kernel
theorem dX8_add_32 : decode cX8_add 32 = .ok (.aload_n 0, 1) := by decide +kernel
theorem dX8_add_33 : decode cX8_add 33 = .ok (.dup, 1) := by decide +kernel
theorem dX8_add_34 : decode cX8_add 34 = .ok (.getfield 9, 3) := by decide +kernel
theorem dX8_add_37 : decode cX8_add 37 = .ok (.iconst 1, 1) := by decide +kernel
theorem dX8_add_38 : decode cX8_add 38 = .ok (.iadd, 1) := by decide +kernel
theorem dX8_add_39 : decode cX8_add 39 = .ok (.putfield 9, 3) := by decide +kernel
theorem dX8_bagsWithin_0 : decode cX8_bagsWithin 0 = .ok (.aload_n 0, 1) := by decide +kernel
theorem dX8_bagsWithin_1 : decode cX8_bagsWithin 1 = .ok (.getfield 28, 3) := by decide +kernel
theorem dX8_bagsWithin_4 : decode cX8_bagsWithin 4 = .ok (.getfield 40, 3) := by decide +kernel
theorem wm_241 : (Jvm.Cond.fieldLink "GrownKinds$Sequences" (40 : Nat) "GrownKinds$Grammar" "value" "[I") ∈ gT := gT_in (List.mem_of_getElem? (i := 241) (by decide +kernel)) (by decide +kernel)
theorem dX8_bagsWithin_7 : decode cX8_bagsWithin 7 = .ok (.iload_n 1, 1) := by decide +kernel
theorem dX8_bagsWithin_8 : decode cX8_bagsWithin 8 = .ok (.iaload, 1) := by decide +kernel
theorem dX8_bagsWithin_9 : decode cX8_bagsWithin 9 = .ok (.istore 7, 2) := by decide +kernel
theorem dX8_bagsWithin_11 : decode cX8_bagsWithin 11 = .ok (.lconst 0, 1) := by decide +kernel
theorem dX8_bagsWithin_12 : decode cX8_bagsWithin 12 = .ok (.lstore 8, 2) := by decide +kernel
theorem dX8_bagsWithin_14 : decode cX8_bagsWithin 14 = .ok (.iconst 0, 1) := by decide +kernel
theorem dX8_bagsWithin_15 : decode cX8_bagsWithin 15 = .ok (.istore 10, 2) := by decide +kernel
theorem dX8_bagsWithin_17 : decode cX8_bagsWithin 17 = .ok (.iload 10, 2) := by decide +kernel
theorem dX8_bagsWithin_19 : decode cX8_bagsWithin 19 = .ok (.iload 4, 2) := by decide +kernel
theorem dX8_bagsWithin_21 : decode cX8_bagsWithin 21 = .ok (.imul, 1) := by decide +kernel
theorem dX8_bagsWithin_22 : decode cX8_bagsWithin 22 = .ok (.iload_n 3, 1) := by decide +kernel
theorem dX8_bagsWithin_23 : decode cX8_bagsWithin 23 = .ok (.if_icmp .gt 105, 3) := by decide +kernel
theorem dX8_bagsWithin_26 : decode cX8_bagsWithin 26 = .ok (.iload 7, 2) := by decide +kernel
theorem dX8_bagsWithin_28 : decode cX8_bagsWithin 28 = .ok (.ifCond .eq 9, 3) := by decide +kernel
theorem dX8_bagsWithin_31 : decode cX8_bagsWithin 31 = .ok (.iload 10, 2) := by decide +kernel
theorem dX8_bagsWithin_33 : decode cX8_bagsWithin 33 = .ok (.iload_n 2, 1) := by decide +kernel
theorem dX8_bagsWithin_34 : decode cX8_bagsWithin 34 = .ok (.if_icmp .gt 94, 3) := by decide +kernel
theorem dX8_bagsWithin_37 : decode cX8_bagsWithin 37 = .ok (.lload 5, 2) := by decide +kernel
theorem dX8_bagsWithin_39 : decode cX8_bagsWithin 39 = .ok (.iload 10, 2) := by decide +kernel
theorem dX8_bagsWithin_41 : decode cX8_bagsWithin 41 = .ok (.aload_n 0, 1) := by decide +kernel
theorem dX8_bagsWithin_42 : decode cX8_bagsWithin 42 = .ok (.getfield 28, 3) := by decide +kernel
theorem dX8_bagsWithin_45 : decode cX8_bagsWithin 45 = .ok (.getfield 68, 3) := by decide +kernel
theorem wm_235 : (Jvm.Cond.fieldLink "GrownKinds$Sequences" (68 : Nat) "GrownKinds$Grammar" "type" "[I") ∈ gT := gT_in (List.mem_of_getElem? (i := 235) (by decide +kernel)) (by decide +kernel)
theorem dX8_bagsWithin_48 : decode cX8_bagsWithin 48 = .ok (.iload_n 1, 1) := by decide +kernel
theorem dX8_bagsWithin_49 : decode cX8_bagsWithin 49 = .ok (.iaload, 1) := by decide +kernel
theorem dX8_bagsWithin_50 : decode cX8_bagsWithin 50 = .ok (.iconst 5, 1) := by decide +kernel
theorem dX8_bagsWithin_51 : decode cX8_bagsWithin 51 = .ok (.if_icmp .ne 7, 3) := by decide +kernel
theorem dX8_bagsWithin_58 : decode cX8_bagsWithin 58 = .ok (.iconst 0, 1) := by decide +kernel
theorem dX8_bagsWithin_54 : decode cX8_bagsWithin 54 = .ok (.iconst 1, 1) := by decide +kernel
theorem dX8_bagsWithin_55 : decode cX8_bagsWithin 55 = .ok (.goto 4, 3) := by decide +kernel
theorem dX8_bagsWithin_59 : decode cX8_bagsWithin 59 = .ok (.invokestatic 71, 3) := by decide +kernel
theorem dX8_bagsWithin_62 : decode cX8_bagsWithin 62 = .ok (.lstore 11, 2) := by decide +kernel
theorem dX8_bagsWithin_64 : decode cX8_bagsWithin 64 = .ok (.lload 11, 2) := by decide +kernel
theorem dX8_bagsWithin_66 : decode cX8_bagsWithin 66 = .ok (.lconst 0, 1) := by decide +kernel
theorem dX8_bagsWithin_67 : decode cX8_bagsWithin 67 = .ok (.lcmp, 1) := by decide +kernel
theorem dX8_bagsWithin_68 : decode cX8_bagsWithin 68 = .ok (.ifCond .ne 6, 3) := by decide +kernel
theorem dX8_bagsWithin_74 : decode cX8_bagsWithin 74 = .ok (.aload_n 0, 1) := by decide +kernel
theorem dX8_bagsWithin_75 : decode cX8_bagsWithin 75 = .ok (.getfield 32, 3) := by decide +kernel
theorem dX8_bagsWithin_78 : decode cX8_bagsWithin 78 = .ok (.iload_n 1, 1) := by decide +kernel
theorem dX8_bagsWithin_79 : decode cX8_bagsWithin 79 = .ok (.iload 7, 2) := by decide +kernel
theorem dX8_bagsWithin_81 : decode cX8_bagsWithin 81 = .ok (.ifCond .ne 7, 3) := by decide +kernel
theorem dX8_bagsWithin_88 : decode cX8_bagsWithin 88 = .ok (.iload_n 2, 1) := by decide +kernel
theorem dX8_bagsWithin_89 : decode cX8_bagsWithin 89 = .ok (.iload 10, 2) := by decide +kernel
theorem dX8_bagsWithin_91 : decode cX8_bagsWithin 91 = .ok (.isub, 1) := by decide +kernel
theorem dX8_bagsWithin_84 : decode cX8_bagsWithin 84 = .ok (.iconst 0, 1) := by decide +kernel
theorem dX8_bagsWithin_85 : decode cX8_bagsWithin 85 = .ok (.goto 7, 3) := by decide +kernel
theorem dX8_bagsWithin_92 : decode cX8_bagsWithin 92 = .ok (.iload_n 3, 1) := by decide +kernel
theorem dX8_bagsWithin_93 : decode cX8_bagsWithin 93 = .ok (.iload 10, 2) := by decide +kernel
theorem dX8_bagsWithin_95 : decode cX8_bagsWithin 95 = .ok (.iload 4, 2) := by decide +kernel
theorem dX8_bagsWithin_97 : decode cX8_bagsWithin 97 = .ok (.imul, 1) := by decide +kernel
theorem dX8_bagsWithin_98 : decode cX8_bagsWithin 98 = .ok (.isub, 1) := by decide +kernel
theorem dX8_bagsWithin_99 : decode cX8_bagsWithin 99 = .ok (.iload 4, 2) := by decide +kernel
theorem dX8_bagsWithin_101 : decode cX8_bagsWithin 101 = .ok (.iconst 1, 1) := by decide +kernel
theorem dX8_bagsWithin_102 : decode cX8_bagsWithin 102 = .ok (.isub, 1) := by decide +kernel
theorem dX8_bagsWithin_103 : decode cX8_bagsWithin 103 = .ok (.invokevirtual 75, 3) := by decide +kernel
theorem wm_1354 : (Jvm.Cond.methodLink "GrownKinds$Sequences" (75 : Nat) ({ cls := "GrownKinds$Census", name := "bagsUpTo", desc := "(IIII)J" } : Jvm.MethodName)) ∈ gT := gT_in (List.mem_of_getElem? (i := 1354) (by decide +kernel)) (by decide +kernel)
theorem wm_1355 : (Jvm.Cond.instanceMethod ({ cls := "GrownKinds$Census", name := "bagsUpTo", desc := "(IIII)J" } : Jvm.MethodName)) ∈ gT := gT_in (List.mem_of_getElem? (i := 1355) (by decide +kernel)) (by decide +kernel)
theorem wm_1356 : (Jvm.Cond.selects "GrownKinds$Census" ({ cls := "GrownKinds$Census", name := "bagsUpTo", desc := "(IIII)J" } : Jvm.MethodName) ({ cls := "GrownKinds$Census", name := "bagsUpTo", desc := "(IIII)J" } : Jvm.MethodName)) ∈ gT := gT_in (List.mem_of_getElem? (i := 1356) (by decide +kernel)) (by decide +kernel)
theorem wm_1357 : (Jvm.Cond.code ({ cls := "GrownKinds$Census", name := "bagsUpTo", desc := "(IIII)J" } : Jvm.MethodName) prog_2_method_30_code (6 : Nat) (Option.some Jvm.ClassFile.FieldType.long)) ∈ gT := gT_in (List.mem_of_getElem? (i := 1357) (by decide +kernel)) (by decide +kernel)
theorem dX0_bagsUpTo_0 : decode cX0_bagsUpTo 0 = .ok (.iload_n 1, 1) := by decide +kernel
theorem dX0_bagsUpTo_1 : decode cX0_bagsUpTo 1 = .ok (.sipush 512, 3) := by decide +kernel
theorem dX0_bagsUpTo_4 : decode cX0_bagsUpTo 4 = .ok (.imul, 1) := by decide +kernel
theorem dX0_bagsUpTo_5 : decode cX0_bagsUpTo 5 = .ok (.iload 4, 2) := by decide +kernel
theorem dX0_bagsUpTo_7 : decode cX0_bagsUpTo 7 = .ok (.bipush 64, 2) := by decide +kernel
theorem dX0_bagsUpTo_9 : decode cX0_bagsUpTo 9 = .ok (.imul, 1) := by decide +kernel
theorem dX0_bagsUpTo_10 : decode cX0_bagsUpTo 10 = .ok (.iadd, 1) := by decide +kernel
theorem dX0_bagsUpTo_11 : decode cX0_bagsUpTo 11 = .ok (.iload_n 2, 1) := by decide +kernel
theorem dX0_bagsUpTo_12 : decode cX0_bagsUpTo 12 = .ok (.bipush 8, 2) := by decide +kernel
theorem dX0_bagsUpTo_14 : decode cX0_bagsUpTo 14 = .ok (.imul, 1) := by decide +kernel
theorem dX0_bagsUpTo_15 : decode cX0_bagsUpTo 15 = .ok (.iadd, 1) := by decide +kernel
theorem dX0_bagsUpTo_16 : decode cX0_bagsUpTo 16 = .ok (.iload_n 3, 1) := by decide +kernel
theorem dX0_bagsUpTo_17 : decode cX0_bagsUpTo 17 = .ok (.iadd, 1) := by decide +kernel
theorem dX0_bagsUpTo_18 : decode cX0_bagsUpTo 18 = .ok (.istore 5, 2) := by decide +kernel
theorem dX0_bagsUpTo_20 : decode cX0_bagsUpTo 20 = .ok (.iload 5, 2) := by decide +kernel
theorem dX0_bagsUpTo_22 : decode cX0_bagsUpTo 22 = .ok (.ifCond .lt 23, 3) := by decide +kernel
theorem dX0_bagsUpTo_45 : decode cX0_bagsUpTo 45 = .ok (.lconst 0, 1) := by decide +kernel
theorem dX0_bagsUpTo_46 : decode cX0_bagsUpTo 46 = .ok (.lreturn, 1) := by decide +kernel
theorem dX0_bagsUpTo_25 : decode cX0_bagsUpTo 25 = .ok (.iload 5, 2) := by decide +kernel
theorem dX0_bagsUpTo_27 : decode cX0_bagsUpTo 27 = .ok (.aload_n 0, 1) := by decide +kernel
theorem dX0_bagsUpTo_28 : decode cX0_bagsUpTo 28 = .ok (.getfield 35, 3) := by decide +kernel
theorem dX0_bagsUpTo_31 : decode cX0_bagsUpTo 31 = .ok (.arraylength, 1) := by decide +kernel
theorem dX0_bagsUpTo_32 : decode cX0_bagsUpTo 32 = .ok (.if_icmp .ge 13, 3) := by decide +kernel
theorem dX0_bagsUpTo_35 : decode cX0_bagsUpTo 35 = .ok (.aload_n 0, 1) := by decide +kernel
theorem dX0_bagsUpTo_36 : decode cX0_bagsUpTo 36 = .ok (.getfield 35, 3) := by decide +kernel
theorem dX0_bagsUpTo_39 : decode cX0_bagsUpTo 39 = .ok (.iload 5, 2) := by decide +kernel
theorem dX0_bagsUpTo_41 : decode cX0_bagsUpTo 41 = .ok (.laload, 1) := by decide +kernel
theorem dX0_bagsUpTo_42 : decode cX0_bagsUpTo 42 = .ok (.goto 4, 3) := by decide +kernel
theorem dX8_bagsWithin_106 : decode cX8_bagsWithin 106 = .ok (.lstore 13, 2) := by decide +kernel
theorem dX8_bagsWithin_108 : decode cX8_bagsWithin 108 = .ok (.lload 8, 2) := by decide +kernel
theorem dX8_bagsWithin_110 : decode cX8_bagsWithin 110 = .ok (.lload 11, 2) := by decide +kernel
theorem dX8_bagsWithin_112 : decode cX8_bagsWithin 112 = .ok (.lload 13, 2) := by decide +kernel
theorem dX8_bagsWithin_114 : decode cX8_bagsWithin 114 = .ok (.invokestatic 53, 3) := by decide +kernel
theorem dX8_bagsWithin_117 : decode cX8_bagsWithin 117 = .ok (.invokestatic 79, 3) := by decide +kernel
theorem dX8_bagsWithin_120 : decode cX8_bagsWithin 120 = .ok (.lstore 8, 2) := by decide +kernel
theorem dX8_bagsWithin_122 : decode cX8_bagsWithin 122 = .ok (.iinc 10 1, 3) := by decide +kernel
theorem dX8_bagsWithin_125 : decode cX8_bagsWithin 125 = .ok (.goto (-108), 3) := by decide +kernel
theorem dX8_bagsWithin_71 : decode cX8_bagsWithin 71 = .ok (.lload 8, 2) := by decide +kernel
theorem dX8_bagsWithin_73 : decode cX8_bagsWithin 73 = .ok (.lreturn, 1) := by decide +kernel
theorem dX8_bagsWithin_128 : decode cX8_bagsWithin 128 = .ok (.lload 8, 2) := by decide +kernel
theorem dX8_bagsWithin_130 : decode cX8_bagsWithin 130 = .ok (.lreturn, 1) := by decide +kernel
theorem dX8_findRow_0 : decode cX8_findRow 0 = .ok (.aload_n 0, 1) := by decide +kernel
theorem dX8_findRow_1 : decode cX8_findRow 1 = .ok (.iconst 0, 1) := by decide +kernel
theorem dX8_findRow_2 : decode cX8_findRow 2 = .ok (.putfield 9, 3) := by decide +kernel
theorem dX8_findRow_5 : decode cX8_findRow 5 = .ok (.aload_n 0, 1) := by decide +kernel
theorem dX8_findRow_6 : decode cX8_findRow 6 = .ok (.aload_n 0, 1) := by decide +kernel
theorem dX8_findRow_7 : decode cX8_findRow 7 = .ok (.getfield 28, 3) := by decide +kernel
theorem dX8_findRow_10 : decode cX8_findRow 10 = .ok (.getfield 36, 3) := by decide +kernel
theorem wm_248 : (Jvm.Cond.fieldLink "GrownKinds$Sequences" (36 : Nat) "GrownKinds$Grammar" "inside" "[I") ∈ gT := gT_in (List.mem_of_getElem? (i := 248) (by decide +kernel)) (by decide +kernel)
theorem dX8_findRow_13 : decode cX8_findRow 13 = .ok (.iload_n 1, 1) := by decide +kernel
theorem dX8_findRow_14 : decode cX8_findRow 14 = .ok (.iaload, 1) := by decide +kernel
theorem dX8_findRow_15 : decode cX8_findRow 15 = .ok (.putfield 25, 3) := by decide +kernel
theorem dX8_findRow_18 : decode cX8_findRow 18 = .ok (.iload_n 2, 1) := by decide +kernel
theorem dX8_findRow_19 : decode cX8_findRow 19 = .ok (.istore 4, 2) := by decide +kernel
theorem dX8_findRow_21 : decode cX8_findRow 21 = .ok (.iload_n 3, 1) := by decide +kernel
theorem dX8_findRow_22 : decode cX8_findRow 22 = .ok (.i2l, 1) := by decide +kernel
theorem dX8_findRow_23 : decode cX8_findRow 23 = .ok (.lstore 5, 2) := by decide +kernel
theorem dX8_findRow_25 : decode cX8_findRow 25 = .ok (.iconst 1, 1) := by decide +kernel
theorem dX8_findRow_26 : decode cX8_findRow 26 = .ok (.istore 7, 2) := by decide +kernel
theorem dX8_findRow_28 : decode cX8_findRow 28 = .ok (.iload 7, 2) := by decide +kernel
theorem dX8_findRow_30 : decode cX8_findRow 30 = .ok (.bipush 8, 2) := by decide +kernel
theorem dX8_findRow_32 : decode cX8_findRow 32 = .ok (.if_icmp .ge 164, 3) := by decide +kernel
theorem dX8_findRow_35 : decode cX8_findRow 35 = .ok (.iload 4, 2) := by decide +kernel
theorem dX8_findRow_37 : decode cX8_findRow 37 = .ok (.ifCond .le 159, 3) := by decide +kernel
theorem dX8_findRow_40 : decode cX8_findRow 40 = .ok (.iconst 1, 1) := by decide +kernel
theorem dX8_findRow_41 : decode cX8_findRow 41 = .ok (.istore 8, 2) := by decide +kernel
theorem dX8_findRow_43 : decode cX8_findRow 43 = .ok (.aload_n 0, 1) := by decide +kernel
theorem dX8_findRow_44 : decode cX8_findRow 44 = .ok (.getfield 32, 3) := by decide +kernel
theorem dX8_findRow_47 : decode cX8_findRow 47 = .ok (.iload_n 1, 1) := by decide +kernel
theorem dX8_findRow_48 : decode cX8_findRow 48 = .ok (.aload_n 0, 1) := by decide +kernel
theorem dX8_findRow_49 : decode cX8_findRow 49 = .ok (.getfield 28, 3) := by decide +kernel
theorem dX8_findRow_52 : decode cX8_findRow 52 = .ok (.getfield 40, 3) := by decide +kernel
theorem dX8_findRow_55 : decode cX8_findRow 55 = .ok (.iload_n 1, 1) := by decide +kernel
theorem dX8_findRow_56 : decode cX8_findRow 56 = .ok (.iaload, 1) := by decide +kernel
theorem dX8_findRow_57 : decode cX8_findRow 57 = .ok (.iload 7, 2) := by decide +kernel
theorem dX8_findRow_59 : decode cX8_findRow 59 = .ok (.isub, 1) := by decide +kernel
theorem dX8_findRow_60 : decode cX8_findRow 60 = .ok (.iload 4, 2) := by decide +kernel
theorem dX8_findRow_62 : decode cX8_findRow 62 = .ok (.iload 8, 2) := by decide +kernel
theorem dX8_findRow_64 : decode cX8_findRow 64 = .ok (.isub, 1) := by decide +kernel
theorem dX8_findRow_65 : decode cX8_findRow 65 = .ok (.invokevirtual 43, 3) := by decide +kernel
theorem wm_1321 : (Jvm.Cond.methodLink "GrownKinds$Sequences" (43 : Nat) ({ cls := "GrownKinds$Census", name := "rowsLeft", desc := "(III)J" } : Jvm.MethodName)) ∈ gT := gT_in (List.mem_of_getElem? (i := 1321) (by decide +kernel)) (by decide +kernel)
theorem wm_1322 : (Jvm.Cond.instanceMethod ({ cls := "GrownKinds$Census", name := "rowsLeft", desc := "(III)J" } : Jvm.MethodName)) ∈ gT := gT_in (List.mem_of_getElem? (i := 1322) (by decide +kernel)) (by decide +kernel)
theorem wm_1323 : (Jvm.Cond.selects "GrownKinds$Census" ({ cls := "GrownKinds$Census", name := "rowsLeft", desc := "(III)J" } : Jvm.MethodName) ({ cls := "GrownKinds$Census", name := "rowsLeft", desc := "(III)J" } : Jvm.MethodName)) ∈ gT := gT_in (List.mem_of_getElem? (i := 1323) (by decide +kernel)) (by decide +kernel)
theorem wm_1324 : (Jvm.Cond.code ({ cls := "GrownKinds$Census", name := "rowsLeft", desc := "(III)J" } : Jvm.MethodName) prog_2_method_12_code (7 : Nat) (Option.some Jvm.ClassFile.FieldType.long)) ∈ gT := gT_in (List.mem_of_getElem? (i := 1324) (by decide +kernel)) (by decide +kernel)
theorem dX0_rowsLeft_0 : decode cX0_rowsLeft 0 = .ok (.aload_n 0, 1) := by decide +kernel
theorem dX0_rowsLeft_1 : decode cX0_rowsLeft 1 = .ok (.getfield 31, 3) := by decide +kernel
theorem dX0_rowsLeft_4 : decode cX0_rowsLeft 4 = .ok (.getfield 98, 3) := by decide +kernel
theorem dX0_rowsLeft_7 : decode cX0_rowsLeft 7 = .ok (.iload_n 1, 1) := by decide +kernel
theorem dX0_rowsLeft_8 : decode cX0_rowsLeft 8 = .ok (.iaload, 1) := by decide +kernel
theorem dX0_rowsLeft_9 : decode cX0_rowsLeft 9 = .ok (.ifCond .eq 20, 3) := by decide +kernel
theorem dX0_rowsLeft_29 : decode cX0_rowsLeft 29 = .ok (.iload_n 3, 1) := by decide +kernel
theorem dX0_rowsLeft_30 : decode cX0_rowsLeft 30 = .ok (.ifCond .ne 7, 3) := by decide +kernel
theorem dX0_rowsLeft_37 : decode cX0_rowsLeft 37 = .ok (.lconst 0, 1) := by decide +kernel
theorem dX0_rowsLeft_33 : decode cX0_rowsLeft 33 = .ok (.lconst 1, 1) := by decide +kernel
theorem dX0_rowsLeft_34 : decode cX0_rowsLeft 34 = .ok (.goto 4, 3) := by decide +kernel
theorem dX0_rowsLeft_38 : decode cX0_rowsLeft 38 = .ok (.lstore 4, 2) := by decide +kernel
theorem dX0_rowsLeft_40 : decode cX0_rowsLeft 40 = .ok (.iconst 1, 1) := by decide +kernel
theorem dX0_rowsLeft_41 : decode cX0_rowsLeft 41 = .ok (.istore 6, 2) := by decide +kernel
theorem dX0_rowsLeft_43 : decode cX0_rowsLeft 43 = .ok (.iload 6, 2) := by decide +kernel
theorem dX0_rowsLeft_45 : decode cX0_rowsLeft 45 = .ok (.iload_n 3, 1) := by decide +kernel
theorem dX0_rowsLeft_46 : decode cX0_rowsLeft 46 = .ok (.if_icmp .gt 25, 3) := by decide +kernel
theorem dX0_rowsLeft_49 : decode cX0_rowsLeft 49 = .ok (.lload 4, 2) := by decide +kernel
theorem dX0_rowsLeft_51 : decode cX0_rowsLeft 51 = .ok (.aload_n 0, 1) := by decide +kernel
theorem dX0_rowsLeft_52 : decode cX0_rowsLeft 52 = .ok (.iload_n 1, 1) := by decide +kernel
theorem dX0_rowsLeft_53 : decode cX0_rowsLeft 53 = .ok (.iload 6, 2) := by decide +kernel
theorem dX0_rowsLeft_55 : decode cX0_rowsLeft 55 = .ok (.iload_n 3, 1) := by decide +kernel
theorem dX0_rowsLeft_56 : decode cX0_rowsLeft 56 = .ok (.iconst 0, 1) := by decide +kernel
theorem dX0_rowsLeft_57 : decode cX0_rowsLeft 57 = .ok (.invokevirtual 101, 3) := by decide +kernel
theorem dX0_rowsLeft_60 : decode cX0_rowsLeft 60 = .ok (.invokestatic 105, 3) := by decide +kernel
theorem dX0_rowsLeft_63 : decode cX0_rowsLeft 63 = .ok (.lstore 4, 2) := by decide +kernel
theorem dX0_rowsLeft_65 : decode cX0_rowsLeft 65 = .ok (.iinc 6 1, 3) := by decide +kernel
theorem dX0_rowsLeft_68 : decode cX0_rowsLeft 68 = .ok (.goto (-25), 3) := by decide +kernel
theorem dX0_rowsLeft_71 : decode cX0_rowsLeft 71 = .ok (.lload 4, 2) := by decide +kernel
theorem dX0_rowsLeft_73 : decode cX0_rowsLeft 73 = .ok (.lreturn, 1) := by decide +kernel
theorem dX0_rowsLeft_12 : decode cX0_rowsLeft 12 = .ok (.iload_n 2, 1) := by decide +kernel
theorem dX0_rowsLeft_13 : decode cX0_rowsLeft 13 = .ok (.ifCond .ge 7, 3) := by decide +kernel
theorem dX0_rowsLeft_20 : decode cX0_rowsLeft 20 = .ok (.aload_n 0, 1) := by decide +kernel
theorem dX0_rowsLeft_21 : decode cX0_rowsLeft 21 = .ok (.iload_n 1, 1) := by decide +kernel
theorem dX0_rowsLeft_22 : decode cX0_rowsLeft 22 = .ok (.iload_n 2, 1) := by decide +kernel
theorem dX0_rowsLeft_23 : decode cX0_rowsLeft 23 = .ok (.iload_n 3, 1) := by decide +kernel
theorem dX0_rowsLeft_24 : decode cX0_rowsLeft 24 = .ok (.iconst 0, 1) := by decide +kernel
theorem dX0_rowsLeft_25 : decode cX0_rowsLeft 25 = .ok (.invokevirtual 101, 3) := by decide +kernel
theorem dX0_rowsLeft_28 : decode cX0_rowsLeft 28 = .ok (.lreturn, 1) := by decide +kernel
theorem dX0_rowsLeft_16 : decode cX0_rowsLeft 16 = .ok (.lconst 0, 1) := by decide +kernel
theorem dX0_rowsLeft_17 : decode cX0_rowsLeft 17 = .ok (.goto 11, 3) := by decide +kernel
theorem dX8_findRow_68 : decode cX8_findRow 68 = .ok (.lstore 9, 2) := by decide +kernel
theorem dX8_findRow_70 : decode cX8_findRow 70 = .ok (.iload 8, 2) := by decide +kernel
theorem dX8_findRow_72 : decode cX8_findRow 72 = .ok (.iload 4, 2) := by decide +kernel
theorem dX8_findRow_74 : decode cX8_findRow 74 = .ok (.if_icmp .ge 83, 3) := by decide +kernel
theorem dX8_findRow_77 : decode cX8_findRow 77 = .ok (.lload 5, 2) := by decide +kernel
theorem dX8_findRow_79 : decode cX8_findRow 79 = .ok (.aload_n 0, 1) := by decide +kernel
theorem dX8_findRow_80 : decode cX8_findRow 80 = .ok (.getfield 32, 3) := by decide +kernel
theorem dX8_findRow_83 : decode cX8_findRow 83 = .ok (.aload_n 0, 1) := by decide +kernel
theorem dX8_findRow_84 : decode cX8_findRow 84 = .ok (.getfield 25, 3) := by decide +kernel
theorem dX8_findRow_87 : decode cX8_findRow 87 = .ok (.iload 8, 2) := by decide +kernel
theorem dX8_findRow_89 : decode cX8_findRow 89 = .ok (.invokevirtual 49, 3) := by decide +kernel
theorem wm_1325 : (Jvm.Cond.methodLink "GrownKinds$Sequences" (49 : Nat) ({ cls := "GrownKinds$Census", name := "of", desc := "(II)J" } : Jvm.MethodName)) ∈ gT := gT_in (List.mem_of_getElem? (i := 1325) (by decide +kernel)) (by decide +kernel)
theorem wm_1306 : (Jvm.Cond.instanceMethod ({ cls := "GrownKinds$Census", name := "of", desc := "(II)J" } : Jvm.MethodName)) ∈ gT := gT_in (List.mem_of_getElem? (i := 1306) (by decide +kernel)) (by decide +kernel)
theorem wm_1307 : (Jvm.Cond.selects "GrownKinds$Census" ({ cls := "GrownKinds$Census", name := "of", desc := "(II)J" } : Jvm.MethodName) ({ cls := "GrownKinds$Census", name := "of", desc := "(II)J" } : Jvm.MethodName)) ∈ gT := gT_in (List.mem_of_getElem? (i := 1307) (by decide +kernel)) (by decide +kernel)
theorem wm_1308 : (Jvm.Cond.code ({ cls := "GrownKinds$Census", name := "of", desc := "(II)J" } : Jvm.MethodName) prog_2_method_5_code (3 : Nat) (Option.some Jvm.ClassFile.FieldType.long)) ∈ gT := gT_in (List.mem_of_getElem? (i := 1308) (by decide +kernel)) (by decide +kernel)
theorem dX0_of_0 : decode cX0_of 0 = .ok (.aload_n 0, 1) := by decide +kernel
theorem dX0_of_1 : decode cX0_of 1 = .ok (.getfield 15, 3) := by decide +kernel
theorem dX0_of_4 : decode cX0_of 4 = .ok (.iload_n 1, 1) := by decide +kernel
theorem dX0_of_5 : decode cX0_of 5 = .ok (.bipush 64, 2) := by decide +kernel
theorem dX0_of_7 : decode cX0_of 7 = .ok (.imul, 1) := by decide +kernel
theorem dX0_of_8 : decode cX0_of 8 = .ok (.iload_n 2, 1) := by decide +kernel
theorem dX0_of_9 : decode cX0_of 9 = .ok (.bipush 8, 2) := by decide +kernel
theorem dX0_of_11 : decode cX0_of 11 = .ok (.imul, 1) := by decide +kernel
theorem dX0_of_12 : decode cX0_of 12 = .ok (.iadd, 1) := by decide +kernel
theorem dX0_of_13 : decode cX0_of 13 = .ok (.laload, 1) := by decide +kernel
theorem dX0_of_14 : decode cX0_of 14 = .ok (.lreturn, 1) := by decide +kernel
theorem dX8_findRow_92 : decode cX8_findRow 92 = .ok (.lload 9, 2) := by decide +kernel
theorem dX8_findRow_94 : decode cX8_findRow 94 = .ok (.invokestatic 53, 3) := by decide +kernel
theorem dX8_findRow_97 : decode cX8_findRow 97 = .ok (.lcmp, 1) := by decide +kernel
theorem dX8_findRow_98 : decode cX8_findRow 98 = .ok (.ifCond .lt 59, 3) := by decide +kernel
theorem dX8_findRow_101 : decode cX8_findRow 101 = .ok (.lload 5, 2) := by decide +kernel
theorem dX8_findRow_103 : decode cX8_findRow 103 = .ok (.aload_n 0, 1) := by decide +kernel
theorem dX8_findRow_104 : decode cX8_findRow 104 = .ok (.getfield 32, 3) := by decide +kernel
theorem dX8_findRow_107 : decode cX8_findRow 107 = .ok (.aload_n 0, 1) := by decide +kernel
theorem dX8_findRow_108 : decode cX8_findRow 108 = .ok (.getfield 25, 3) := by decide +kernel
theorem dX8_findRow_111 : decode cX8_findRow 111 = .ok (.iload 8, 2) := by decide +kernel
theorem dX8_findRow_113 : decode cX8_findRow 113 = .ok (.invokevirtual 49, 3) := by decide +kernel
theorem dX8_findRow_116 : decode cX8_findRow 116 = .ok (.lload 9, 2) := by decide +kernel
theorem dX8_findRow_118 : decode cX8_findRow 118 = .ok (.invokestatic 53, 3) := by decide +kernel
theorem dX8_findRow_121 : decode cX8_findRow 121 = .ok (.lsub, 1) := by decide +kernel
theorem dX8_findRow_122 : decode cX8_findRow 122 = .ok (.lstore 5, 2) := by decide +kernel
theorem dX8_findRow_124 : decode cX8_findRow 124 = .ok (.iinc 8 1, 3) := by decide +kernel
theorem dX8_findRow_127 : decode cX8_findRow 127 = .ok (.aload_n 0, 1) := by decide +kernel
theorem dX8_findRow_128 : decode cX8_findRow 128 = .ok (.getfield 32, 3) := by decide +kernel
theorem dX8_findRow_131 : decode cX8_findRow 131 = .ok (.iload_n 1, 1) := by decide +kernel
theorem dX8_findRow_132 : decode cX8_findRow 132 = .ok (.aload_n 0, 1) := by decide +kernel
theorem dX8_findRow_133 : decode cX8_findRow 133 = .ok (.getfield 28, 3) := by decide +kernel
theorem dX8_findRow_136 : decode cX8_findRow 136 = .ok (.getfield 40, 3) := by decide +kernel
theorem dX8_findRow_139 : decode cX8_findRow 139 = .ok (.iload_n 1, 1) := by decide +kernel
theorem dX8_findRow_140 : decode cX8_findRow 140 = .ok (.iaload, 1) := by decide +kernel
theorem dX8_findRow_141 : decode cX8_findRow 141 = .ok (.iload 7, 2) := by decide +kernel
theorem dX8_findRow_143 : decode cX8_findRow 143 = .ok (.isub, 1) := by decide +kernel
theorem dX8_findRow_144 : decode cX8_findRow 144 = .ok (.iload 4, 2) := by decide +kernel
theorem dX8_findRow_146 : decode cX8_findRow 146 = .ok (.iload 8, 2) := by decide +kernel
theorem dX8_findRow_148 : decode cX8_findRow 148 = .ok (.isub, 1) := by decide +kernel
theorem dX8_findRow_149 : decode cX8_findRow 149 = .ok (.invokevirtual 43, 3) := by decide +kernel
theorem dX8_findRow_152 : decode cX8_findRow 152 = .ok (.lstore 9, 2) := by decide +kernel
theorem dX8_findRow_154 : decode cX8_findRow 154 = .ok (.goto (-84), 3) := by decide +kernel
theorem dX8_findRow_157 : decode cX8_findRow 157 = .ok (.lload 9, 2) := by decide +kernel
theorem dX8_findRow_159 : decode cX8_findRow 159 = .ok (.lconst 1, 1) := by decide +kernel
theorem dX8_findRow_160 : decode cX8_findRow 160 = .ok (.lcmp, 1) := by decide +kernel
theorem dX8_findRow_161 : decode cX8_findRow 161 = .ok (.ifCond .ge 4, 3) := by decide +kernel
theorem dX8_findRow_165 : decode cX8_findRow 165 = .ok (.aload_n 0, 1) := by decide +kernel
theorem dX8_findRow_166 : decode cX8_findRow 166 = .ok (.iload 8, 2) := by decide +kernel
theorem dX8_findRow_168 : decode cX8_findRow 168 = .ok (.lload 5, 2) := by decide +kernel
theorem dX8_findRow_170 : decode cX8_findRow 170 = .ok (.lload 9, 2) := by decide +kernel
theorem dX8_findRow_172 : decode cX8_findRow 172 = .ok (.ldiv, 1) := by decide +kernel
theorem dX8_findRow_173 : decode cX8_findRow 173 = .ok (.invokevirtual 57, 3) := by decide +kernel
theorem wm_1327 : (Jvm.Cond.methodLink "GrownKinds$Sequences" (57 : Nat) ({ cls := "GrownKinds$Sequences", name := "add", desc := "(IJ)V" } : Jvm.MethodName)) ∈ gT := gT_in (List.mem_of_getElem? (i := 1327) (by decide +kernel)) (by decide +kernel)
theorem wm_1329 : (Jvm.Cond.instanceMethod ({ cls := "GrownKinds$Sequences", name := "add", desc := "(IJ)V" } : Jvm.MethodName)) ∈ gT := gT_in (List.mem_of_getElem? (i := 1329) (by decide +kernel)) (by decide +kernel)
theorem wm_60 : Cond.selects "GrownKinds$Sequences" ⟨"GrownKinds$Sequences", "add", "(IJ)V"⟩ ⟨"GrownKinds$Sequences", "add", "(IJ)V"⟩ ∈ gT := gT_in (List.mem_of_getElem? (i := 60) (by decide +kernel)) (by decide +kernel)
theorem wm_1330 : (Jvm.Cond.code ({ cls := "GrownKinds$Sequences", name := "add", desc := "(IJ)V" } : Jvm.MethodName) prog_10_method_3_code (4 : Nat) (Option.none : Option Jvm.ClassFile.FieldType)) ∈ gT := gT_in (List.mem_of_getElem? (i := 1330) (by decide +kernel)) (by decide +kernel)
theorem dX8_findRow_176 : decode cX8_findRow 176 = .ok (.lload 5, 2) := by decide +kernel
theorem dX8_findRow_178 : decode cX8_findRow 178 = .ok (.lload 9, 2) := by decide +kernel
theorem dX8_findRow_180 : decode cX8_findRow 180 = .ok (.lrem, 1) := by decide +kernel
theorem dX8_findRow_181 : decode cX8_findRow 181 = .ok (.lstore 5, 2) := by decide +kernel
theorem dX8_findRow_183 : decode cX8_findRow 183 = .ok (.iload 4, 2) := by decide +kernel
theorem dX8_findRow_185 : decode cX8_findRow 185 = .ok (.iload 8, 2) := by decide +kernel
theorem dX8_findRow_187 : decode cX8_findRow 187 = .ok (.isub, 1) := by decide +kernel
theorem dX8_findRow_188 : decode cX8_findRow 188 = .ok (.istore 4, 2) := by decide +kernel
theorem dX8_findRow_190 : decode cX8_findRow 190 = .ok (.iinc 7 1, 3) := by decide +kernel
theorem dX8_findRow_193 : decode cX8_findRow 193 = .ok (.goto (-165), 3) := by decide +kernel
theorem dX8_findRow_164 : decode cX8_findRow 164 = .ok (.return_, 1) := by decide +kernel
theorem dX8_findRow_196 : decode cX8_findRow 196 = .ok (.return_, 1) := by decide +kernel
theorem dX8_findBag_0 : decode cX8_findBag 0 = .ok (.aload_n 0, 1) := by decide +kernel
theorem dX8_findBag_1 : decode cX8_findBag 1 = .ok (.iconst 0, 1) := by decide +kernel
theorem dX8_findBag_2 : decode cX8_findBag 2 = .ok (.putfield 9, 3) := by decide +kernel
theorem dX8_findBag_5 : decode cX8_findBag 5 = .ok (.aload_n 0, 1) := by decide +kernel
theorem dX8_findBag_6 : decode cX8_findBag 6 = .ok (.aload_n 0, 1) := by decide +kernel
theorem dX8_findBag_7 : decode cX8_findBag 7 = .ok (.getfield 28, 3) := by decide +kernel
theorem dX8_findBag_10 : decode cX8_findBag 10 = .ok (.getfield 36, 3) := by decide +kernel
theorem dX8_findBag_13 : decode cX8_findBag 13 = .ok (.iload_n 1, 1) := by decide +kernel
theorem dX8_findBag_14 : decode cX8_findBag 14 = .ok (.iaload, 1) := by decide +kernel
theorem dX8_findBag_15 : decode cX8_findBag 15 = .ok (.putfield 25, 3) := by decide +kernel
theorem dX8_findBag_18 : decode cX8_findBag 18 = .ok (.aload_n 0, 1) := by decide +kernel
theorem dX8_findBag_19 : decode cX8_findBag 19 = .ok (.getfield 28, 3) := by decide +kernel
theorem dX8_findBag_22 : decode cX8_findBag 22 = .ok (.getfield 40, 3) := by decide +kernel
theorem dX8_findBag_25 : decode cX8_findBag 25 = .ok (.iload_n 1, 1) := by decide +kernel
theorem dX8_findBag_26 : decode cX8_findBag 26 = .ok (.iaload, 1) := by decide +kernel
theorem dX8_findBag_27 : decode cX8_findBag 27 = .ok (.istore 4, 2) := by decide +kernel
theorem dX8_findBag_29 : decode cX8_findBag 29 = .ok (.iload 4, 2) := by decide +kernel
theorem dX8_findBag_31 : decode cX8_findBag 31 = .ok (.iconst 1, 1) := by decide +kernel
theorem dX8_findBag_32 : decode cX8_findBag 32 = .ok (.if_icmp .ne 11, 3) := by decide +kernel
theorem dX8_findBag_43 : decode cX8_findBag 43 = .ok (.iload_n 2, 1) := by decide +kernel
theorem dX8_findBag_44 : decode cX8_findBag 44 = .ok (.istore 5, 2) := by decide +kernel
theorem dX8_findBag_46 : decode cX8_findBag 46 = .ok (.iload_n 3, 1) := by decide +kernel
theorem dX8_findBag_47 : decode cX8_findBag 47 = .ok (.i2l, 1) := by decide +kernel
theorem dX8_findBag_48 : decode cX8_findBag 48 = .ok (.lstore 6, 2) := by decide +kernel
theorem dX8_findBag_50 : decode cX8_findBag 50 = .ok (.iconst 0, 1) := by decide +kernel
theorem dX8_findBag_51 : decode cX8_findBag 51 = .ok (.istore 8, 2) := by decide +kernel
theorem dX8_findBag_53 : decode cX8_findBag 53 = .ok (.iload 8, 2) := by decide +kernel
theorem dX8_findBag_55 : decode cX8_findBag 55 = .ok (.bipush 8, 2) := by decide +kernel
theorem dX8_findBag_57 : decode cX8_findBag 57 = .ok (.if_icmp .ge 175, 3) := by decide +kernel
theorem dX8_findBag_60 : decode cX8_findBag 60 = .ok (.iload 5, 2) := by decide +kernel
theorem dX8_findBag_62 : decode cX8_findBag 62 = .ok (.ifCond .le 170, 3) := by decide +kernel
theorem dX8_findBag_65 : decode cX8_findBag 65 = .ok (.iconst 1, 1) := by decide +kernel
theorem dX8_findBag_66 : decode cX8_findBag 66 = .ok (.istore 9, 2) := by decide +kernel
theorem dX8_findBag_68 : decode cX8_findBag 68 = .ok (.iload 9, 2) := by decide +kernel
theorem dX8_findBag_70 : decode cX8_findBag 70 = .ok (.iload 5, 2) := by decide +kernel
theorem dX8_findBag_72 : decode cX8_findBag 72 = .ok (.if_icmp .ge 29, 3) := by decide +kernel
theorem dX8_findBag_75 : decode cX8_findBag 75 = .ok (.aload_n 0, 1) := by decide +kernel
theorem dX8_findBag_76 : decode cX8_findBag 76 = .ok (.getfield 32, 3) := by decide +kernel
theorem dX8_findBag_79 : decode cX8_findBag 79 = .ok (.iload_n 1, 1) := by decide +kernel
theorem dX8_findBag_80 : decode cX8_findBag 80 = .ok (.iload 4, 2) := by decide +kernel
theorem dX8_findBag_82 : decode cX8_findBag 82 = .ok (.iload 5, 2) := by decide +kernel
theorem dX8_findBag_84 : decode cX8_findBag 84 = .ok (.iload 9, 2) := by decide +kernel
theorem dX8_findBag_86 : decode cX8_findBag 86 = .ok (.invokevirtual 75, 3) := by decide +kernel
theorem dX8_findBag_89 : decode cX8_findBag 89 = .ok (.lload 6, 2) := by decide +kernel
theorem dX8_findBag_91 : decode cX8_findBag 91 = .ok (.lcmp, 1) := by decide +kernel
theorem dX8_findBag_92 : decode cX8_findBag 92 = .ok (.ifCond .gt 9, 3) := by decide +kernel
theorem dX8_findBag_95 : decode cX8_findBag 95 = .ok (.iinc 9 1, 3) := by decide +kernel
theorem dX8_findBag_98 : decode cX8_findBag 98 = .ok (.goto (-30), 3) := by decide +kernel
theorem dX8_findBag_101 : decode cX8_findBag 101 = .ok (.lconst 0, 1) := by decide +kernel
theorem dX8_findBag_102 : decode cX8_findBag 102 = .ok (.lstore 10, 2) := by decide +kernel
theorem dX8_findBag_104 : decode cX8_findBag 104 = .ok (.ldc2_w 82, 3) := by decide +kernel
theorem wm_1358 : (Jvm.Cond.constantLong "GrownKinds$Sequences" (82 : Nat) (1024 : Int64)) ∈ gT := gT_in (List.mem_of_getElem? (i := 1358) (by decide +kernel)) (by decide +kernel)
theorem dX8_findBag_107 : decode cX8_findBag 107 = .ok (.aload_n 0, 1) := by decide +kernel
theorem dX8_findBag_108 : decode cX8_findBag 108 = .ok (.getfield 32, 3) := by decide +kernel
theorem dX8_findBag_111 : decode cX8_findBag 111 = .ok (.aload_n 0, 1) := by decide +kernel
theorem dX8_findBag_112 : decode cX8_findBag 112 = .ok (.getfield 25, 3) := by decide +kernel
theorem dX8_findBag_115 : decode cX8_findBag 115 = .ok (.iload 9, 2) := by decide +kernel
theorem dX8_findBag_117 : decode cX8_findBag 117 = .ok (.invokevirtual 49, 3) := by decide +kernel
theorem dX8_findBag_120 : decode cX8_findBag 120 = .ok (.invokestatic 63, 3) := by decide +kernel
theorem dX8_findBag_123 : decode cX8_findBag 123 = .ok (.lconst 1, 1) := by decide +kernel
theorem dX8_findBag_124 : decode cX8_findBag 124 = .ok (.lsub, 1) := by decide +kernel
theorem dX8_findBag_125 : decode cX8_findBag 125 = .ok (.lstore 12, 2) := by decide +kernel
theorem dX8_findBag_127 : decode cX8_findBag 127 = .ok (.lload 10, 2) := by decide +kernel
theorem dX8_findBag_129 : decode cX8_findBag 129 = .ok (.lload 12, 2) := by decide +kernel
theorem dX8_findBag_131 : decode cX8_findBag 131 = .ok (.lcmp, 1) := by decide +kernel
theorem dX8_findBag_132 : decode cX8_findBag 132 = .ok (.ifCond .ge 51, 3) := by decide +kernel
theorem dX8_findBag_135 : decode cX8_findBag 135 = .ok (.lload 10, 2) := by decide +kernel
theorem dX8_findBag_137 : decode cX8_findBag 137 = .ok (.lload 12, 2) := by decide +kernel
theorem dX8_findBag_139 : decode cX8_findBag 139 = .ok (.ladd, 1) := by decide +kernel
theorem dX8_findBag_140 : decode cX8_findBag 140 = .ok (.ldc2_w 84, 3) := by decide +kernel
theorem wm_1359 : (Jvm.Cond.constantLong "GrownKinds$Sequences" (84 : Nat) (2 : Int64)) ∈ gT := gT_in (List.mem_of_getElem? (i := 1359) (by decide +kernel)) (by decide +kernel)
theorem dX8_findBag_143 : decode cX8_findBag 143 = .ok (.ldiv, 1) := by decide +kernel
theorem dX8_findBag_144 : decode cX8_findBag 144 = .ok (.lstore 14, 2) := by decide +kernel
theorem dX8_findBag_146 : decode cX8_findBag 146 = .ok (.aload_n 0, 1) := by decide +kernel
theorem dX8_findBag_147 : decode cX8_findBag 147 = .ok (.iload_n 1, 1) := by decide +kernel
theorem dX8_findBag_148 : decode cX8_findBag 148 = .ok (.iload 4, 2) := by decide +kernel
theorem dX8_findBag_150 : decode cX8_findBag 150 = .ok (.iload 5, 2) := by decide +kernel
theorem dX8_findBag_152 : decode cX8_findBag 152 = .ok (.iload 9, 2) := by decide +kernel
theorem dX8_findBag_154 : decode cX8_findBag 154 = .ok (.lload 14, 2) := by decide +kernel
theorem dX8_findBag_156 : decode cX8_findBag 156 = .ok (.lconst 1, 1) := by decide +kernel
theorem dX8_findBag_157 : decode cX8_findBag 157 = .ok (.ladd, 1) := by decide +kernel
theorem dX8_findBag_158 : decode cX8_findBag 158 = .ok (.invokevirtual 86, 3) := by decide +kernel
theorem wm_1360 : (Jvm.Cond.methodLink "GrownKinds$Sequences" (86 : Nat) ({ cls := "GrownKinds$Sequences", name := "bagsWithin", desc := "(IIIIJ)J" } : Jvm.MethodName)) ∈ gT := gT_in (List.mem_of_getElem? (i := 1360) (by decide +kernel)) (by decide +kernel)
theorem wm_1362 : (Jvm.Cond.instanceMethod ({ cls := "GrownKinds$Sequences", name := "bagsWithin", desc := "(IIIIJ)J" } : Jvm.MethodName)) ∈ gT := gT_in (List.mem_of_getElem? (i := 1362) (by decide +kernel)) (by decide +kernel)
theorem wm_63 : Cond.selects "GrownKinds$Sequences" ⟨"GrownKinds$Sequences", "bagsWithin", "(IIIIJ)J"⟩ ⟨"GrownKinds$Sequences", "bagsWithin", "(IIIIJ)J"⟩ ∈ gT := gT_in (List.mem_of_getElem? (i := 63) (by decide +kernel)) (by decide +kernel)
theorem wm_1363 : (Jvm.Cond.code ({ cls := "GrownKinds$Sequences", name := "bagsWithin", desc := "(IIIIJ)J" } : Jvm.MethodName) prog_10_method_4_code (15 : Nat) (Option.some Jvm.ClassFile.FieldType.long)) ∈ gT := gT_in (List.mem_of_getElem? (i := 1363) (by decide +kernel)) (by decide +kernel)
theorem dX8_findBag_161 : decode cX8_findBag 161 = .ok (.lload 6, 2) := by decide +kernel
theorem dX8_findBag_163 : decode cX8_findBag 163 = .ok (.lcmp, 1) := by decide +kernel
theorem dX8_findBag_164 : decode cX8_findBag 164 = .ok (.ifCond .le 10, 3) := by decide +kernel
theorem dX8_findBag_174 : decode cX8_findBag 174 = .ok (.lload 14, 2) := by decide +kernel
theorem dX8_findBag_176 : decode cX8_findBag 176 = .ok (.lconst 1, 1) := by decide +kernel
theorem dX8_findBag_177 : decode cX8_findBag 177 = .ok (.ladd, 1) := by decide +kernel
theorem dX8_findBag_178 : decode cX8_findBag 178 = .ok (.lstore 10, 2) := by decide +kernel
theorem dX8_findBag_180 : decode cX8_findBag 180 = .ok (.goto (-53), 3) := by decide +kernel
theorem dX8_findBag_167 : decode cX8_findBag 167 = .ok (.lload 14, 2) := by decide +kernel
theorem dX8_findBag_169 : decode cX8_findBag 169 = .ok (.lstore 12, 2) := by decide +kernel
theorem dX8_findBag_171 : decode cX8_findBag 171 = .ok (.goto 9, 3) := by decide +kernel
theorem dX8_findBag_183 : decode cX8_findBag 183 = .ok (.lload 6, 2) := by decide +kernel
theorem dX8_findBag_185 : decode cX8_findBag 185 = .ok (.aload_n 0, 1) := by decide +kernel
theorem dX8_findBag_186 : decode cX8_findBag 186 = .ok (.iload_n 1, 1) := by decide +kernel
theorem dX8_findBag_187 : decode cX8_findBag 187 = .ok (.iload 4, 2) := by decide +kernel
theorem dX8_findBag_189 : decode cX8_findBag 189 = .ok (.iload 5, 2) := by decide +kernel
theorem dX8_findBag_191 : decode cX8_findBag 191 = .ok (.iload 9, 2) := by decide +kernel
theorem dX8_findBag_193 : decode cX8_findBag 193 = .ok (.lload 10, 2) := by decide +kernel
theorem dX8_findBag_195 : decode cX8_findBag 195 = .ok (.invokevirtual 86, 3) := by decide +kernel
theorem dX8_findBag_198 : decode cX8_findBag 198 = .ok (.lsub, 1) := by decide +kernel
theorem dX8_findBag_199 : decode cX8_findBag 199 = .ok (.lstore 6, 2) := by decide +kernel
theorem dX8_findBag_201 : decode cX8_findBag 201 = .ok (.aload_n 0, 1) := by decide +kernel
theorem dX8_findBag_202 : decode cX8_findBag 202 = .ok (.iload 9, 2) := by decide +kernel
theorem dX8_findBag_204 : decode cX8_findBag 204 = .ok (.lload 10, 2) := by decide +kernel
theorem dX8_findBag_206 : decode cX8_findBag 206 = .ok (.invokevirtual 57, 3) := by decide +kernel
theorem dX8_findBag_209 : decode cX8_findBag 209 = .ok (.iload 5, 2) := by decide +kernel
theorem dX8_findBag_211 : decode cX8_findBag 211 = .ok (.iload 9, 2) := by decide +kernel
theorem dX8_findBag_213 : decode cX8_findBag 213 = .ok (.isub, 1) := by decide +kernel
theorem dX8_findBag_214 : decode cX8_findBag 214 = .ok (.istore 5, 2) := by decide +kernel
theorem dX8_findBag_216 : decode cX8_findBag 216 = .ok (.iconst 0, 1) := by decide +kernel
theorem dX8_findBag_217 : decode cX8_findBag 217 = .ok (.iload 4, 2) := by decide +kernel
theorem dX8_findBag_219 : decode cX8_findBag 219 = .ok (.iconst 1, 1) := by decide +kernel
theorem dX8_findBag_220 : decode cX8_findBag 220 = .ok (.isub, 1) := by decide +kernel
theorem dX8_findBag_221 : decode cX8_findBag 221 = .ok (.invokestatic 90, 3) := by decide +kernel
theorem wm_1366 : (Jvm.Cond.methodLink "GrownKinds$Sequences" (90 : Nat) ({ cls := "java/lang/Math", name := "max", desc := "(II)I" } : Jvm.MethodName)) ∈ gT := gT_in (List.mem_of_getElem? (i := 1366) (by decide +kernel)) (by decide +kernel)
theorem dX8_findBag_224 : decode cX8_findBag 224 = .ok (.istore 4, 2) := by decide +kernel
theorem dX8_findBag_226 : decode cX8_findBag 226 = .ok (.iinc 8 1, 3) := by decide +kernel
theorem dX8_findBag_229 : decode cX8_findBag 229 = .ok (.goto (-176), 3) := by decide +kernel
theorem dX8_findBag_232 : decode cX8_findBag 232 = .ok (.return_, 1) := by decide +kernel
theorem dX8_findBag_35 : decode cX8_findBag 35 = .ok (.aload_n 0, 1) := by decide +kernel
theorem dX8_findBag_36 : decode cX8_findBag 36 = .ok (.iload_n 2, 1) := by decide +kernel
theorem dX8_findBag_37 : decode cX8_findBag 37 = .ok (.iload_n 3, 1) := by decide +kernel
theorem dX8_findBag_38 : decode cX8_findBag 38 = .ok (.i2l, 1) := by decide +kernel
theorem dX8_findBag_39 : decode cX8_findBag 39 = .ok (.invokevirtual 57, 3) := by decide +kernel
theorem dX8_findBag_42 : decode cX8_findBag 42 = .ok (.return_, 1) := by decide +kernel
theorem dX8_isFirstTurn_0 : decode cX8_isFirstTurn 0 = .ok (.iconst 1, 1) := by decide +kernel
theorem dX8_isFirstTurn_1 : decode cX8_isFirstTurn 1 = .ok (.istore_n 1, 1) := by decide +kernel
theorem dX8_isFirstTurn_2 : decode cX8_isFirstTurn 2 = .ok (.iload_n 1, 1) := by decide +kernel
theorem dX8_isFirstTurn_3 : decode cX8_isFirstTurn 3 = .ok (.aload_n 0, 1) := by decide +kernel
theorem dX8_isFirstTurn_4 : decode cX8_isFirstTurn 4 = .ok (.getfield 9, 3) := by decide +kernel
theorem dX8_isFirstTurn_7 : decode cX8_isFirstTurn 7 = .ok (.if_icmp .ge 19, 3) := by decide +kernel
theorem dX8_isFirstTurn_10 : decode cX8_isFirstTurn 10 = .ok (.aload_n 0, 1) := by decide +kernel
theorem dX8_isFirstTurn_11 : decode cX8_isFirstTurn 11 = .ok (.iload_n 1, 1) := by decide +kernel
theorem dX8_isFirstTurn_12 : decode cX8_isFirstTurn 12 = .ok (.invokevirtual 116, 3) := by decide +kernel
theorem wm_1401 : (Jvm.Cond.methodLink "GrownKinds$Sequences" (116 : Nat) ({ cls := "GrownKinds$Sequences", name := "compareTurn", desc := "(I)I" } : Jvm.MethodName)) ∈ gT := gT_in (List.mem_of_getElem? (i := 1401) (by decide +kernel)) (by decide +kernel)
theorem wm_1403 : (Jvm.Cond.instanceMethod ({ cls := "GrownKinds$Sequences", name := "compareTurn", desc := "(I)I" } : Jvm.MethodName)) ∈ gT := gT_in (List.mem_of_getElem? (i := 1403) (by decide +kernel)) (by decide +kernel)
theorem wm_66 : Cond.selects "GrownKinds$Sequences" ⟨"GrownKinds$Sequences", "compareTurn", "(I)I"⟩ ⟨"GrownKinds$Sequences", "compareTurn", "(I)I"⟩ ∈ gT := gT_in (List.mem_of_getElem? (i := 66) (by decide +kernel)) (by decide +kernel)
theorem wm_1404 : (Jvm.Cond.code ({ cls := "GrownKinds$Sequences", name := "compareTurn", desc := "(I)I" } : Jvm.MethodName) prog_10_method_10_code (4 : Nat) (Option.some Jvm.ClassFile.FieldType.int)) ∈ gT := gT_in (List.mem_of_getElem? (i := 1404) (by decide +kernel)) (by decide +kernel)
theorem dX8_compareTurn_0 : decode cX8_compareTurn 0 = .ok (.iconst 0, 1) := by decide +kernel
theorem dX8_compareTurn_1 : decode cX8_compareTurn 1 = .ok (.istore_n 2, 1) := by decide +kernel
theorem dX8_compareTurn_2 : decode cX8_compareTurn 2 = .ok (.iload_n 2, 1) := by decide +kernel
theorem dX8_compareTurn_3 : decode cX8_compareTurn 3 = .ok (.aload_n 0, 1) := by decide +kernel
theorem dX8_compareTurn_4 : decode cX8_compareTurn 4 = .ok (.getfield 9, 3) := by decide +kernel
theorem dX8_compareTurn_7 : decode cX8_compareTurn 7 = .ok (.if_icmp .ge 42, 3) := by decide +kernel
theorem dX8_compareTurn_10 : decode cX8_compareTurn 10 = .ok (.aload_n 0, 1) := by decide +kernel
theorem dX8_compareTurn_11 : decode cX8_compareTurn 11 = .ok (.getfield 15, 3) := by decide +kernel
theorem dX8_compareTurn_14 : decode cX8_compareTurn 14 = .ok (.iload_n 1, 1) := by decide +kernel
theorem dX8_compareTurn_15 : decode cX8_compareTurn 15 = .ok (.iload_n 2, 1) := by decide +kernel
theorem dX8_compareTurn_16 : decode cX8_compareTurn 16 = .ok (.iadd, 1) := by decide +kernel
theorem dX8_compareTurn_17 : decode cX8_compareTurn 17 = .ok (.aload_n 0, 1) := by decide +kernel
theorem dX8_compareTurn_18 : decode cX8_compareTurn 18 = .ok (.getfield 9, 3) := by decide +kernel
theorem dX8_compareTurn_21 : decode cX8_compareTurn 21 = .ok (.irem, 1) := by decide +kernel
theorem dX8_compareTurn_22 : decode cX8_compareTurn 22 = .ok (.iaload, 1) := by decide +kernel
theorem dX8_compareTurn_23 : decode cX8_compareTurn 23 = .ok (.istore_n 3, 1) := by decide +kernel
theorem dX8_compareTurn_24 : decode cX8_compareTurn 24 = .ok (.iload_n 3, 1) := by decide +kernel
theorem dX8_compareTurn_25 : decode cX8_compareTurn 25 = .ok (.aload_n 0, 1) := by decide +kernel
theorem dX8_compareTurn_26 : decode cX8_compareTurn 26 = .ok (.getfield 15, 3) := by decide +kernel
theorem dX8_compareTurn_29 : decode cX8_compareTurn 29 = .ok (.iload_n 2, 1) := by decide +kernel
theorem dX8_compareTurn_30 : decode cX8_compareTurn 30 = .ok (.iaload, 1) := by decide +kernel
theorem dX8_compareTurn_31 : decode cX8_compareTurn 31 = .ok (.if_icmp .eq 12, 3) := by decide +kernel
theorem dX8_compareTurn_43 : decode cX8_compareTurn 43 = .ok (.iinc 2 1, 3) := by decide +kernel
theorem dX8_compareTurn_46 : decode cX8_compareTurn 46 = .ok (.goto (-44), 3) := by decide +kernel
theorem dX8_compareTurn_34 : decode cX8_compareTurn 34 = .ok (.iload_n 3, 1) := by decide +kernel
theorem dX8_compareTurn_35 : decode cX8_compareTurn 35 = .ok (.aload_n 0, 1) := by decide +kernel
theorem dX8_compareTurn_36 : decode cX8_compareTurn 36 = .ok (.getfield 15, 3) := by decide +kernel
theorem dX8_compareTurn_39 : decode cX8_compareTurn 39 = .ok (.iload_n 2, 1) := by decide +kernel
theorem dX8_compareTurn_40 : decode cX8_compareTurn 40 = .ok (.iaload, 1) := by decide +kernel
theorem dX8_compareTurn_41 : decode cX8_compareTurn 41 = .ok (.isub, 1) := by decide +kernel
theorem dX8_compareTurn_42 : decode cX8_compareTurn 42 = .ok (.ireturn, 1) := by decide +kernel
theorem dX8_compareTurn_49 : decode cX8_compareTurn 49 = .ok (.iconst 0, 1) := by decide +kernel
theorem dX8_compareTurn_50 : decode cX8_compareTurn 50 = .ok (.ireturn, 1) := by decide +kernel
theorem dX8_isFirstTurn_15 : decode cX8_isFirstTurn 15 = .ok (.ifCond .ge 5, 3) := by decide +kernel
theorem dX8_isFirstTurn_20 : decode cX8_isFirstTurn 20 = .ok (.iinc 1 1, 3) := by decide +kernel
theorem dX8_isFirstTurn_23 : decode cX8_isFirstTurn 23 = .ok (.goto (-21), 3) := by decide +kernel
theorem dX8_isFirstTurn_18 : decode cX8_isFirstTurn 18 = .ok (.iconst 0, 1) := by decide +kernel
theorem dX8_isFirstTurn_19 : decode cX8_isFirstTurn 19 = .ok (.ireturn, 1) := by decide +kernel
theorem dX8_isFirstTurn_26 : decode cX8_isFirstTurn 26 = .ok (.iconst 1, 1) := by decide +kernel
theorem dX8_isFirstTurn_27 : decode cX8_isFirstTurn 27 = .ok (.ireturn, 1) := by decide +kernel
theorem dX8_turnsAlike_0 : decode cX8_turnsAlike 0 = .ok (.iconst 1, 1) := by decide +kernel
theorem dX8_turnsAlike_1 : decode cX8_turnsAlike 1 = .ok (.istore_n 1, 1) := by decide +kernel
theorem dX8_turnsAlike_2 : decode cX8_turnsAlike 2 = .ok (.iconst 1, 1) := by decide +kernel
theorem dX8_turnsAlike_3 : decode cX8_turnsAlike 3 = .ok (.istore_n 2, 1) := by decide +kernel
theorem dX8_turnsAlike_4 : decode cX8_turnsAlike 4 = .ok (.iload_n 2, 1) := by decide +kernel
theorem dX8_turnsAlike_5 : decode cX8_turnsAlike 5 = .ok (.aload_n 0, 1) := by decide +kernel
theorem dX8_turnsAlike_6 : decode cX8_turnsAlike 6 = .ok (.getfield 9, 3) := by decide +kernel
theorem dX8_turnsAlike_9 : decode cX8_turnsAlike 9 = .ok (.if_icmp .ge 20, 3) := by decide +kernel
theorem dX8_turnsAlike_12 : decode cX8_turnsAlike 12 = .ok (.aload_n 0, 1) := by decide +kernel
theorem dX8_turnsAlike_13 : decode cX8_turnsAlike 13 = .ok (.iload_n 2, 1) := by decide +kernel
theorem dX8_turnsAlike_14 : decode cX8_turnsAlike 14 = .ok (.invokevirtual 116, 3) := by decide +kernel
theorem dX8_turnsAlike_17 : decode cX8_turnsAlike 17 = .ok (.ifCond .ne 6, 3) := by decide +kernel
theorem dX8_turnsAlike_23 : decode cX8_turnsAlike 23 = .ok (.iinc 2 1, 3) := by decide +kernel
theorem dX8_turnsAlike_26 : decode cX8_turnsAlike 26 = .ok (.goto (-22), 3) := by decide +kernel
theorem dX8_turnsAlike_20 : decode cX8_turnsAlike 20 = .ok (.iinc 1 1, 3) := by decide +kernel
theorem dX8_turnsAlike_29 : decode cX8_turnsAlike 29 = .ok (.iload_n 1, 1) := by decide +kernel
theorem dX8_turnsAlike_30 : decode cX8_turnsAlike 30 = .ok (.ireturn, 1) := by decide +kernel
theorem dX8_changesAlike_0 : decode cX8_changesAlike 0 = .ok (.iconst 1, 1) := by decide +kernel
theorem dX8_changesAlike_1 : decode cX8_changesAlike 1 = .ok (.istore_n 1, 1) := by decide +kernel
theorem dX8_changesAlike_2 : decode cX8_changesAlike 2 = .ok (.iconst 1, 1) := by decide +kernel
theorem dX8_changesAlike_3 : decode cX8_changesAlike 3 = .ok (.istore_n 2, 1) := by decide +kernel
theorem dX8_changesAlike_4 : decode cX8_changesAlike 4 = .ok (.iconst 1, 1) := by decide +kernel
theorem dX8_changesAlike_5 : decode cX8_changesAlike 5 = .ok (.istore_n 3, 1) := by decide +kernel
theorem dX8_changesAlike_6 : decode cX8_changesAlike 6 = .ok (.iload_n 3, 1) := by decide +kernel
theorem dX8_changesAlike_7 : decode cX8_changesAlike 7 = .ok (.aload_n 0, 1) := by decide +kernel
theorem dX8_changesAlike_8 : decode cX8_changesAlike 8 = .ok (.getfield 9, 3) := by decide +kernel
theorem dX8_changesAlike_11 : decode cX8_changesAlike 11 = .ok (.if_icmp .ge 38, 3) := by decide +kernel
theorem dX8_changesAlike_14 : decode cX8_changesAlike 14 = .ok (.aload_n 0, 1) := by decide +kernel
theorem dX8_changesAlike_15 : decode cX8_changesAlike 15 = .ok (.getfield 15, 3) := by decide +kernel
theorem dX8_changesAlike_18 : decode cX8_changesAlike 18 = .ok (.iload_n 3, 1) := by decide +kernel
theorem dX8_changesAlike_19 : decode cX8_changesAlike 19 = .ok (.iaload, 1) := by decide +kernel
theorem dX8_changesAlike_20 : decode cX8_changesAlike 20 = .ok (.aload_n 0, 1) := by decide +kernel
theorem dX8_changesAlike_21 : decode cX8_changesAlike 21 = .ok (.getfield 15, 3) := by decide +kernel
theorem dX8_changesAlike_24 : decode cX8_changesAlike 24 = .ok (.iload_n 3, 1) := by decide +kernel
theorem dX8_changesAlike_25 : decode cX8_changesAlike 25 = .ok (.iconst 1, 1) := by decide +kernel
theorem dX8_changesAlike_26 : decode cX8_changesAlike 26 = .ok (.isub, 1) := by decide +kernel
theorem dX8_changesAlike_27 : decode cX8_changesAlike 27 = .ok (.iaload, 1) := by decide +kernel
theorem dX8_changesAlike_28 : decode cX8_changesAlike 28 = .ok (.if_icmp .ne 9, 3) := by decide +kernel
theorem dX8_changesAlike_37 : decode cX8_changesAlike 37 = .ok (.iconst 1, 1) := by decide +kernel
theorem dX8_changesAlike_31 : decode cX8_changesAlike 31 = .ok (.iload_n 2, 1) := by decide +kernel
theorem dX8_changesAlike_32 : decode cX8_changesAlike 32 = .ok (.iconst 1, 1) := by decide +kernel
theorem dX8_changesAlike_33 : decode cX8_changesAlike 33 = .ok (.iadd, 1) := by decide +kernel
theorem dX8_changesAlike_34 : decode cX8_changesAlike 34 = .ok (.goto 4, 3) := by decide +kernel
theorem dX8_changesAlike_38 : decode cX8_changesAlike 38 = .ok (.istore_n 2, 1) := by decide +kernel
theorem dX8_changesAlike_39 : decode cX8_changesAlike 39 = .ok (.iload_n 1, 1) := by decide +kernel
theorem dX8_changesAlike_40 : decode cX8_changesAlike 40 = .ok (.iload_n 2, 1) := by decide +kernel
theorem dX8_changesAlike_41 : decode cX8_changesAlike 41 = .ok (.imul, 1) := by decide +kernel
theorem dX8_changesAlike_42 : decode cX8_changesAlike 42 = .ok (.istore_n 1, 1) := by decide +kernel
theorem dX8_changesAlike_43 : decode cX8_changesAlike 43 = .ok (.iinc 3 1, 3) := by decide +kernel
theorem dX8_changesAlike_46 : decode cX8_changesAlike 46 = .ok (.goto (-40), 3) := by decide +kernel
theorem dX8_changesAlike_49 : decode cX8_changesAlike 49 = .ok (.iload_n 1, 1) := by decide +kernel
theorem dX8_changesAlike_50 : decode cX8_changesAlike 50 = .ok (.ireturn, 1) := by decide +kernel
theorem dX10_read_0 : decode cX10_read 0 = .ok (.iload_n 3, 1) := by decide +kernel
theorem dX10_read_1 : decode cX10_read 1 = .ok (.iconst 1, 1) := by decide +kernel
theorem dX10_read_2 : decode cX10_read 2 = .ok (.if_icmp .lt 15, 3) := by decide +kernel
theorem dX10_read_17 : decode cX10_read 17 = .ok (.iconst (-1), 1) := by decide +kernel
theorem dX10_read_18 : decode cX10_read 18 = .ok (.ireturn, 1) := by decide +kernel
theorem dX10_read_5 : decode cX10_read 5 = .ok (.iload_n 3, 1) := by decide +kernel
theorem dX10_read_6 : decode cX10_read 6 = .ok (.bipush 40, 2) := by decide +kernel
theorem dX10_read_8 : decode cX10_read 8 = .ok (.if_icmp .gt 9, 3) := by decide +kernel
theorem dX10_read_11 : decode cX10_read 11 = .ok (.iload_n 3, 1) := by decide +kernel
theorem dX10_read_12 : decode cX10_read 12 = .ok (.aload_n 2, 1) := by decide +kernel
theorem dX10_read_13 : decode cX10_read 13 = .ok (.arraylength, 1) := by decide +kernel
theorem dX10_read_14 : decode cX10_read 14 = .ok (.if_icmp .le 5, 3) := by decide +kernel
theorem dX10_read_19 : decode cX10_read 19 = .ok (.aload_n 2, 1) := by decide +kernel
theorem dX10_read_20 : decode cX10_read 20 = .ok (.iconst 0, 1) := by decide +kernel
theorem dX10_read_21 : decode cX10_read 21 = .ok (.aload_n 0, 1) := by decide +kernel
theorem dX10_read_22 : decode cX10_read 22 = .ok (.getfield 9, 3) := by decide +kernel
theorem dX10_read_25 : decode cX10_read 25 = .ok (.iconst 0, 1) := by decide +kernel
theorem dX10_read_26 : decode cX10_read 26 = .ok (.iload_n 3, 1) := by decide +kernel
theorem dX10_read_27 : decode cX10_read 27 = .ok (.invokestatic 55, 3) := by decide +kernel
theorem wm_1458 : (Jvm.Cond.methodLink "GrownKinds$ThingReader" (55 : Nat) ({ cls := "java/lang/System", name := "arraycopy", desc := "(Ljava/lang/Object;ILjava/lang/Object;II)V" } : Jvm.MethodName)) ∈ gT := gT_in (List.mem_of_getElem? (i := 1458) (by decide +kernel)) (by decide +kernel)
theorem dX10_read_30 : decode cX10_read 30 = .ok (.aload_n 0, 1) := by decide +kernel
theorem dX10_read_31 : decode cX10_read 31 = .ok (.iload_n 3, 1) := by decide +kernel
theorem dX10_read_32 : decode cX10_read 32 = .ok (.putfield 18, 3) := by decide +kernel
theorem dX10_read_35 : decode cX10_read 35 = .ok (.aload_n 0, 1) := by decide +kernel
theorem dX10_read_36 : decode cX10_read 36 = .ok (.iconst 0, 1) := by decide +kernel
theorem dX10_read_37 : decode cX10_read 37 = .ok (.putfield 22, 3) := by decide +kernel
theorem dX10_read_40 : decode cX10_read 40 = .ok (.aload_n 0, 1) := by decide +kernel
theorem dX10_read_41 : decode cX10_read 41 = .ok (.iconst 0, 1) := by decide +kernel
theorem dX10_read_42 : decode cX10_read 42 = .ok (.putfield 25, 3) := by decide +kernel
theorem dX10_read_45 : decode cX10_read 45 = .ok (.aload_n 0, 1) := by decide +kernel
theorem dX10_read_46 : decode cX10_read 46 = .ok (.iconst 1, 1) := by decide +kernel
theorem dX10_read_47 : decode cX10_read 47 = .ok (.putfield 28, 3) := by decide +kernel
theorem dX10_read_50 : decode cX10_read 50 = .ok (.aload_n 0, 1) := by decide +kernel
theorem dX10_read_51 : decode cX10_read 51 = .ok (.iconst 0, 1) := by decide +kernel
theorem dX10_read_52 : decode cX10_read 52 = .ok (.putfield 36, 3) := by decide +kernel
theorem dX10_read_55 : decode cX10_read 55 = .ok (.aload_n 0, 1) := by decide +kernel
theorem dX10_read_56 : decode cX10_read 56 = .ok (.iconst 0, 1) := by decide +kernel
theorem dX10_read_57 : decode cX10_read 57 = .ok (.putfield 42, 3) := by decide +kernel
theorem dX10_read_60 : decode cX10_read 60 = .ok (.aload_n 0, 1) := by decide +kernel
theorem dX10_read_61 : decode cX10_read 61 = .ok (.iconst 0, 1) := by decide +kernel
theorem dX10_read_62 : decode cX10_read 62 = .ok (.putfield 48, 3) := by decide +kernel
theorem dX10_read_65 : decode cX10_read 65 = .ok (.aload_n 0, 1) := by decide +kernel
theorem dX10_read_66 : decode cX10_read 66 = .ok (.iload_n 1, 1) := by decide +kernel
theorem dX10_read_67 : decode cX10_read 67 = .ok (.invokevirtual 61, 3) := by decide +kernel
theorem wm_1459 : (Jvm.Cond.methodLink "GrownKinds$ThingReader" (61 : Nat) ({ cls := "GrownKinds$ThingReader", name := "readExpr", desc := "(I)V" } : Jvm.MethodName)) ∈ gT := gT_in (List.mem_of_getElem? (i := 1459) (by decide +kernel)) (by decide +kernel)
theorem wm_1461 : (Jvm.Cond.instanceMethod ({ cls := "GrownKinds$ThingReader", name := "readExpr", desc := "(I)V" } : Jvm.MethodName)) ∈ gT := gT_in (List.mem_of_getElem? (i := 1461) (by decide +kernel)) (by decide +kernel)
theorem wm_69 : Cond.selects "GrownKinds$ThingReader" ⟨"GrownKinds$ThingReader", "readExpr", "(I)V"⟩ ⟨"GrownKinds$ThingReader", "readExpr", "(I)V"⟩ ∈ gT := gT_in (List.mem_of_getElem? (i := 69) (by decide +kernel)) (by decide +kernel)
theorem wm_1462 : (Jvm.Cond.code ({ cls := "GrownKinds$ThingReader", name := "readExpr", desc := "(I)V" } : Jvm.MethodName) prog_12_method_7_code (6 : Nat) (Option.none : Option Jvm.ClassFile.FieldType)) ∈ gT := gT_in (List.mem_of_getElem? (i := 1462) (by decide +kernel)) (by decide +kernel)
theorem dX10_readExpr_0 : decode cX10_readExpr 0 = .ok (.iconst 0, 1) := by decide +kernel
theorem dX10_readExpr_1 : decode cX10_readExpr 1 = .ok (.istore_n 2, 1) := by decide +kernel
theorem dX10_readExpr_2 : decode cX10_readExpr 2 = .ok (.aload_n 0, 1) := by decide +kernel
theorem dX10_readExpr_3 : decode cX10_readExpr 3 = .ok (.getfield 51, 3) := by decide +kernel
theorem dX10_readExpr_6 : decode cX10_readExpr 6 = .ok (.getfield 76, 3) := by decide +kernel
theorem wm_263 : (Jvm.Cond.fieldLink "GrownKinds$ThingReader" (76 : Nat) "GrownKinds$Grammar" "termCount" "[I") ∈ gT := gT_in (List.mem_of_getElem? (i := 263) (by decide +kernel)) (by decide +kernel)
theorem dX10_readExpr_9 : decode cX10_readExpr 9 = .ok (.iload_n 1, 1) := by decide +kernel
theorem dX10_readExpr_10 : decode cX10_readExpr 10 = .ok (.iaload, 1) := by decide +kernel
theorem dX10_readExpr_11 : decode cX10_readExpr 11 = .ok (.iconst 1, 1) := by decide +kernel
theorem dX10_readExpr_12 : decode cX10_readExpr 12 = .ok (.if_icmp .le 21, 3) := by decide +kernel
theorem dX10_readExpr_15 : decode cX10_readExpr 15 = .ok (.aload_n 0, 1) := by decide +kernel
theorem dX10_readExpr_16 : decode cX10_readExpr 16 = .ok (.invokevirtual 72, 3) := by decide +kernel
theorem wm_1463 : (Jvm.Cond.methodLink "GrownKinds$ThingReader" (72 : Nat) ({ cls := "GrownKinds$ThingReader", name := "peek", desc := "()I" } : Jvm.MethodName)) ∈ gT := gT_in (List.mem_of_getElem? (i := 1463) (by decide +kernel)) (by decide +kernel)
theorem wm_1465 : (Jvm.Cond.instanceMethod ({ cls := "GrownKinds$ThingReader", name := "peek", desc := "()I" } : Jvm.MethodName)) ∈ gT := gT_in (List.mem_of_getElem? (i := 1465) (by decide +kernel)) (by decide +kernel)
theorem wm_70 : Cond.selects "GrownKinds$ThingReader" ⟨"GrownKinds$ThingReader", "peek", "()I"⟩ ⟨"GrownKinds$ThingReader", "peek", "()I"⟩ ∈ gT := gT_in (List.mem_of_getElem? (i := 70) (by decide +kernel)) (by decide +kernel)
theorem wm_1466 : (Jvm.Cond.code ({ cls := "GrownKinds$ThingReader", name := "peek", desc := "()I" } : Jvm.MethodName) prog_12_method_4_code (1 : Nat) (Option.some Jvm.ClassFile.FieldType.int)) ∈ gT := gT_in (List.mem_of_getElem? (i := 1466) (by decide +kernel)) (by decide +kernel)
theorem dX10_peek_0 : decode cX10_peek 0 = .ok (.aload_n 0, 1) := by decide +kernel
theorem dX10_peek_1 : decode cX10_peek 1 = .ok (.getfield 22, 3) := by decide +kernel
theorem dX10_peek_4 : decode cX10_peek 4 = .ok (.aload_n 0, 1) := by decide +kernel
theorem dX10_peek_5 : decode cX10_peek 5 = .ok (.getfield 18, 3) := by decide +kernel
theorem dX10_peek_8 : decode cX10_peek 8 = .ok (.if_icmp .ge 15, 3) := by decide +kernel
theorem dX10_peek_23 : decode cX10_peek 23 = .ok (.iconst 0, 1) := by decide +kernel
theorem dX10_peek_24 : decode cX10_peek 24 = .ok (.ireturn, 1) := by decide +kernel
theorem dX10_peek_11 : decode cX10_peek 11 = .ok (.aload_n 0, 1) := by decide +kernel
theorem dX10_peek_12 : decode cX10_peek 12 = .ok (.getfield 9, 3) := by decide +kernel
theorem dX10_peek_15 : decode cX10_peek 15 = .ok (.aload_n 0, 1) := by decide +kernel
theorem dX10_peek_16 : decode cX10_peek 16 = .ok (.getfield 22, 3) := by decide +kernel
theorem dX10_peek_19 : decode cX10_peek 19 = .ok (.baload, 1) := by decide +kernel
theorem dX10_peek_20 : decode cX10_peek 20 = .ok (.goto 4, 3) := by decide +kernel
theorem dX10_readExpr_19 : decode cX10_readExpr 19 = .ok (.bipush 48, 2) := by decide +kernel
theorem dX10_readExpr_21 : decode cX10_readExpr 21 = .ok (.isub, 1) := by decide +kernel
theorem dX10_readExpr_22 : decode cX10_readExpr 22 = .ok (.istore_n 2, 1) := by decide +kernel
theorem dX10_readExpr_23 : decode cX10_readExpr 23 = .ok (.aload_n 0, 1) := by decide +kernel
theorem dX10_readExpr_24 : decode cX10_readExpr 24 = .ok (.dup, 1) := by decide +kernel
theorem dX10_readExpr_25 : decode cX10_readExpr 25 = .ok (.getfield 22, 3) := by decide +kernel
theorem dX10_readExpr_28 : decode cX10_readExpr 28 = .ok (.iconst 1, 1) := by decide +kernel
theorem dX10_readExpr_29 : decode cX10_readExpr 29 = .ok (.iadd, 1) := by decide +kernel
theorem dX10_readExpr_30 : decode cX10_readExpr 30 = .ok (.putfield 22, 3) := by decide +kernel
theorem dX10_readExpr_33 : decode cX10_readExpr 33 = .ok (.iload_n 2, 1) := by decide +kernel
theorem dX10_readExpr_34 : decode cX10_readExpr 34 = .ok (.ifCond .lt 28, 3) := by decide +kernel
theorem dX10_readExpr_62 : decode cX10_readExpr 62 = .ok (.aload_n 0, 1) := by decide +kernel
theorem dX10_readExpr_63 : decode cX10_readExpr 63 = .ok (.iconst 0, 1) := by decide +kernel
theorem dX10_readExpr_64 : decode cX10_readExpr 64 = .ok (.putfield 28, 3) := by decide +kernel
theorem dX10_readExpr_67 : decode cX10_readExpr 67 = .ok (.return_, 1) := by decide +kernel
theorem dX10_readExpr_37 : decode cX10_readExpr 37 = .ok (.iload_n 2, 1) := by decide +kernel
theorem dX10_readExpr_38 : decode cX10_readExpr 38 = .ok (.aload_n 0, 1) := by decide +kernel
theorem dX10_readExpr_39 : decode cX10_readExpr 39 = .ok (.getfield 51, 3) := by decide +kernel
theorem dX10_readExpr_42 : decode cX10_readExpr 42 = .ok (.getfield 76, 3) := by decide +kernel
theorem dX10_readExpr_45 : decode cX10_readExpr 45 = .ok (.iload_n 1, 1) := by decide +kernel
theorem dX10_readExpr_46 : decode cX10_readExpr 46 = .ok (.iaload, 1) := by decide +kernel
theorem dX10_readExpr_47 : decode cX10_readExpr 47 = .ok (.if_icmp .ge 15, 3) := by decide +kernel
theorem dX10_readExpr_50 : decode cX10_readExpr 50 = .ok (.aload_n 0, 1) := by decide +kernel
theorem dX10_readExpr_51 : decode cX10_readExpr 51 = .ok (.getfield 51, 3) := by decide +kernel
theorem dX10_readExpr_54 : decode cX10_readExpr 54 = .ok (.iload_n 1, 1) := by decide +kernel
theorem dX10_readExpr_55 : decode cX10_readExpr 55 = .ok (.iload_n 2, 1) := by decide +kernel
theorem dX10_readExpr_56 : decode cX10_readExpr 56 = .ok (.invokevirtual 81, 3) := by decide +kernel
theorem wm_1467 : (Jvm.Cond.methodLink "GrownKinds$ThingReader" (81 : Nat) ({ cls := "GrownKinds$Grammar", name := "isOff", desc := "(II)Z" } : Jvm.MethodName)) ∈ gT := gT_in (List.mem_of_getElem? (i := 1467) (by decide +kernel)) (by decide +kernel)
theorem dX10_readExpr_59 : decode cX10_readExpr 59 = .ok (.ifCond .eq 9, 3) := by decide +kernel
theorem dX10_readExpr_68 : decode cX10_readExpr 68 = .ok (.iconst 0, 1) := by decide +kernel
theorem dX10_readExpr_69 : decode cX10_readExpr 69 = .ok (.istore_n 3, 1) := by decide +kernel
theorem dX10_readExpr_70 : decode cX10_readExpr 70 = .ok (.aload_n 0, 1) := by decide +kernel
theorem dX10_readExpr_71 : decode cX10_readExpr 71 = .ok (.getfield 51, 3) := by decide +kernel
theorem dX10_readExpr_74 : decode cX10_readExpr 74 = .ok (.iload_n 1, 1) := by decide +kernel
theorem dX10_readExpr_75 : decode cX10_readExpr 75 = .ok (.iload_n 2, 1) := by decide +kernel
theorem dX10_readExpr_76 : decode cX10_readExpr 76 = .ok (.invokevirtual 85, 3) := by decide +kernel
theorem wm_1468 : (Jvm.Cond.methodLink "GrownKinds$ThingReader" (85 : Nat) ({ cls := "GrownKinds$Grammar", name := "start", desc := "(II)I" } : Jvm.MethodName)) ∈ gT := gT_in (List.mem_of_getElem? (i := 1468) (by decide +kernel)) (by decide +kernel)
theorem dX10_readExpr_79 : decode cX10_readExpr 79 = .ok (.istore 4, 2) := by decide +kernel
theorem dX10_readExpr_81 : decode cX10_readExpr 81 = .ok (.iload 4, 2) := by decide +kernel
theorem dX10_readExpr_83 : decode cX10_readExpr 83 = .ok (.iconst (-1), 1) := by decide +kernel
theorem dX10_readExpr_84 : decode cX10_readExpr 84 = .ok (.if_icmp .eq 27, 3) := by decide +kernel
theorem dX10_readExpr_87 : decode cX10_readExpr 87 = .ok (.iload_n 3, 1) := by decide +kernel
theorem dX10_readExpr_88 : decode cX10_readExpr 88 = .ok (.bipush 24, 2) := by decide +kernel
theorem dX10_readExpr_90 : decode cX10_readExpr 90 = .ok (.if_icmp .ge 21, 3) := by decide +kernel
theorem dX10_readExpr_93 : decode cX10_readExpr 93 = .ok (.iinc 3 1, 3) := by decide +kernel
theorem dX10_readExpr_96 : decode cX10_readExpr 96 = .ok (.aload_n 0, 1) := by decide +kernel
theorem dX10_readExpr_97 : decode cX10_readExpr 97 = .ok (.getfield 51, 3) := by decide +kernel
theorem dX10_readExpr_100 : decode cX10_readExpr 100 = .ok (.getfield 89, 3) := by decide +kernel
theorem wm_255 : (Jvm.Cond.fieldLink "GrownKinds$ThingReader" (89 : Nat) "GrownKinds$Grammar" "next" "[I") ∈ gT := gT_in (List.mem_of_getElem? (i := 255) (by decide +kernel)) (by decide +kernel)
theorem dX10_readExpr_103 : decode cX10_readExpr 103 = .ok (.iload 4, 2) := by decide +kernel
theorem dX10_readExpr_105 : decode cX10_readExpr 105 = .ok (.iaload, 1) := by decide +kernel
theorem dX10_readExpr_106 : decode cX10_readExpr 106 = .ok (.istore 4, 2) := by decide +kernel
theorem dX10_readExpr_108 : decode cX10_readExpr 108 = .ok (.goto (-27), 3) := by decide +kernel
theorem dX10_readExpr_111 : decode cX10_readExpr 111 = .ok (.aload_n 0, 1) := by decide +kernel
theorem dX10_readExpr_112 : decode cX10_readExpr 112 = .ok (.iload_n 3, 1) := by decide +kernel
theorem dX10_readExpr_113 : decode cX10_readExpr 113 = .ok (.invokevirtual 92, 3) := by decide +kernel
theorem wm_1469 : (Jvm.Cond.methodLink "GrownKinds$ThingReader" (92 : Nat) ({ cls := "GrownKinds$ThingReader", name := "mayAwait", desc := "(I)Z" } : Jvm.MethodName)) ∈ gT := gT_in (List.mem_of_getElem? (i := 1469) (by decide +kernel)) (by decide +kernel)
theorem wm_1471 : (Jvm.Cond.instanceMethod ({ cls := "GrownKinds$ThingReader", name := "mayAwait", desc := "(I)Z" } : Jvm.MethodName)) ∈ gT := gT_in (List.mem_of_getElem? (i := 1471) (by decide +kernel)) (by decide +kernel)
theorem wm_71 : Cond.selects "GrownKinds$ThingReader" ⟨"GrownKinds$ThingReader", "mayAwait", "(I)Z"⟩ ⟨"GrownKinds$ThingReader", "mayAwait", "(I)Z"⟩ ∈ gT := gT_in (List.mem_of_getElem? (i := 71) (by decide +kernel)) (by decide +kernel)
theorem wm_1472 : (Jvm.Cond.code ({ cls := "GrownKinds$ThingReader", name := "mayAwait", desc := "(I)Z" } : Jvm.MethodName) prog_12_method_6_code (2 : Nat) (Option.some Jvm.ClassFile.FieldType.boolean)) ∈ gT := gT_in (List.mem_of_getElem? (i := 1472) (by decide +kernel)) (by decide +kernel)
theorem dX10_mayAwait_0 : decode cX10_mayAwait 0 = .ok (.aload_n 0, 1) := by decide +kernel
theorem dX10_mayAwait_1 : decode cX10_mayAwait 1 = .ok (.getfield 36, 3) := by decide +kernel
theorem dX10_mayAwait_4 : decode cX10_mayAwait 4 = .ok (.iload_n 1, 1) := by decide +kernel
theorem dX10_mayAwait_5 : decode cX10_mayAwait 5 = .ok (.iadd, 1) := by decide +kernel
theorem dX10_mayAwait_6 : decode cX10_mayAwait 6 = .ok (.aload_n 0, 1) := by decide +kernel
theorem dX10_mayAwait_7 : decode cX10_mayAwait 7 = .ok (.getfield 18, 3) := by decide +kernel
theorem dX10_mayAwait_10 : decode cX10_mayAwait 10 = .ok (.aload_n 0, 1) := by decide +kernel
theorem dX10_mayAwait_11 : decode cX10_mayAwait 11 = .ok (.getfield 22, 3) := by decide +kernel
theorem dX10_mayAwait_14 : decode cX10_mayAwait 14 = .ok (.isub, 1) := by decide +kernel
theorem dX10_mayAwait_15 : decode cX10_mayAwait 15 = .ok (.if_icmp .le 8, 3) := by decide +kernel
theorem dX10_mayAwait_23 : decode cX10_mayAwait 23 = .ok (.aload_n 0, 1) := by decide +kernel
theorem dX10_mayAwait_24 : decode cX10_mayAwait 24 = .ok (.getfield 28, 3) := by decide +kernel
theorem dX10_mayAwait_27 : decode cX10_mayAwait 27 = .ok (.ireturn, 1) := by decide +kernel
theorem dX10_mayAwait_18 : decode cX10_mayAwait 18 = .ok (.aload_n 0, 1) := by decide +kernel
theorem dX10_mayAwait_19 : decode cX10_mayAwait 19 = .ok (.iconst 0, 1) := by decide +kernel
theorem dX10_mayAwait_20 : decode cX10_mayAwait 20 = .ok (.putfield 28, 3) := by decide +kernel
theorem dX10_readExpr_116 : decode cX10_readExpr 116 = .ok (.ifCond .ne 4, 3) := by decide +kernel
theorem dX10_readExpr_120 : decode cX10_readExpr 120 = .ok (.aload_n 0, 1) := by decide +kernel
theorem dX10_readExpr_121 : decode cX10_readExpr 121 = .ok (.getfield 51, 3) := by decide +kernel
theorem dX10_readExpr_124 : decode cX10_readExpr 124 = .ok (.iload_n 1, 1) := by decide +kernel
theorem dX10_readExpr_125 : decode cX10_readExpr 125 = .ok (.iload_n 2, 1) := by decide +kernel
theorem dX10_readExpr_126 : decode cX10_readExpr 126 = .ok (.invokevirtual 85, 3) := by decide +kernel
theorem dX10_readExpr_129 : decode cX10_readExpr 129 = .ok (.istore 4, 2) := by decide +kernel
theorem dX10_readExpr_131 : decode cX10_readExpr 131 = .ok (.iload_n 3, 1) := by decide +kernel
theorem dX10_readExpr_132 : decode cX10_readExpr 132 = .ok (.iconst 1, 1) := by decide +kernel
theorem dX10_readExpr_133 : decode cX10_readExpr 133 = .ok (.isub, 1) := by decide +kernel
theorem dX10_readExpr_134 : decode cX10_readExpr 134 = .ok (.istore 5, 2) := by decide +kernel
theorem dX10_readExpr_136 : decode cX10_readExpr 136 = .ok (.iload 5, 2) := by decide +kernel
theorem dX10_readExpr_138 : decode cX10_readExpr 138 = .ok (.ifCond .lt 41, 3) := by decide +kernel
theorem dX10_readExpr_141 : decode cX10_readExpr 141 = .ok (.iload 4, 2) := by decide +kernel
theorem dX10_readExpr_143 : decode cX10_readExpr 143 = .ok (.iconst (-1), 1) := by decide +kernel
theorem dX10_readExpr_144 : decode cX10_readExpr 144 = .ok (.if_icmp .eq 35, 3) := by decide +kernel
theorem dX10_readExpr_147 : decode cX10_readExpr 147 = .ok (.aload_n 0, 1) := by decide +kernel
theorem dX10_readExpr_148 : decode cX10_readExpr 148 = .ok (.getfield 32, 3) := by decide +kernel
theorem dX10_readExpr_151 : decode cX10_readExpr 151 = .ok (.aload_n 0, 1) := by decide +kernel
theorem dX10_readExpr_152 : decode cX10_readExpr 152 = .ok (.getfield 36, 3) := by decide +kernel
theorem dX10_readExpr_155 : decode cX10_readExpr 155 = .ok (.iload 5, 2) := by decide +kernel
theorem dX10_readExpr_157 : decode cX10_readExpr 157 = .ok (.iadd, 1) := by decide +kernel
theorem dX10_readExpr_158 : decode cX10_readExpr 158 = .ok (.iload 4, 2) := by decide +kernel
theorem dX10_readExpr_160 : decode cX10_readExpr 160 = .ok (.iastore, 1) := by decide +kernel
theorem dX10_readExpr_161 : decode cX10_readExpr 161 = .ok (.aload_n 0, 1) := by decide +kernel
theorem dX10_readExpr_162 : decode cX10_readExpr 162 = .ok (.getfield 51, 3) := by decide +kernel
theorem dX10_readExpr_165 : decode cX10_readExpr 165 = .ok (.getfield 89, 3) := by decide +kernel
theorem dX10_readExpr_168 : decode cX10_readExpr 168 = .ok (.iload 4, 2) := by decide +kernel
theorem dX10_readExpr_170 : decode cX10_readExpr 170 = .ok (.iaload, 1) := by decide +kernel
theorem dX10_readExpr_171 : decode cX10_readExpr 171 = .ok (.istore 4, 2) := by decide +kernel
theorem dX10_readExpr_173 : decode cX10_readExpr 173 = .ok (.iinc 5 (-1), 3) := by decide +kernel
theorem dX10_readExpr_176 : decode cX10_readExpr 176 = .ok (.goto (-40), 3) := by decide +kernel
theorem dX10_readExpr_179 : decode cX10_readExpr 179 = .ok (.aload_n 0, 1) := by decide +kernel
theorem dX10_readExpr_180 : decode cX10_readExpr 180 = .ok (.dup, 1) := by decide +kernel
theorem dX10_readExpr_181 : decode cX10_readExpr 181 = .ok (.getfield 36, 3) := by decide +kernel
theorem dX10_readExpr_184 : decode cX10_readExpr 184 = .ok (.iload_n 3, 1) := by decide +kernel
theorem dX10_readExpr_185 : decode cX10_readExpr 185 = .ok (.iadd, 1) := by decide +kernel
theorem dX10_readExpr_186 : decode cX10_readExpr 186 = .ok (.putfield 36, 3) := by decide +kernel
theorem dX10_readExpr_189 : decode cX10_readExpr 189 = .ok (.return_, 1) := by decide +kernel
theorem dX10_readExpr_119 : decode cX10_readExpr 119 = .ok (.return_, 1) := by decide +kernel
theorem dX10_read_70 : decode cX10_read 70 = .ok (.iconst 0, 1) := by decide +kernel
theorem dX10_read_71 : decode cX10_read 71 = .ok (.istore 4, 2) := by decide +kernel
theorem dX10_read_73 : decode cX10_read 73 = .ok (.iload 4, 2) := by decide +kernel
theorem dX10_read_75 : decode cX10_read 75 = .ok (.ldc 65, 2) := by decide +kernel
theorem wm_1473 : (Jvm.Cond.constant "GrownKinds$ThingReader" (65 : Nat) (100000 : Int32)) ∈ gT := gT_in (List.mem_of_getElem? (i := 1473) (by decide +kernel)) (by decide +kernel)
theorem dX10_read_77 : decode cX10_read 77 = .ok (.if_icmp .ge 67, 3) := by decide +kernel
theorem dX10_read_80 : decode cX10_read 80 = .ok (.aload_n 0, 1) := by decide +kernel
theorem dX10_read_81 : decode cX10_read 81 = .ok (.getfield 28, 3) := by decide +kernel
theorem dX10_read_84 : decode cX10_read 84 = .ok (.ifCond .eq 60, 3) := by decide +kernel
theorem dX10_read_87 : decode cX10_read 87 = .ok (.aload_n 0, 1) := by decide +kernel
theorem dX10_read_88 : decode cX10_read 88 = .ok (.getfield 36, 3) := by decide +kernel
theorem dX10_read_91 : decode cX10_read 91 = .ok (.ifCond .le 53, 3) := by decide +kernel
theorem dX10_read_94 : decode cX10_read 94 = .ok (.aload_n 0, 1) := by decide +kernel
theorem dX10_read_95 : decode cX10_read 95 = .ok (.dup, 1) := by decide +kernel
theorem dX10_read_96 : decode cX10_read 96 = .ok (.getfield 36, 3) := by decide +kernel
theorem dX10_read_99 : decode cX10_read 99 = .ok (.iconst 1, 1) := by decide +kernel
theorem dX10_read_100 : decode cX10_read 100 = .ok (.isub, 1) := by decide +kernel
theorem dX10_read_101 : decode cX10_read 101 = .ok (.putfield 36, 3) := by decide +kernel
theorem dX10_read_104 : decode cX10_read 104 = .ok (.aload_n 0, 1) := by decide +kernel
theorem dX10_read_105 : decode cX10_read 105 = .ok (.getfield 32, 3) := by decide +kernel
theorem dX10_read_108 : decode cX10_read 108 = .ok (.aload_n 0, 1) := by decide +kernel
theorem dX10_read_109 : decode cX10_read 109 = .ok (.getfield 36, 3) := by decide +kernel
theorem dX10_read_112 : decode cX10_read 112 = .ok (.iaload, 1) := by decide +kernel
theorem dX10_read_113 : decode cX10_read 113 = .ok (.istore 5, 2) := by decide +kernel
theorem dX10_read_115 : decode cX10_read 115 = .ok (.iload 5, 2) := by decide +kernel
theorem dX10_read_117 : decode cX10_read 117 = .ok (.ifCond .ge 15, 3) := by decide +kernel
theorem dX10_read_132 : decode cX10_read 132 = .ok (.aload_n 0, 1) := by decide +kernel
theorem dX10_read_133 : decode cX10_read 133 = .ok (.iload 5, 2) := by decide +kernel
theorem dX10_read_135 : decode cX10_read 135 = .ok (.invokevirtual 69, 3) := by decide +kernel
theorem wm_1507 : (Jvm.Cond.methodLink "GrownKinds$ThingReader" (69 : Nat) ({ cls := "GrownKinds$ThingReader", name := "readPart", desc := "(I)V" } : Jvm.MethodName)) ∈ gT := gT_in (List.mem_of_getElem? (i := 1507) (by decide +kernel)) (by decide +kernel)
theorem wm_1509 : (Jvm.Cond.instanceMethod ({ cls := "GrownKinds$ThingReader", name := "readPart", desc := "(I)V" } : Jvm.MethodName)) ∈ gT := gT_in (List.mem_of_getElem? (i := 1509) (by decide +kernel)) (by decide +kernel)
theorem wm_80 : Cond.selects "GrownKinds$ThingReader" ⟨"GrownKinds$ThingReader", "readPart", "(I)V"⟩ ⟨"GrownKinds$ThingReader", "readPart", "(I)V"⟩ ∈ gT := gT_in (List.mem_of_getElem? (i := 80) (by decide +kernel)) (by decide +kernel)
theorem wm_1510 : (Jvm.Cond.code ({ cls := "GrownKinds$ThingReader", name := "readPart", desc := "(I)V" } : Jvm.MethodName) prog_12_method_8_code (3 : Nat) (Option.none : Option Jvm.ClassFile.FieldType)) ∈ gT := gT_in (List.mem_of_getElem? (i := 1510) (by decide +kernel)) (by decide +kernel)
theorem dX10_readPart_0 : decode cX10_readPart 0 = .ok (.aload_n 0, 1) := by decide +kernel
theorem dX10_readPart_1 : decode cX10_readPart 1 = .ok (.getfield 51, 3) := by decide +kernel
theorem dX10_readPart_4 : decode cX10_readPart 4 = .ok (.getfield 96, 3) := by decide +kernel
theorem wm_237 : (Jvm.Cond.fieldLink "GrownKinds$ThingReader" (96 : Nat) "GrownKinds$Grammar" "type" "[I") ∈ gT := gT_in (List.mem_of_getElem? (i := 237) (by decide +kernel)) (by decide +kernel)
theorem dX10_readPart_7 : decode cX10_readPart 7 = .ok (.iload_n 1, 1) := by decide +kernel
theorem dX10_readPart_8 : decode cX10_readPart 8 = .ok (.iaload, 1) := by decide +kernel
theorem dX10_readPart_9 : decode cX10_readPart 9 = .ok (.istore_n 2, 1) := by decide +kernel
theorem dX10_readPart_10 : decode cX10_readPart 10 = .ok (.iload_n 2, 1) := by decide +kernel
theorem dX10_readPart_11 : decode cX10_readPart 11 = .ok (.ifCond .ne 62, 3) := by decide +kernel
theorem dX10_readPart_73 : decode cX10_readPart 73 = .ok (.iload_n 2, 1) := by decide +kernel
theorem dX10_readPart_74 : decode cX10_readPart 74 = .ok (.iconst 1, 1) := by decide +kernel
theorem dX10_readPart_75 : decode cX10_readPart 75 = .ok (.if_icmp .ne 12, 3) := by decide +kernel
theorem dX10_readPart_87 : decode cX10_readPart 87 = .ok (.iload_n 2, 1) := by decide +kernel
theorem dX10_readPart_88 : decode cX10_readPart 88 = .ok (.iconst 2, 1) := by decide +kernel
theorem dX10_readPart_89 : decode cX10_readPart 89 = .ok (.if_icmp .eq 9, 3) := by decide +kernel
theorem dX10_readPart_92 : decode cX10_readPart 92 = .ok (.iload_n 2, 1) := by decide +kernel
theorem dX10_readPart_93 : decode cX10_readPart 93 = .ok (.bipush 7, 2) := by decide +kernel
theorem dX10_readPart_95 : decode cX10_readPart 95 = .ok (.if_icmp .ne 18, 3) := by decide +kernel
theorem dX10_readPart_98 : decode cX10_readPart 98 = .ok (.aload_n 0, 1) := by decide +kernel
theorem dX10_readPart_99 : decode cX10_readPart 99 = .ok (.aload_n 0, 1) := by decide +kernel
theorem dX10_readPart_100 : decode cX10_readPart 100 = .ok (.getfield 51, 3) := by decide +kernel
theorem dX10_readPart_103 : decode cX10_readPart 103 = .ok (.iload_n 1, 1) := by decide +kernel
theorem dX10_readPart_104 : decode cX10_readPart 104 = .ok (.invokevirtual 108, 3) := by decide +kernel
theorem wm_1515 : (Jvm.Cond.methodLink "GrownKinds$ThingReader" (108 : Nat) ({ cls := "GrownKinds$Grammar", name := "exprOf", desc := "(I)I" } : Jvm.MethodName)) ∈ gT := gT_in (List.mem_of_getElem? (i := 1515) (by decide +kernel)) (by decide +kernel)
theorem wm_1418 : (Jvm.Cond.instanceMethod ({ cls := "GrownKinds$Grammar", name := "exprOf", desc := "(I)I" } : Jvm.MethodName)) ∈ gT := gT_in (List.mem_of_getElem? (i := 1418) (by decide +kernel)) (by decide +kernel)
theorem wm_1419 : (Jvm.Cond.selects "GrownKinds$Grammar" ({ cls := "GrownKinds$Grammar", name := "exprOf", desc := "(I)I" } : Jvm.MethodName) ({ cls := "GrownKinds$Grammar", name := "exprOf", desc := "(I)I" } : Jvm.MethodName)) ∈ gT := gT_in (List.mem_of_getElem? (i := 1419) (by decide +kernel)) (by decide +kernel)
theorem wm_1420 : (Jvm.Cond.code ({ cls := "GrownKinds$Grammar", name := "exprOf", desc := "(I)I" } : Jvm.MethodName) prog_4_method_9_code (2 : Nat) (Option.some Jvm.ClassFile.FieldType.int)) ∈ gT := gT_in (List.mem_of_getElem? (i := 1420) (by decide +kernel)) (by decide +kernel)
theorem dX2_exprOf_0 : decode cX2_exprOf 0 = .ok (.aload_n 0, 1) := by decide +kernel
theorem dX2_exprOf_1 : decode cX2_exprOf 1 = .ok (.getfield 27, 3) := by decide +kernel
theorem dX2_exprOf_4 : decode cX2_exprOf 4 = .ok (.iload_n 1, 1) := by decide +kernel
theorem dX2_exprOf_5 : decode cX2_exprOf 5 = .ok (.iaload, 1) := by decide +kernel
theorem dX2_exprOf_6 : decode cX2_exprOf 6 = .ok (.iconst 2, 1) := by decide +kernel
theorem dX2_exprOf_7 : decode cX2_exprOf 7 = .ok (.if_icmp .ne 12, 3) := by decide +kernel
theorem dX2_exprOf_19 : decode cX2_exprOf 19 = .ok (.bipush 6, 2) := by decide +kernel
theorem dX2_exprOf_21 : decode cX2_exprOf 21 = .ok (.iload_n 1, 1) := by decide +kernel
theorem dX2_exprOf_22 : decode cX2_exprOf 22 = .ok (.iadd, 1) := by decide +kernel
theorem dX2_exprOf_23 : decode cX2_exprOf 23 = .ok (.ireturn, 1) := by decide +kernel
theorem dX2_exprOf_10 : decode cX2_exprOf 10 = .ok (.aload_n 0, 1) := by decide +kernel
theorem dX2_exprOf_11 : decode cX2_exprOf 11 = .ok (.getfield 31, 3) := by decide +kernel
theorem dX2_exprOf_14 : decode cX2_exprOf 14 = .ok (.iload_n 1, 1) := by decide +kernel
theorem dX2_exprOf_15 : decode cX2_exprOf 15 = .ok (.iaload, 1) := by decide +kernel
theorem dX2_exprOf_16 : decode cX2_exprOf 16 = .ok (.goto 7, 3) := by decide +kernel
theorem dX10_readPart_107 : decode cX10_readPart 107 = .ok (.invokevirtual 61, 3) := by decide +kernel
theorem dX10_readPart_110 : decode cX10_readPart 110 = .ok (.goto 72, 3) := by decide +kernel
theorem dX10_readPart_182 : decode cX10_readPart 182 = .ok (.return_, 1) := by decide +kernel
theorem dX10_readPart_113 : decode cX10_readPart 113 = .ok (.aload_n 0, 1) := by decide +kernel
theorem dX10_readPart_114 : decode cX10_readPart 114 = .ok (.iload_n 2, 1) := by decide +kernel
theorem dX10_readPart_115 : decode cX10_readPart 115 = .ok (.invokestatic 112, 3) := by decide +kernel
theorem wm_1341 : (Jvm.Cond.static ({ cls := "GrownKinds", name := "openSign", desc := "(I)I" } : Jvm.MethodName)) ∈ gT := gT_in (List.mem_of_getElem? (i := 1341) (by decide +kernel)) (by decide +kernel)
theorem wm_1342 : (Jvm.Cond.code ({ cls := "GrownKinds", name := "openSign", desc := "(I)I" } : Jvm.MethodName) prog_1_method_65_code (1 : Nat) (Option.some Jvm.ClassFile.FieldType.int)) ∈ gT := gT_in (List.mem_of_getElem? (i := 1342) (by decide +kernel)) (by decide +kernel)
theorem dX11_openSign_0 : decode cX11_openSign 0 = .ok (.iload_n 0, 1) := by decide +kernel
theorem dX11_openSign_1 : decode cX11_openSign 1 = .ok (.iconst 3, 1) := by decide +kernel
theorem dX11_openSign_2 : decode cX11_openSign 2 = .ok (.if_icmp .ne 8, 3) := by decide +kernel
theorem dX11_openSign_10 : decode cX11_openSign 10 = .ok (.iload_n 0, 1) := by decide +kernel
theorem dX11_openSign_11 : decode cX11_openSign 11 = .ok (.iconst 4, 1) := by decide +kernel
theorem dX11_openSign_12 : decode cX11_openSign 12 = .ok (.if_icmp .ne 8, 3) := by decide +kernel
theorem dX11_openSign_20 : decode cX11_openSign 20 = .ok (.iload_n 0, 1) := by decide +kernel
theorem dX11_openSign_21 : decode cX11_openSign 21 = .ok (.iconst 5, 1) := by decide +kernel
theorem dX11_openSign_22 : decode cX11_openSign 22 = .ok (.if_icmp .ne 8, 3) := by decide +kernel
theorem dX11_openSign_30 : decode cX11_openSign 30 = .ok (.bipush 40, 2) := by decide +kernel
theorem dX11_openSign_32 : decode cX11_openSign 32 = .ok (.ireturn, 1) := by decide +kernel
theorem dX11_openSign_25 : decode cX11_openSign 25 = .ok (.bipush 60, 2) := by decide +kernel
theorem dX11_openSign_27 : decode cX11_openSign 27 = .ok (.goto 5, 3) := by decide +kernel
theorem dX11_openSign_15 : decode cX11_openSign 15 = .ok (.bipush 123, 2) := by decide +kernel
theorem dX11_openSign_17 : decode cX11_openSign 17 = .ok (.goto 15, 3) := by decide +kernel
theorem dX11_openSign_5 : decode cX11_openSign 5 = .ok (.bipush 91, 2) := by decide +kernel
theorem dX11_openSign_7 : decode cX11_openSign 7 = .ok (.goto 25, 3) := by decide +kernel
theorem dX10_readPart_118 : decode cX10_readPart 118 = .ok (.invokevirtual 102, 3) := by decide +kernel
theorem wm_1511 : (Jvm.Cond.methodLink "GrownKinds$ThingReader" (102 : Nat) ({ cls := "GrownKinds$ThingReader", name := "take", desc := "(I)V" } : Jvm.MethodName)) ∈ gT := gT_in (List.mem_of_getElem? (i := 1511) (by decide +kernel)) (by decide +kernel)
theorem wm_1513 : (Jvm.Cond.instanceMethod ({ cls := "GrownKinds$ThingReader", name := "take", desc := "(I)V" } : Jvm.MethodName)) ∈ gT := gT_in (List.mem_of_getElem? (i := 1513) (by decide +kernel)) (by decide +kernel)
theorem wm_81 : Cond.selects "GrownKinds$ThingReader" ⟨"GrownKinds$ThingReader", "take", "(I)V"⟩ ⟨"GrownKinds$ThingReader", "take", "(I)V"⟩ ∈ gT := gT_in (List.mem_of_getElem? (i := 81) (by decide +kernel)) (by decide +kernel)
theorem wm_1514 : (Jvm.Cond.code ({ cls := "GrownKinds$ThingReader", name := "take", desc := "(I)V" } : Jvm.MethodName) prog_12_method_5_code (2 : Nat) (Option.none : Option Jvm.ClassFile.FieldType)) ∈ gT := gT_in (List.mem_of_getElem? (i := 1514) (by decide +kernel)) (by decide +kernel)
theorem dX10_take_0 : decode cX10_take 0 = .ok (.aload_n 0, 1) := by decide +kernel
theorem dX10_take_1 : decode cX10_take 1 = .ok (.invokevirtual 72, 3) := by decide +kernel
theorem dX10_take_4 : decode cX10_take 4 = .ok (.iload_n 1, 1) := by decide +kernel
theorem dX10_take_5 : decode cX10_take 5 = .ok (.if_icmp .ne 16, 3) := by decide +kernel
theorem dX10_take_21 : decode cX10_take 21 = .ok (.aload_n 0, 1) := by decide +kernel
theorem dX10_take_22 : decode cX10_take 22 = .ok (.iconst 0, 1) := by decide +kernel
theorem dX10_take_23 : decode cX10_take 23 = .ok (.putfield 28, 3) := by decide +kernel
theorem dX10_take_26 : decode cX10_take 26 = .ok (.return_, 1) := by decide +kernel
theorem dX10_take_8 : decode cX10_take 8 = .ok (.aload_n 0, 1) := by decide +kernel
theorem dX10_take_9 : decode cX10_take 9 = .ok (.dup, 1) := by decide +kernel
theorem dX10_take_10 : decode cX10_take 10 = .ok (.getfield 22, 3) := by decide +kernel
theorem dX10_take_13 : decode cX10_take 13 = .ok (.iconst 1, 1) := by decide +kernel
theorem dX10_take_14 : decode cX10_take 14 = .ok (.iadd, 1) := by decide +kernel
theorem dX10_take_15 : decode cX10_take 15 = .ok (.putfield 22, 3) := by decide +kernel
theorem dX10_take_18 : decode cX10_take 18 = .ok (.goto 8, 3) := by decide +kernel
theorem dX10_readPart_121 : decode cX10_readPart 121 = .ok (.aload_n 0, 1) := by decide +kernel
theorem dX10_readPart_122 : decode cX10_readPart 122 = .ok (.getfield 28, 3) := by decide +kernel
theorem dX10_readPart_125 : decode cX10_readPart 125 = .ok (.ifCond .eq 57, 3) := by decide +kernel
theorem dX10_readPart_128 : decode cX10_readPart 128 = .ok (.aload_n 0, 1) := by decide +kernel
theorem dX10_readPart_129 : decode cX10_readPart 129 = .ok (.iconst 1, 1) := by decide +kernel
theorem dX10_readPart_130 : decode cX10_readPart 130 = .ok (.invokevirtual 92, 3) := by decide +kernel
theorem dX10_readPart_133 : decode cX10_readPart 133 = .ok (.ifCond .eq 49, 3) := by decide +kernel
theorem dX10_readPart_136 : decode cX10_readPart 136 = .ok (.aload_n 0, 1) := by decide +kernel
theorem dX10_readPart_137 : decode cX10_readPart 137 = .ok (.getfield 32, 3) := by decide +kernel
theorem dX10_readPart_140 : decode cX10_readPart 140 = .ok (.aload_n 0, 1) := by decide +kernel
theorem dX10_readPart_141 : decode cX10_readPart 141 = .ok (.getfield 36, 3) := by decide +kernel
theorem dX10_readPart_144 : decode cX10_readPart 144 = .ok (.iload_n 1, 1) := by decide +kernel
theorem dX10_readPart_145 : decode cX10_readPart 145 = .ok (.ineg, 1) := by decide +kernel
theorem dX10_readPart_146 : decode cX10_readPart 146 = .ok (.iconst 1, 1) := by decide +kernel
theorem dX10_readPart_147 : decode cX10_readPart 147 = .ok (.isub, 1) := by decide +kernel
theorem dX10_readPart_148 : decode cX10_readPart 148 = .ok (.iastore, 1) := by decide +kernel
theorem dX10_readPart_149 : decode cX10_readPart 149 = .ok (.aload_n 0, 1) := by decide +kernel
theorem dX10_readPart_150 : decode cX10_readPart 150 = .ok (.dup, 1) := by decide +kernel
theorem dX10_readPart_151 : decode cX10_readPart 151 = .ok (.getfield 36, 3) := by decide +kernel
theorem dX10_readPart_154 : decode cX10_readPart 154 = .ok (.iconst 1, 1) := by decide +kernel
theorem dX10_readPart_155 : decode cX10_readPart 155 = .ok (.iadd, 1) := by decide +kernel
theorem dX10_readPart_156 : decode cX10_readPart 156 = .ok (.putfield 36, 3) := by decide +kernel
theorem dX10_readPart_159 : decode cX10_readPart 159 = .ok (.aload_n 0, 1) := by decide +kernel
theorem dX10_readPart_160 : decode cX10_readPart 160 = .ok (.getfield 45, 3) := by decide +kernel
theorem dX10_readPart_163 : decode cX10_readPart 163 = .ok (.aload_n 0, 1) := by decide +kernel
theorem dX10_readPart_164 : decode cX10_readPart 164 = .ok (.getfield 48, 3) := by decide +kernel
theorem dX10_readPart_167 : decode cX10_readPart 167 = .ok (.aload_n 0, 1) := by decide +kernel
theorem dX10_readPart_168 : decode cX10_readPart 168 = .ok (.getfield 42, 3) := by decide +kernel
theorem dX10_readPart_171 : decode cX10_readPart 171 = .ok (.iastore, 1) := by decide +kernel
theorem dX10_readPart_172 : decode cX10_readPart 172 = .ok (.aload_n 0, 1) := by decide +kernel
theorem dX10_readPart_173 : decode cX10_readPart 173 = .ok (.dup, 1) := by decide +kernel
theorem dX10_readPart_174 : decode cX10_readPart 174 = .ok (.getfield 48, 3) := by decide +kernel
theorem dX10_readPart_177 : decode cX10_readPart 177 = .ok (.iconst 1, 1) := by decide +kernel
theorem dX10_readPart_178 : decode cX10_readPart 178 = .ok (.iadd, 1) := by decide +kernel
theorem dX10_readPart_179 : decode cX10_readPart 179 = .ok (.putfield 48, 3) := by decide +kernel
theorem dX10_readPart_78 : decode cX10_readPart 78 = .ok (.aload_n 0, 1) := by decide +kernel
theorem dX10_readPart_79 : decode cX10_readPart 79 = .ok (.bipush 45, 2) := by decide +kernel
theorem dX10_readPart_81 : decode cX10_readPart 81 = .ok (.invokevirtual 102, 3) := by decide +kernel
theorem dX10_readPart_84 : decode cX10_readPart 84 = .ok (.goto 98, 3) := by decide +kernel
theorem dX10_readPart_14 : decode cX10_readPart 14 = .ok (.aload_n 0, 1) := by decide +kernel
theorem dX10_readPart_15 : decode cX10_readPart 15 = .ok (.bipush 97, 2) := by decide +kernel
theorem dX10_readPart_17 : decode cX10_readPart 17 = .ok (.aload_n 0, 1) := by decide +kernel
theorem dX10_readPart_18 : decode cX10_readPart 18 = .ok (.getfield 51, 3) := by decide +kernel
theorem dX10_readPart_21 : decode cX10_readPart 21 = .ok (.getfield 99, 3) := by decide +kernel
theorem wm_243 : (Jvm.Cond.fieldLink "GrownKinds$ThingReader" (99 : Nat) "GrownKinds$Grammar" "value" "[I") ∈ gT := gT_in (List.mem_of_getElem? (i := 243) (by decide +kernel)) (by decide +kernel)
theorem dX10_readPart_24 : decode cX10_readPart 24 = .ok (.iload_n 1, 1) := by decide +kernel
theorem dX10_readPart_25 : decode cX10_readPart 25 = .ok (.iaload, 1) := by decide +kernel
theorem dX10_readPart_26 : decode cX10_readPart 26 = .ok (.iadd, 1) := by decide +kernel
theorem dX10_readPart_27 : decode cX10_readPart 27 = .ok (.invokevirtual 102, 3) := by decide +kernel
theorem dX10_readPart_30 : decode cX10_readPart 30 = .ok (.aload_n 0, 1) := by decide +kernel
theorem dX10_readPart_31 : decode cX10_readPart 31 = .ok (.dup, 1) := by decide +kernel
theorem dX10_readPart_32 : decode cX10_readPart 32 = .ok (.getfield 25, 3) := by decide +kernel
theorem dX10_readPart_35 : decode cX10_readPart 35 = .ok (.iconst 1, 1) := by decide +kernel
theorem dX10_readPart_36 : decode cX10_readPart 36 = .ok (.iadd, 1) := by decide +kernel
theorem dX10_readPart_37 : decode cX10_readPart 37 = .ok (.putfield 25, 3) := by decide +kernel
theorem dX10_readPart_40 : decode cX10_readPart 40 = .ok (.aload_n 0, 1) := by decide +kernel
theorem dX10_readPart_41 : decode cX10_readPart 41 = .ok (.aload_n 0, 1) := by decide +kernel
theorem dX10_readPart_42 : decode cX10_readPart 42 = .ok (.getfield 28, 3) := by decide +kernel
theorem dX10_readPart_45 : decode cX10_readPart 45 = .ok (.ifCond .eq 21, 3) := by decide +kernel
theorem dX10_readPart_66 : decode cX10_readPart 66 = .ok (.iconst 0, 1) := by decide +kernel
theorem dX10_readPart_67 : decode cX10_readPart 67 = .ok (.putfield 28, 3) := by decide +kernel
theorem dX10_readPart_70 : decode cX10_readPart 70 = .ok (.goto 112, 3) := by decide +kernel
theorem dX10_readPart_48 : decode cX10_readPart 48 = .ok (.aload_n 0, 1) := by decide +kernel
theorem dX10_readPart_49 : decode cX10_readPart 49 = .ok (.getfield 25, 3) := by decide +kernel
theorem dX10_readPart_52 : decode cX10_readPart 52 = .ok (.aload_n 0, 1) := by decide +kernel
theorem dX10_readPart_53 : decode cX10_readPart 53 = .ok (.getfield 51, 3) := by decide +kernel
theorem dX10_readPart_56 : decode cX10_readPart 56 = .ok (.getfield 105, 3) := by decide +kernel
theorem wm_216 : (Jvm.Cond.fieldLink "GrownKinds$ThingReader" (105 : Nat) "GrownKinds$Grammar" "most" "I") ∈ gT := gT_in (List.mem_of_getElem? (i := 216) (by decide +kernel)) (by decide +kernel)
theorem dX10_readPart_59 : decode cX10_readPart 59 = .ok (.if_icmp .gt 7, 3) := by decide +kernel
theorem dX10_readPart_62 : decode cX10_readPart 62 = .ok (.iconst 1, 1) := by decide +kernel
theorem dX10_readPart_63 : decode cX10_readPart 63 = .ok (.goto 4, 3) := by decide +kernel
theorem dX10_read_138 : decode cX10_read 138 = .ok (.iinc 4 1, 3) := by decide +kernel
theorem dX10_read_141 : decode cX10_read 141 = .ok (.goto (-68), 3) := by decide +kernel
theorem dX10_read_120 : decode cX10_read 120 = .ok (.aload_n 0, 1) := by decide +kernel
theorem dX10_read_121 : decode cX10_read 121 = .ok (.iload 5, 2) := by decide +kernel
theorem dX10_read_123 : decode cX10_read 123 = .ok (.ineg, 1) := by decide +kernel
theorem dX10_read_124 : decode cX10_read 124 = .ok (.iconst 1, 1) := by decide +kernel
theorem dX10_read_125 : decode cX10_read 125 = .ok (.isub, 1) := by decide +kernel
theorem dX10_read_126 : decode cX10_read 126 = .ok (.invokevirtual 66, 3) := by decide +kernel
theorem wm_1474 : (Jvm.Cond.methodLink "GrownKinds$ThingReader" (66 : Nat) ({ cls := "GrownKinds$ThingReader", name := "goOn", desc := "(I)V" } : Jvm.MethodName)) ∈ gT := gT_in (List.mem_of_getElem? (i := 1474) (by decide +kernel)) (by decide +kernel)
theorem wm_1476 : (Jvm.Cond.instanceMethod ({ cls := "GrownKinds$ThingReader", name := "goOn", desc := "(I)V" } : Jvm.MethodName)) ∈ gT := gT_in (List.mem_of_getElem? (i := 1476) (by decide +kernel)) (by decide +kernel)
theorem wm_72 : Cond.selects "GrownKinds$ThingReader" ⟨"GrownKinds$ThingReader", "goOn", "(I)V"⟩ ⟨"GrownKinds$ThingReader", "goOn", "(I)V"⟩ ∈ gT := gT_in (List.mem_of_getElem? (i := 72) (by decide +kernel)) (by decide +kernel)
theorem wm_1477 : (Jvm.Cond.code ({ cls := "GrownKinds$ThingReader", name := "goOn", desc := "(I)V" } : Jvm.MethodName) prog_12_method_9_code (2 : Nat) (Option.none : Option Jvm.ClassFile.FieldType)) ∈ gT := gT_in (List.mem_of_getElem? (i := 1477) (by decide +kernel)) (by decide +kernel)
theorem dX10_goOn_0 : decode cX10_goOn 0 = .ok (.aload_n 0, 1) := by decide +kernel
theorem dX10_goOn_1 : decode cX10_goOn 1 = .ok (.invokevirtual 72, 3) := by decide +kernel
theorem dX10_goOn_4 : decode cX10_goOn 4 = .ok (.aload_n 0, 1) := by decide +kernel
theorem dX10_goOn_5 : decode cX10_goOn 5 = .ok (.getfield 51, 3) := by decide +kernel
theorem dX10_goOn_8 : decode cX10_goOn 8 = .ok (.getfield 96, 3) := by decide +kernel
theorem dX10_goOn_11 : decode cX10_goOn 11 = .ok (.iload_n 1, 1) := by decide +kernel
theorem dX10_goOn_12 : decode cX10_goOn 12 = .ok (.iaload, 1) := by decide +kernel
theorem dX10_goOn_13 : decode cX10_goOn 13 = .ok (.invokestatic 115, 3) := by decide +kernel
theorem wm_1344 : (Jvm.Cond.static ({ cls := "GrownKinds", name := "closeSign", desc := "(I)I" } : Jvm.MethodName)) ∈ gT := gT_in (List.mem_of_getElem? (i := 1344) (by decide +kernel)) (by decide +kernel)
theorem wm_1345 : (Jvm.Cond.code ({ cls := "GrownKinds", name := "closeSign", desc := "(I)I" } : Jvm.MethodName) prog_1_method_66_code (1 : Nat) (Option.some Jvm.ClassFile.FieldType.int)) ∈ gT := gT_in (List.mem_of_getElem? (i := 1345) (by decide +kernel)) (by decide +kernel)
theorem dX11_closeSign_0 : decode cX11_closeSign 0 = .ok (.iload_n 0, 1) := by decide +kernel
theorem dX11_closeSign_1 : decode cX11_closeSign 1 = .ok (.iconst 3, 1) := by decide +kernel
theorem dX11_closeSign_2 : decode cX11_closeSign 2 = .ok (.if_icmp .ne 8, 3) := by decide +kernel
theorem dX11_closeSign_10 : decode cX11_closeSign 10 = .ok (.iload_n 0, 1) := by decide +kernel
theorem dX11_closeSign_11 : decode cX11_closeSign 11 = .ok (.iconst 4, 1) := by decide +kernel
theorem dX11_closeSign_12 : decode cX11_closeSign 12 = .ok (.if_icmp .ne 8, 3) := by decide +kernel
theorem dX11_closeSign_20 : decode cX11_closeSign 20 = .ok (.iload_n 0, 1) := by decide +kernel
theorem dX11_closeSign_21 : decode cX11_closeSign 21 = .ok (.iconst 5, 1) := by decide +kernel
theorem dX11_closeSign_22 : decode cX11_closeSign 22 = .ok (.if_icmp .ne 8, 3) := by decide +kernel
theorem dX11_closeSign_30 : decode cX11_closeSign 30 = .ok (.bipush 41, 2) := by decide +kernel
theorem dX11_closeSign_32 : decode cX11_closeSign 32 = .ok (.ireturn, 1) := by decide +kernel
theorem dX11_closeSign_25 : decode cX11_closeSign 25 = .ok (.bipush 62, 2) := by decide +kernel
theorem dX11_closeSign_27 : decode cX11_closeSign 27 = .ok (.goto 5, 3) := by decide +kernel
theorem dX11_closeSign_15 : decode cX11_closeSign 15 = .ok (.bipush 125, 2) := by decide +kernel
theorem dX11_closeSign_17 : decode cX11_closeSign 17 = .ok (.goto 15, 3) := by decide +kernel
theorem dX11_closeSign_5 : decode cX11_closeSign 5 = .ok (.bipush 93, 2) := by decide +kernel
theorem dX11_closeSign_7 : decode cX11_closeSign 7 = .ok (.goto 25, 3) := by decide +kernel
theorem dX10_goOn_16 : decode cX10_goOn 16 = .ok (.if_icmp .ne 21, 3) := by decide +kernel
theorem dX10_goOn_37 : decode cX10_goOn 37 = .ok (.aload_n 0, 1) := by decide +kernel
theorem dX10_goOn_38 : decode cX10_goOn 38 = .ok (.iconst 2, 1) := by decide +kernel
theorem dX10_goOn_39 : decode cX10_goOn 39 = .ok (.invokevirtual 92, 3) := by decide +kernel
theorem dX10_goOn_42 : decode cX10_goOn 42 = .ok (.ifCond .eq 69, 3) := by decide +kernel
theorem dX10_goOn_111 : decode cX10_goOn 111 = .ok (.return_, 1) := by decide +kernel
theorem dX10_goOn_45 : decode cX10_goOn 45 = .ok (.aload_n 0, 1) := by decide +kernel
theorem dX10_goOn_46 : decode cX10_goOn 46 = .ok (.getfield 39, 3) := by decide +kernel
theorem dX10_goOn_49 : decode cX10_goOn 49 = .ok (.aload_n 0, 1) := by decide +kernel
theorem dX10_goOn_50 : decode cX10_goOn 50 = .ok (.getfield 42, 3) := by decide +kernel
theorem dX10_goOn_53 : decode cX10_goOn 53 = .ok (.aload_n 0, 1) := by decide +kernel
theorem dX10_goOn_54 : decode cX10_goOn 54 = .ok (.getfield 22, 3) := by decide +kernel
theorem dX10_goOn_57 : decode cX10_goOn 57 = .ok (.iastore, 1) := by decide +kernel
theorem dX10_goOn_58 : decode cX10_goOn 58 = .ok (.aload_n 0, 1) := by decide +kernel
theorem dX10_goOn_59 : decode cX10_goOn 59 = .ok (.dup, 1) := by decide +kernel
theorem dX10_goOn_60 : decode cX10_goOn 60 = .ok (.getfield 42, 3) := by decide +kernel
theorem dX10_goOn_63 : decode cX10_goOn 63 = .ok (.iconst 1, 1) := by decide +kernel
theorem dX10_goOn_64 : decode cX10_goOn 64 = .ok (.iadd, 1) := by decide +kernel
theorem dX10_goOn_65 : decode cX10_goOn 65 = .ok (.putfield 42, 3) := by decide +kernel
theorem dX10_goOn_68 : decode cX10_goOn 68 = .ok (.aload_n 0, 1) := by decide +kernel
theorem dX10_goOn_69 : decode cX10_goOn 69 = .ok (.getfield 32, 3) := by decide +kernel
theorem dX10_goOn_72 : decode cX10_goOn 72 = .ok (.aload_n 0, 1) := by decide +kernel
theorem dX10_goOn_73 : decode cX10_goOn 73 = .ok (.getfield 36, 3) := by decide +kernel
theorem dX10_goOn_76 : decode cX10_goOn 76 = .ok (.iload_n 1, 1) := by decide +kernel
theorem dX10_goOn_77 : decode cX10_goOn 77 = .ok (.ineg, 1) := by decide +kernel
theorem dX10_goOn_78 : decode cX10_goOn 78 = .ok (.iconst 1, 1) := by decide +kernel
theorem dX10_goOn_79 : decode cX10_goOn 79 = .ok (.isub, 1) := by decide +kernel
theorem dX10_goOn_80 : decode cX10_goOn 80 = .ok (.iastore, 1) := by decide +kernel
theorem dX10_goOn_81 : decode cX10_goOn 81 = .ok (.aload_n 0, 1) := by decide +kernel
theorem dX10_goOn_82 : decode cX10_goOn 82 = .ok (.getfield 32, 3) := by decide +kernel
theorem dX10_goOn_85 : decode cX10_goOn 85 = .ok (.aload_n 0, 1) := by decide +kernel
theorem dX10_goOn_86 : decode cX10_goOn 86 = .ok (.getfield 36, 3) := by decide +kernel
theorem dX10_goOn_89 : decode cX10_goOn 89 = .ok (.iconst 1, 1) := by decide +kernel
theorem dX10_goOn_90 : decode cX10_goOn 90 = .ok (.iadd, 1) := by decide +kernel
theorem dX10_goOn_91 : decode cX10_goOn 91 = .ok (.aload_n 0, 1) := by decide +kernel
theorem dX10_goOn_92 : decode cX10_goOn 92 = .ok (.getfield 51, 3) := by decide +kernel
theorem dX10_goOn_95 : decode cX10_goOn 95 = .ok (.getfield 121, 3) := by decide +kernel
theorem wm_250 : (Jvm.Cond.fieldLink "GrownKinds$ThingReader" (121 : Nat) "GrownKinds$Grammar" "inside" "[I") ∈ gT := gT_in (List.mem_of_getElem? (i := 250) (by decide +kernel)) (by decide +kernel)
theorem dX10_goOn_98 : decode cX10_goOn 98 = .ok (.iload_n 1, 1) := by decide +kernel
theorem dX10_goOn_99 : decode cX10_goOn 99 = .ok (.iaload, 1) := by decide +kernel
theorem dX10_goOn_100 : decode cX10_goOn 100 = .ok (.iastore, 1) := by decide +kernel
theorem dX10_goOn_101 : decode cX10_goOn 101 = .ok (.aload_n 0, 1) := by decide +kernel
theorem dX10_goOn_102 : decode cX10_goOn 102 = .ok (.dup, 1) := by decide +kernel
theorem dX10_goOn_103 : decode cX10_goOn 103 = .ok (.getfield 36, 3) := by decide +kernel
theorem dX10_goOn_106 : decode cX10_goOn 106 = .ok (.iconst 2, 1) := by decide +kernel
theorem dX10_goOn_107 : decode cX10_goOn 107 = .ok (.iadd, 1) := by decide +kernel
theorem dX10_goOn_108 : decode cX10_goOn 108 = .ok (.putfield 36, 3) := by decide +kernel
theorem dX10_goOn_19 : decode cX10_goOn 19 = .ok (.aload_n 0, 1) := by decide +kernel
theorem dX10_goOn_20 : decode cX10_goOn 20 = .ok (.iload_n 1, 1) := by decide +kernel
theorem dX10_goOn_21 : decode cX10_goOn 21 = .ok (.invokevirtual 118, 3) := by decide +kernel
theorem wm_1479 : (Jvm.Cond.methodLink "GrownKinds$ThingReader" (118 : Nat) ({ cls := "GrownKinds$ThingReader", name := "close", desc := "(I)V" } : Jvm.MethodName)) ∈ gT := gT_in (List.mem_of_getElem? (i := 1479) (by decide +kernel)) (by decide +kernel)
theorem wm_1481 : (Jvm.Cond.instanceMethod ({ cls := "GrownKinds$ThingReader", name := "close", desc := "(I)V" } : Jvm.MethodName)) ∈ gT := gT_in (List.mem_of_getElem? (i := 1481) (by decide +kernel)) (by decide +kernel)
theorem wm_73 : Cond.selects "GrownKinds$ThingReader" ⟨"GrownKinds$ThingReader", "close", "(I)V"⟩ ⟨"GrownKinds$ThingReader", "close", "(I)V"⟩ ∈ gT := gT_in (List.mem_of_getElem? (i := 73) (by decide +kernel)) (by decide +kernel)
theorem wm_1482 : (Jvm.Cond.code ({ cls := "GrownKinds$ThingReader", name := "close", desc := "(I)V" } : Jvm.MethodName) prog_12_method_10_code (6 : Nat) (Option.none : Option Jvm.ClassFile.FieldType)) ∈ gT := gT_in (List.mem_of_getElem? (i := 1482) (by decide +kernel)) (by decide +kernel)
theorem dX10_close_0 : decode cX10_close 0 = .ok (.aload_n 0, 1) := by decide +kernel
theorem dX10_close_1 : decode cX10_close 1 = .ok (.dup, 1) := by decide +kernel
theorem dX10_close_2 : decode cX10_close 2 = .ok (.getfield 48, 3) := by decide +kernel
theorem dX10_close_5 : decode cX10_close 5 = .ok (.iconst 1, 1) := by decide +kernel
theorem dX10_close_6 : decode cX10_close 6 = .ok (.isub, 1) := by decide +kernel
theorem dX10_close_7 : decode cX10_close 7 = .ok (.putfield 48, 3) := by decide +kernel
theorem dX10_close_10 : decode cX10_close 10 = .ok (.aload_n 0, 1) := by decide +kernel
theorem dX10_close_11 : decode cX10_close 11 = .ok (.getfield 45, 3) := by decide +kernel
theorem dX10_close_14 : decode cX10_close 14 = .ok (.aload_n 0, 1) := by decide +kernel
theorem dX10_close_15 : decode cX10_close 15 = .ok (.getfield 48, 3) := by decide +kernel
theorem dX10_close_18 : decode cX10_close 18 = .ok (.iaload, 1) := by decide +kernel
theorem dX10_close_19 : decode cX10_close 19 = .ok (.istore_n 2, 1) := by decide +kernel
theorem dX10_close_20 : decode cX10_close 20 = .ok (.aload_n 0, 1) := by decide +kernel
theorem dX10_close_21 : decode cX10_close 21 = .ok (.getfield 42, 3) := by decide +kernel
theorem dX10_close_24 : decode cX10_close 24 = .ok (.iload_n 2, 1) := by decide +kernel
theorem dX10_close_25 : decode cX10_close 25 = .ok (.isub, 1) := by decide +kernel
theorem dX10_close_26 : decode cX10_close 26 = .ok (.istore_n 3, 1) := by decide +kernel
theorem dX10_close_27 : decode cX10_close 27 = .ok (.aload_n 0, 1) := by decide +kernel
theorem dX10_close_28 : decode cX10_close 28 = .ok (.getfield 51, 3) := by decide +kernel
theorem dX10_close_31 : decode cX10_close 31 = .ok (.getfield 99, 3) := by decide +kernel
theorem dX10_close_34 : decode cX10_close 34 = .ok (.iload_n 1, 1) := by decide +kernel
theorem dX10_close_35 : decode cX10_close 35 = .ok (.iaload, 1) := by decide +kernel
theorem dX10_close_36 : decode cX10_close 36 = .ok (.istore 4, 2) := by decide +kernel
theorem dX10_close_38 : decode cX10_close 38 = .ok (.aload_n 0, 1) := by decide +kernel
theorem dX10_close_39 : decode cX10_close 39 = .ok (.getfield 51, 3) := by decide +kernel
theorem dX10_close_42 : decode cX10_close 42 = .ok (.getfield 96, 3) := by decide +kernel
theorem dX10_close_45 : decode cX10_close 45 = .ok (.iload_n 1, 1) := by decide +kernel
theorem dX10_close_46 : decode cX10_close 46 = .ok (.iaload, 1) := by decide +kernel
theorem dX10_close_47 : decode cX10_close 47 = .ok (.istore 5, 2) := by decide +kernel
theorem dX10_close_49 : decode cX10_close 49 = .ok (.aload_n 0, 1) := by decide +kernel
theorem dX10_close_50 : decode cX10_close 50 = .ok (.getfield 39, 3) := by decide +kernel
theorem dX10_close_53 : decode cX10_close 53 = .ok (.aload_n 0, 1) := by decide +kernel
theorem dX10_close_54 : decode cX10_close 54 = .ok (.getfield 42, 3) := by decide +kernel
theorem dX10_close_57 : decode cX10_close 57 = .ok (.aload_n 0, 1) := by decide +kernel
theorem dX10_close_58 : decode cX10_close 58 = .ok (.getfield 22, 3) := by decide +kernel
theorem dX10_close_61 : decode cX10_close 61 = .ok (.iastore, 1) := by decide +kernel
theorem dX10_close_62 : decode cX10_close 62 = .ok (.aload_n 0, 1) := by decide +kernel
theorem dX10_close_63 : decode cX10_close 63 = .ok (.iload_n 2, 1) := by decide +kernel
theorem dX10_close_64 : decode cX10_close 64 = .ok (.putfield 42, 3) := by decide +kernel
theorem dX10_close_67 : decode cX10_close 67 = .ok (.iload 4, 2) := by decide +kernel
theorem dX10_close_69 : decode cX10_close 69 = .ok (.ifCond .le 9, 3) := by decide +kernel
theorem dX10_close_78 : decode cX10_close 78 = .ok (.iload 5, 2) := by decide +kernel
theorem dX10_close_80 : decode cX10_close 80 = .ok (.bipush 6, 2) := by decide +kernel
theorem dX10_close_82 : decode cX10_close 82 = .ok (.if_icmp .ne 16, 3) := by decide +kernel
theorem dX10_close_85 : decode cX10_close 85 = .ok (.iload_n 3, 1) := by decide +kernel
theorem dX10_close_86 : decode cX10_close 86 = .ok (.iconst 1, 1) := by decide +kernel
theorem dX10_close_87 : decode cX10_close 87 = .ok (.if_icmp .ge 11, 3) := by decide +kernel
theorem dX10_close_90 : decode cX10_close 90 = .ok (.aload_n 0, 1) := by decide +kernel
theorem dX10_close_91 : decode cX10_close 91 = .ok (.iconst 0, 1) := by decide +kernel
theorem dX10_close_92 : decode cX10_close 92 = .ok (.putfield 28, 3) := by decide +kernel
theorem dX10_close_95 : decode cX10_close 95 = .ok (.goto 48, 3) := by decide +kernel
theorem dX10_close_143 : decode cX10_close 143 = .ok (.return_, 1) := by decide +kernel
theorem dX10_close_98 : decode cX10_close 98 = .ok (.iload 5, 2) := by decide +kernel
theorem dX10_close_100 : decode cX10_close 100 = .ok (.iconst 4, 1) := by decide +kernel
theorem dX10_close_101 : decode cX10_close 101 = .ok (.if_icmp .eq 9, 3) := by decide +kernel
theorem dX10_close_104 : decode cX10_close 104 = .ok (.iload 5, 2) := by decide +kernel
theorem dX10_close_106 : decode cX10_close 106 = .ok (.iconst 5, 1) := by decide +kernel
theorem dX10_close_107 : decode cX10_close 107 = .ok (.if_icmp .ne 23, 3) := by decide +kernel
theorem dX10_close_110 : decode cX10_close 110 = .ok (.aload_n 0, 1) := by decide +kernel
theorem dX10_close_111 : decode cX10_close 111 = .ok (.iload_n 2, 1) := by decide +kernel
theorem dX10_close_112 : decode cX10_close 112 = .ok (.iload_n 3, 1) := by decide +kernel
theorem dX10_close_113 : decode cX10_close 113 = .ok (.iload 5, 2) := by decide +kernel
theorem dX10_close_115 : decode cX10_close 115 = .ok (.iconst 5, 1) := by decide +kernel
theorem dX10_close_116 : decode cX10_close 116 = .ok (.if_icmp .ne 7, 3) := by decide +kernel
theorem dX10_close_123 : decode cX10_close 123 = .ok (.iconst 0, 1) := by decide +kernel
theorem dX10_close_124 : decode cX10_close 124 = .ok (.invokevirtual 124, 3) := by decide +kernel
theorem wm_1483 : (Jvm.Cond.methodLink "GrownKinds$ThingReader" (124 : Nat) ({ cls := "GrownKinds$ThingReader", name := "sort", desc := "(IIZ)V" } : Jvm.MethodName)) ∈ gT := gT_in (List.mem_of_getElem? (i := 1483) (by decide +kernel)) (by decide +kernel)
theorem wm_1485 : (Jvm.Cond.instanceMethod ({ cls := "GrownKinds$ThingReader", name := "sort", desc := "(IIZ)V" } : Jvm.MethodName)) ∈ gT := gT_in (List.mem_of_getElem? (i := 1485) (by decide +kernel)) (by decide +kernel)
theorem wm_74 : Cond.selects "GrownKinds$ThingReader" ⟨"GrownKinds$ThingReader", "sort", "(IIZ)V"⟩ ⟨"GrownKinds$ThingReader", "sort", "(IIZ)V"⟩ ∈ gT := gT_in (List.mem_of_getElem? (i := 74) (by decide +kernel)) (by decide +kernel)
theorem wm_1486 : (Jvm.Cond.code ({ cls := "GrownKinds$ThingReader", name := "sort", desc := "(IIZ)V" } : Jvm.MethodName) prog_12_method_12_code (8 : Nat) (Option.none : Option Jvm.ClassFile.FieldType)) ∈ gT := gT_in (List.mem_of_getElem? (i := 1486) (by decide +kernel)) (by decide +kernel)
theorem dX10_sort_0 : decode cX10_sort 0 = .ok (.aload_n 0, 1) := by decide +kernel
theorem dX10_sort_1 : decode cX10_sort 1 = .ok (.getfield 39, 3) := by decide +kernel
theorem dX10_sort_4 : decode cX10_sort 4 = .ok (.iload_n 1, 1) := by decide +kernel
theorem dX10_sort_5 : decode cX10_sort 5 = .ok (.iaload, 1) := by decide +kernel
theorem dX10_sort_6 : decode cX10_sort 6 = .ok (.istore 4, 2) := by decide +kernel
theorem dX10_sort_8 : decode cX10_sort 8 = .ok (.iconst 0, 1) := by decide +kernel
theorem dX10_sort_9 : decode cX10_sort 9 = .ok (.istore 5, 2) := by decide +kernel
theorem dX10_sort_11 : decode cX10_sort 11 = .ok (.iload 5, 2) := by decide +kernel
theorem dX10_sort_13 : decode cX10_sort 13 = .ok (.iload_n 2, 1) := by decide +kernel
theorem dX10_sort_14 : decode cX10_sort 14 = .ok (.if_icmp .ge 95, 3) := by decide +kernel
theorem dX10_sort_17 : decode cX10_sort 17 = .ok (.aload_n 0, 1) := by decide +kernel
theorem dX10_sort_18 : decode cX10_sort 18 = .ok (.getfield 28, 3) := by decide +kernel
theorem dX10_sort_21 : decode cX10_sort 21 = .ok (.ifCond .eq 88, 3) := by decide +kernel
theorem dX10_sort_24 : decode cX10_sort 24 = .ok (.iload_n 1, 1) := by decide +kernel
theorem dX10_sort_25 : decode cX10_sort 25 = .ok (.istore 6, 2) := by decide +kernel
theorem dX10_sort_27 : decode cX10_sort 27 = .ok (.iload 6, 2) := by decide +kernel
theorem dX10_sort_29 : decode cX10_sort 29 = .ok (.iload_n 1, 1) := by decide +kernel
theorem dX10_sort_30 : decode cX10_sort 30 = .ok (.iload_n 2, 1) := by decide +kernel
theorem dX10_sort_31 : decode cX10_sort 31 = .ok (.iadd, 1) := by decide +kernel
theorem dX10_sort_32 : decode cX10_sort 32 = .ok (.if_icmp .ge 71, 3) := by decide +kernel
theorem dX10_sort_35 : decode cX10_sort 35 = .ok (.aload_n 0, 1) := by decide +kernel
theorem dX10_sort_36 : decode cX10_sort 36 = .ok (.iload 6, 2) := by decide +kernel
theorem dX10_sort_38 : decode cX10_sort 38 = .ok (.iload_n 1, 1) := by decide +kernel
theorem dX10_sort_39 : decode cX10_sort 39 = .ok (.iload_n 2, 1) := by decide +kernel
theorem dX10_sort_40 : decode cX10_sort 40 = .ok (.iload_n 3, 1) := by decide +kernel
theorem dX10_sort_41 : decode cX10_sort 41 = .ok (.invokevirtual 132, 3) := by decide +kernel
theorem wm_1487 : (Jvm.Cond.methodLink "GrownKinds$ThingReader" (132 : Nat) ({ cls := "GrownKinds$ThingReader", name := "placeOf", desc := "(IIIZ)I" } : Jvm.MethodName)) ∈ gT := gT_in (List.mem_of_getElem? (i := 1487) (by decide +kernel)) (by decide +kernel)
theorem wm_1489 : (Jvm.Cond.instanceMethod ({ cls := "GrownKinds$ThingReader", name := "placeOf", desc := "(IIIZ)I" } : Jvm.MethodName)) ∈ gT := gT_in (List.mem_of_getElem? (i := 1489) (by decide +kernel)) (by decide +kernel)
theorem wm_75 : Cond.selects "GrownKinds$ThingReader" ⟨"GrownKinds$ThingReader", "placeOf", "(IIIZ)I"⟩ ⟨"GrownKinds$ThingReader", "placeOf", "(IIIZ)I"⟩ ∈ gT := gT_in (List.mem_of_getElem? (i := 75) (by decide +kernel)) (by decide +kernel)
theorem wm_1490 : (Jvm.Cond.code ({ cls := "GrownKinds$ThingReader", name := "placeOf", desc := "(IIIZ)I" } : Jvm.MethodName) prog_12_method_13_code (8 : Nat) (Option.some Jvm.ClassFile.FieldType.int)) ∈ gT := gT_in (List.mem_of_getElem? (i := 1490) (by decide +kernel)) (by decide +kernel)
theorem dX10_placeOf_0 : decode cX10_placeOf 0 = .ok (.iconst 0, 1) := by decide +kernel
theorem dX10_placeOf_1 : decode cX10_placeOf 1 = .ok (.istore 5, 2) := by decide +kernel
theorem dX10_placeOf_3 : decode cX10_placeOf 3 = .ok (.iload_n 2, 1) := by decide +kernel
theorem dX10_placeOf_4 : decode cX10_placeOf 4 = .ok (.istore 6, 2) := by decide +kernel
theorem dX10_placeOf_6 : decode cX10_placeOf 6 = .ok (.iload 6, 2) := by decide +kernel
theorem dX10_placeOf_8 : decode cX10_placeOf 8 = .ok (.iload_n 2, 1) := by decide +kernel
theorem dX10_placeOf_9 : decode cX10_placeOf 9 = .ok (.iload_n 3, 1) := by decide +kernel
theorem dX10_placeOf_10 : decode cX10_placeOf 10 = .ok (.iadd, 1) := by decide +kernel
theorem dX10_placeOf_11 : decode cX10_placeOf 11 = .ok (.if_icmp .ge 62, 3) := by decide +kernel
theorem dX10_placeOf_14 : decode cX10_placeOf 14 = .ok (.iload 6, 2) := by decide +kernel
theorem dX10_placeOf_16 : decode cX10_placeOf 16 = .ok (.iload_n 1, 1) := by decide +kernel
theorem dX10_placeOf_17 : decode cX10_placeOf 17 = .ok (.if_icmp .ne 7, 3) := by decide +kernel
theorem dX10_placeOf_24 : decode cX10_placeOf 24 = .ok (.aload_n 0, 1) := by decide +kernel
theorem dX10_placeOf_25 : decode cX10_placeOf 25 = .ok (.iload 6, 2) := by decide +kernel
theorem dX10_placeOf_27 : decode cX10_placeOf 27 = .ok (.iload_n 1, 1) := by decide +kernel
theorem dX10_placeOf_28 : decode cX10_placeOf 28 = .ok (.invokevirtual 139, 3) := by decide +kernel
theorem wm_1491 : (Jvm.Cond.methodLink "GrownKinds$ThingReader" (139 : Nat) ({ cls := "GrownKinds$ThingReader", name := "compare", desc := "(II)I" } : Jvm.MethodName)) ∈ gT := gT_in (List.mem_of_getElem? (i := 1491) (by decide +kernel)) (by decide +kernel)
theorem wm_1493 : (Jvm.Cond.instanceMethod ({ cls := "GrownKinds$ThingReader", name := "compare", desc := "(II)I" } : Jvm.MethodName)) ∈ gT := gT_in (List.mem_of_getElem? (i := 1493) (by decide +kernel)) (by decide +kernel)
theorem wm_76 : Cond.selects "GrownKinds$ThingReader" ⟨"GrownKinds$ThingReader", "compare", "(II)I"⟩ ⟨"GrownKinds$ThingReader", "compare", "(II)I"⟩ ∈ gT := gT_in (List.mem_of_getElem? (i := 76) (by decide +kernel)) (by decide +kernel)
theorem wm_1494 : (Jvm.Cond.code ({ cls := "GrownKinds$ThingReader", name := "compare", desc := "(II)I" } : Jvm.MethodName) prog_12_method_11_code (5 : Nat) (Option.some Jvm.ClassFile.FieldType.int)) ∈ gT := gT_in (List.mem_of_getElem? (i := 1494) (by decide +kernel)) (by decide +kernel)
theorem dX10_compare_0 : decode cX10_compare 0 = .ok (.aload_n 0, 1) := by decide +kernel
theorem dX10_compare_1 : decode cX10_compare 1 = .ok (.getfield 39, 3) := by decide +kernel
theorem dX10_compare_4 : decode cX10_compare 4 = .ok (.iload_n 1, 1) := by decide +kernel
theorem dX10_compare_5 : decode cX10_compare 5 = .ok (.iaload, 1) := by decide +kernel
theorem dX10_compare_6 : decode cX10_compare 6 = .ok (.istore_n 3, 1) := by decide +kernel
theorem dX10_compare_7 : decode cX10_compare 7 = .ok (.aload_n 0, 1) := by decide +kernel
theorem dX10_compare_8 : decode cX10_compare 8 = .ok (.getfield 39, 3) := by decide +kernel
theorem dX10_compare_11 : decode cX10_compare 11 = .ok (.iload_n 2, 1) := by decide +kernel
theorem dX10_compare_12 : decode cX10_compare 12 = .ok (.iaload, 1) := by decide +kernel
theorem dX10_compare_13 : decode cX10_compare 13 = .ok (.istore 4, 2) := by decide +kernel
theorem dX10_compare_15 : decode cX10_compare 15 = .ok (.iload_n 3, 1) := by decide +kernel
theorem dX10_compare_16 : decode cX10_compare 16 = .ok (.aload_n 0, 1) := by decide +kernel
theorem dX10_compare_17 : decode cX10_compare 17 = .ok (.getfield 39, 3) := by decide +kernel
theorem dX10_compare_20 : decode cX10_compare 20 = .ok (.iload_n 1, 1) := by decide +kernel
theorem dX10_compare_21 : decode cX10_compare 21 = .ok (.iconst 1, 1) := by decide +kernel
theorem dX10_compare_22 : decode cX10_compare 22 = .ok (.iadd, 1) := by decide +kernel
theorem dX10_compare_23 : decode cX10_compare 23 = .ok (.iaload, 1) := by decide +kernel
theorem dX10_compare_24 : decode cX10_compare 24 = .ok (.if_icmp .ge 56, 3) := by decide +kernel
theorem dX10_compare_27 : decode cX10_compare 27 = .ok (.iload 4, 2) := by decide +kernel
theorem dX10_compare_29 : decode cX10_compare 29 = .ok (.aload_n 0, 1) := by decide +kernel
theorem dX10_compare_30 : decode cX10_compare 30 = .ok (.getfield 39, 3) := by decide +kernel
theorem dX10_compare_33 : decode cX10_compare 33 = .ok (.iload_n 2, 1) := by decide +kernel
theorem dX10_compare_34 : decode cX10_compare 34 = .ok (.iconst 1, 1) := by decide +kernel
theorem dX10_compare_35 : decode cX10_compare 35 = .ok (.iadd, 1) := by decide +kernel
theorem dX10_compare_36 : decode cX10_compare 36 = .ok (.iaload, 1) := by decide +kernel
theorem dX10_compare_37 : decode cX10_compare 37 = .ok (.if_icmp .ge 43, 3) := by decide +kernel
theorem dX10_compare_40 : decode cX10_compare 40 = .ok (.aload_n 0, 1) := by decide +kernel
theorem dX10_compare_41 : decode cX10_compare 41 = .ok (.getfield 9, 3) := by decide +kernel
theorem dX10_compare_44 : decode cX10_compare 44 = .ok (.iload_n 3, 1) := by decide +kernel
theorem dX10_compare_45 : decode cX10_compare 45 = .ok (.baload, 1) := by decide +kernel
theorem dX10_compare_46 : decode cX10_compare 46 = .ok (.aload_n 0, 1) := by decide +kernel
theorem dX10_compare_47 : decode cX10_compare 47 = .ok (.getfield 9, 3) := by decide +kernel
theorem dX10_compare_50 : decode cX10_compare 50 = .ok (.iload 4, 2) := by decide +kernel
theorem dX10_compare_52 : decode cX10_compare 52 = .ok (.baload, 1) := by decide +kernel
theorem dX10_compare_53 : decode cX10_compare 53 = .ok (.if_icmp .eq 18, 3) := by decide +kernel
theorem dX10_compare_71 : decode cX10_compare 71 = .ok (.iinc 3 1, 3) := by decide +kernel
theorem dX10_compare_74 : decode cX10_compare 74 = .ok (.iinc 4 1, 3) := by decide +kernel
theorem dX10_compare_77 : decode cX10_compare 77 = .ok (.goto (-62), 3) := by decide +kernel
theorem dX10_compare_56 : decode cX10_compare 56 = .ok (.aload_n 0, 1) := by decide +kernel
theorem dX10_compare_57 : decode cX10_compare 57 = .ok (.getfield 9, 3) := by decide +kernel
theorem dX10_compare_60 : decode cX10_compare 60 = .ok (.iload_n 3, 1) := by decide +kernel
theorem dX10_compare_61 : decode cX10_compare 61 = .ok (.baload, 1) := by decide +kernel
theorem dX10_compare_62 : decode cX10_compare 62 = .ok (.aload_n 0, 1) := by decide +kernel
theorem dX10_compare_63 : decode cX10_compare 63 = .ok (.getfield 9, 3) := by decide +kernel
theorem dX10_compare_66 : decode cX10_compare 66 = .ok (.iload 4, 2) := by decide +kernel
theorem dX10_compare_68 : decode cX10_compare 68 = .ok (.baload, 1) := by decide +kernel
theorem dX10_compare_69 : decode cX10_compare 69 = .ok (.isub, 1) := by decide +kernel
theorem dX10_compare_70 : decode cX10_compare 70 = .ok (.ireturn, 1) := by decide +kernel
theorem dX10_compare_80 : decode cX10_compare 80 = .ok (.aload_n 0, 1) := by decide +kernel
theorem dX10_compare_81 : decode cX10_compare 81 = .ok (.getfield 39, 3) := by decide +kernel
theorem dX10_compare_84 : decode cX10_compare 84 = .ok (.iload_n 1, 1) := by decide +kernel
theorem dX10_compare_85 : decode cX10_compare 85 = .ok (.iconst 1, 1) := by decide +kernel
theorem dX10_compare_86 : decode cX10_compare 86 = .ok (.iadd, 1) := by decide +kernel
theorem dX10_compare_87 : decode cX10_compare 87 = .ok (.iaload, 1) := by decide +kernel
theorem dX10_compare_88 : decode cX10_compare 88 = .ok (.iload_n 3, 1) := by decide +kernel
theorem dX10_compare_89 : decode cX10_compare 89 = .ok (.isub, 1) := by decide +kernel
theorem dX10_compare_90 : decode cX10_compare 90 = .ok (.aload_n 0, 1) := by decide +kernel
theorem dX10_compare_91 : decode cX10_compare 91 = .ok (.getfield 39, 3) := by decide +kernel
theorem dX10_compare_94 : decode cX10_compare 94 = .ok (.iload_n 2, 1) := by decide +kernel
theorem dX10_compare_95 : decode cX10_compare 95 = .ok (.iconst 1, 1) := by decide +kernel
theorem dX10_compare_96 : decode cX10_compare 96 = .ok (.iadd, 1) := by decide +kernel
theorem dX10_compare_97 : decode cX10_compare 97 = .ok (.iaload, 1) := by decide +kernel
theorem dX10_compare_98 : decode cX10_compare 98 = .ok (.iload 4, 2) := by decide +kernel
theorem dX10_compare_100 : decode cX10_compare 100 = .ok (.isub, 1) := by decide +kernel
theorem dX10_compare_101 : decode cX10_compare 101 = .ok (.isub, 1) := by decide +kernel
theorem dX10_compare_102 : decode cX10_compare 102 = .ok (.ireturn, 1) := by decide +kernel
theorem dX10_placeOf_20 : decode cX10_placeOf 20 = .ok (.iconst 1, 1) := by decide +kernel
theorem dX10_placeOf_21 : decode cX10_placeOf 21 = .ok (.goto 10, 3) := by decide +kernel
theorem dX10_placeOf_31 : decode cX10_placeOf 31 = .ok (.istore 7, 2) := by decide +kernel
theorem dX10_placeOf_33 : decode cX10_placeOf 33 = .ok (.iload 7, 2) := by decide +kernel
theorem dX10_placeOf_35 : decode cX10_placeOf 35 = .ok (.ifCond .ne 13, 3) := by decide +kernel
theorem dX10_placeOf_38 : decode cX10_placeOf 38 = .ok (.iload 4, 2) := by decide +kernel
theorem dX10_placeOf_40 : decode cX10_placeOf 40 = .ok (.ifCond .eq 8, 3) := by decide +kernel
theorem dX10_placeOf_43 : decode cX10_placeOf 43 = .ok (.aload_n 0, 1) := by decide +kernel
theorem dX10_placeOf_44 : decode cX10_placeOf 44 = .ok (.iconst 0, 1) := by decide +kernel
theorem dX10_placeOf_45 : decode cX10_placeOf 45 = .ok (.putfield 28, 3) := by decide +kernel
theorem dX10_placeOf_48 : decode cX10_placeOf 48 = .ok (.iload 7, 2) := by decide +kernel
theorem dX10_placeOf_50 : decode cX10_placeOf 50 = .ok (.ifCond .lt 14, 3) := by decide +kernel
theorem dX10_placeOf_64 : decode cX10_placeOf 64 = .ok (.iinc 5 1, 3) := by decide +kernel
theorem dX10_placeOf_67 : decode cX10_placeOf 67 = .ok (.iinc 6 1, 3) := by decide +kernel
theorem dX10_placeOf_70 : decode cX10_placeOf 70 = .ok (.goto (-64), 3) := by decide +kernel
theorem dX10_placeOf_53 : decode cX10_placeOf 53 = .ok (.iload 7, 2) := by decide +kernel
theorem dX10_placeOf_55 : decode cX10_placeOf 55 = .ok (.ifCond .ne 12, 3) := by decide +kernel
theorem dX10_placeOf_58 : decode cX10_placeOf 58 = .ok (.iload 6, 2) := by decide +kernel
theorem dX10_placeOf_60 : decode cX10_placeOf 60 = .ok (.iload_n 1, 1) := by decide +kernel
theorem dX10_placeOf_61 : decode cX10_placeOf 61 = .ok (.if_icmp .ge 6, 3) := by decide +kernel
theorem dX10_placeOf_73 : decode cX10_placeOf 73 = .ok (.iload 5, 2) := by decide +kernel
theorem dX10_placeOf_75 : decode cX10_placeOf 75 = .ok (.ireturn, 1) := by decide +kernel
theorem dX10_sort_44 : decode cX10_sort 44 = .ok (.iload 5, 2) := by decide +kernel
theorem dX10_sort_46 : decode cX10_sort 46 = .ok (.if_icmp .ne 51, 3) := by decide +kernel
theorem dX10_sort_97 : decode cX10_sort 97 = .ok (.iinc 6 1, 3) := by decide +kernel
theorem dX10_sort_100 : decode cX10_sort 100 = .ok (.goto (-73), 3) := by decide +kernel
theorem dX10_sort_49 : decode cX10_sort 49 = .ok (.aload_n 0, 1) := by decide +kernel
theorem dX10_sort_50 : decode cX10_sort 50 = .ok (.getfield 39, 3) := by decide +kernel
theorem dX10_sort_53 : decode cX10_sort 53 = .ok (.iload 6, 2) := by decide +kernel
theorem dX10_sort_55 : decode cX10_sort 55 = .ok (.iconst 1, 1) := by decide +kernel
theorem dX10_sort_56 : decode cX10_sort 56 = .ok (.iadd, 1) := by decide +kernel
theorem dX10_sort_57 : decode cX10_sort 57 = .ok (.iaload, 1) := by decide +kernel
theorem dX10_sort_58 : decode cX10_sort 58 = .ok (.aload_n 0, 1) := by decide +kernel
theorem dX10_sort_59 : decode cX10_sort 59 = .ok (.getfield 39, 3) := by decide +kernel
theorem dX10_sort_62 : decode cX10_sort 62 = .ok (.iload 6, 2) := by decide +kernel
theorem dX10_sort_64 : decode cX10_sort 64 = .ok (.iaload, 1) := by decide +kernel
theorem dX10_sort_65 : decode cX10_sort 65 = .ok (.isub, 1) := by decide +kernel
theorem dX10_sort_66 : decode cX10_sort 66 = .ok (.istore 7, 2) := by decide +kernel
theorem dX10_sort_68 : decode cX10_sort 68 = .ok (.aload_n 0, 1) := by decide +kernel
theorem dX10_sort_69 : decode cX10_sort 69 = .ok (.getfield 9, 3) := by decide +kernel
theorem dX10_sort_72 : decode cX10_sort 72 = .ok (.aload_n 0, 1) := by decide +kernel
theorem dX10_sort_73 : decode cX10_sort 73 = .ok (.getfield 39, 3) := by decide +kernel
theorem dX10_sort_76 : decode cX10_sort 76 = .ok (.iload 6, 2) := by decide +kernel
theorem dX10_sort_78 : decode cX10_sort 78 = .ok (.iaload, 1) := by decide +kernel
theorem dX10_sort_79 : decode cX10_sort 79 = .ok (.aload_n 0, 1) := by decide +kernel
theorem dX10_sort_80 : decode cX10_sort 80 = .ok (.getfield 15, 3) := by decide +kernel
theorem dX10_sort_83 : decode cX10_sort 83 = .ok (.iload 4, 2) := by decide +kernel
theorem dX10_sort_85 : decode cX10_sort 85 = .ok (.iload 7, 2) := by decide +kernel
theorem dX10_sort_87 : decode cX10_sort 87 = .ok (.invokestatic 55, 3) := by decide +kernel
theorem dX10_sort_90 : decode cX10_sort 90 = .ok (.iload 4, 2) := by decide +kernel
theorem dX10_sort_92 : decode cX10_sort 92 = .ok (.iload 7, 2) := by decide +kernel
theorem dX10_sort_94 : decode cX10_sort 94 = .ok (.iadd, 1) := by decide +kernel
theorem dX10_sort_95 : decode cX10_sort 95 = .ok (.istore 4, 2) := by decide +kernel
theorem dX10_sort_103 : decode cX10_sort 103 = .ok (.iinc 5 1, 3) := by decide +kernel
theorem dX10_sort_106 : decode cX10_sort 106 = .ok (.goto (-95), 3) := by decide +kernel
theorem dX10_sort_109 : decode cX10_sort 109 = .ok (.aload_n 0, 1) := by decide +kernel
theorem dX10_sort_110 : decode cX10_sort 110 = .ok (.iload_n 1, 1) := by decide +kernel
theorem dX10_sort_111 : decode cX10_sort 111 = .ok (.iload_n 2, 1) := by decide +kernel
theorem dX10_sort_112 : decode cX10_sort 112 = .ok (.invokevirtual 136, 3) := by decide +kernel
theorem wm_1495 : (Jvm.Cond.methodLink "GrownKinds$ThingReader" (136 : Nat) ({ cls := "GrownKinds$ThingReader", name := "copyBack", desc := "(II)V" } : Jvm.MethodName)) ∈ gT := gT_in (List.mem_of_getElem? (i := 1495) (by decide +kernel)) (by decide +kernel)
theorem wm_1497 : (Jvm.Cond.instanceMethod ({ cls := "GrownKinds$ThingReader", name := "copyBack", desc := "(II)V" } : Jvm.MethodName)) ∈ gT := gT_in (List.mem_of_getElem? (i := 1497) (by decide +kernel)) (by decide +kernel)
theorem wm_77 : Cond.selects "GrownKinds$ThingReader" ⟨"GrownKinds$ThingReader", "copyBack", "(II)V"⟩ ⟨"GrownKinds$ThingReader", "copyBack", "(II)V"⟩ ∈ gT := gT_in (List.mem_of_getElem? (i := 77) (by decide +kernel)) (by decide +kernel)
theorem wm_1498 : (Jvm.Cond.code ({ cls := "GrownKinds$ThingReader", name := "copyBack", desc := "(II)V" } : Jvm.MethodName) prog_12_method_14_code (5 : Nat) (Option.none : Option Jvm.ClassFile.FieldType)) ∈ gT := gT_in (List.mem_of_getElem? (i := 1498) (by decide +kernel)) (by decide +kernel)
theorem dX10_copyBack_0 : decode cX10_copyBack 0 = .ok (.aload_n 0, 1) := by decide +kernel
theorem dX10_copyBack_1 : decode cX10_copyBack 1 = .ok (.getfield 39, 3) := by decide +kernel
theorem dX10_copyBack_4 : decode cX10_copyBack 4 = .ok (.iload_n 1, 1) := by decide +kernel
theorem dX10_copyBack_5 : decode cX10_copyBack 5 = .ok (.iaload, 1) := by decide +kernel
theorem dX10_copyBack_6 : decode cX10_copyBack 6 = .ok (.istore_n 3, 1) := by decide +kernel
theorem dX10_copyBack_7 : decode cX10_copyBack 7 = .ok (.aload_n 0, 1) := by decide +kernel
theorem dX10_copyBack_8 : decode cX10_copyBack 8 = .ok (.getfield 39, 3) := by decide +kernel
theorem dX10_copyBack_11 : decode cX10_copyBack 11 = .ok (.iload_n 1, 1) := by decide +kernel
theorem dX10_copyBack_12 : decode cX10_copyBack 12 = .ok (.iload_n 2, 1) := by decide +kernel
theorem dX10_copyBack_13 : decode cX10_copyBack 13 = .ok (.iadd, 1) := by decide +kernel
theorem dX10_copyBack_14 : decode cX10_copyBack 14 = .ok (.iaload, 1) := by decide +kernel
theorem dX10_copyBack_15 : decode cX10_copyBack 15 = .ok (.iload_n 3, 1) := by decide +kernel
theorem dX10_copyBack_16 : decode cX10_copyBack 16 = .ok (.isub, 1) := by decide +kernel
theorem dX10_copyBack_17 : decode cX10_copyBack 17 = .ok (.istore 4, 2) := by decide +kernel
theorem dX10_copyBack_19 : decode cX10_copyBack 19 = .ok (.aload_n 0, 1) := by decide +kernel
theorem dX10_copyBack_20 : decode cX10_copyBack 20 = .ok (.getfield 28, 3) := by decide +kernel
theorem dX10_copyBack_23 : decode cX10_copyBack 23 = .ok (.ifCond .eq 23, 3) := by decide +kernel
theorem dX10_copyBack_46 : decode cX10_copyBack 46 = .ok (.return_, 1) := by decide +kernel
theorem dX10_copyBack_26 : decode cX10_copyBack 26 = .ok (.iload 4, 2) := by decide +kernel
theorem dX10_copyBack_28 : decode cX10_copyBack 28 = .ok (.ifCond .le 18, 3) := by decide +kernel
theorem dX10_copyBack_31 : decode cX10_copyBack 31 = .ok (.aload_n 0, 1) := by decide +kernel
theorem dX10_copyBack_32 : decode cX10_copyBack 32 = .ok (.getfield 15, 3) := by decide +kernel
theorem dX10_copyBack_35 : decode cX10_copyBack 35 = .ok (.iload_n 3, 1) := by decide +kernel
theorem dX10_copyBack_36 : decode cX10_copyBack 36 = .ok (.aload_n 0, 1) := by decide +kernel
theorem dX10_copyBack_37 : decode cX10_copyBack 37 = .ok (.getfield 9, 3) := by decide +kernel
theorem dX10_copyBack_40 : decode cX10_copyBack 40 = .ok (.iload_n 3, 1) := by decide +kernel
theorem dX10_copyBack_41 : decode cX10_copyBack 41 = .ok (.iload 4, 2) := by decide +kernel
theorem dX10_copyBack_43 : decode cX10_copyBack 43 = .ok (.invokestatic 55, 3) := by decide +kernel
theorem dX10_sort_115 : decode cX10_sort 115 = .ok (.return_, 1) := by decide +kernel
theorem dX10_close_127 : decode cX10_close 127 = .ok (.goto 16, 3) := by decide +kernel
theorem dX10_close_119 : decode cX10_close 119 = .ok (.iconst 1, 1) := by decide +kernel
theorem dX10_close_120 : decode cX10_close 120 = .ok (.goto 4, 3) := by decide +kernel
theorem dX10_close_130 : decode cX10_close 130 = .ok (.iload 5, 2) := by decide +kernel
theorem dX10_close_132 : decode cX10_close 132 = .ok (.bipush 6, 2) := by decide +kernel
theorem dX10_close_134 : decode cX10_close 134 = .ok (.if_icmp .ne 9, 3) := by decide +kernel
theorem dX10_close_137 : decode cX10_close 137 = .ok (.aload_n 0, 1) := by decide +kernel
theorem dX10_close_138 : decode cX10_close 138 = .ok (.iload_n 2, 1) := by decide +kernel
theorem dX10_close_139 : decode cX10_close 139 = .ok (.iload_n 3, 1) := by decide +kernel
theorem dX10_close_140 : decode cX10_close 140 = .ok (.invokevirtual 128, 3) := by decide +kernel
theorem wm_1499 : (Jvm.Cond.methodLink "GrownKinds$ThingReader" (128 : Nat) ({ cls := "GrownKinds$ThingReader", name := "turn", desc := "(II)V" } : Jvm.MethodName)) ∈ gT := gT_in (List.mem_of_getElem? (i := 1499) (by decide +kernel)) (by decide +kernel)
theorem wm_1501 : (Jvm.Cond.instanceMethod ({ cls := "GrownKinds$ThingReader", name := "turn", desc := "(II)V" } : Jvm.MethodName)) ∈ gT := gT_in (List.mem_of_getElem? (i := 1501) (by decide +kernel)) (by decide +kernel)
theorem wm_78 : Cond.selects "GrownKinds$ThingReader" ⟨"GrownKinds$ThingReader", "turn", "(II)V"⟩ ⟨"GrownKinds$ThingReader", "turn", "(II)V"⟩ ∈ gT := gT_in (List.mem_of_getElem? (i := 78) (by decide +kernel)) (by decide +kernel)
theorem wm_1502 : (Jvm.Cond.code ({ cls := "GrownKinds$ThingReader", name := "turn", desc := "(II)V" } : Jvm.MethodName) prog_12_method_15_code (8 : Nat) (Option.none : Option Jvm.ClassFile.FieldType)) ∈ gT := gT_in (List.mem_of_getElem? (i := 1502) (by decide +kernel)) (by decide +kernel)
theorem dX10_turn_0 : decode cX10_turn 0 = .ok (.aload_n 0, 1) := by decide +kernel
theorem dX10_turn_1 : decode cX10_turn 1 = .ok (.getfield 39, 3) := by decide +kernel
theorem dX10_turn_4 : decode cX10_turn 4 = .ok (.iload_n 1, 1) := by decide +kernel
theorem dX10_turn_5 : decode cX10_turn 5 = .ok (.iaload, 1) := by decide +kernel
theorem dX10_turn_6 : decode cX10_turn 6 = .ok (.istore_n 3, 1) := by decide +kernel
theorem dX10_turn_7 : decode cX10_turn 7 = .ok (.aload_n 0, 1) := by decide +kernel
theorem dX10_turn_8 : decode cX10_turn 8 = .ok (.getfield 39, 3) := by decide +kernel
theorem dX10_turn_11 : decode cX10_turn 11 = .ok (.iload_n 1, 1) := by decide +kernel
theorem dX10_turn_12 : decode cX10_turn 12 = .ok (.iload_n 2, 1) := by decide +kernel
theorem dX10_turn_13 : decode cX10_turn 13 = .ok (.iadd, 1) := by decide +kernel
theorem dX10_turn_14 : decode cX10_turn 14 = .ok (.iaload, 1) := by decide +kernel
theorem dX10_turn_15 : decode cX10_turn 15 = .ok (.iload_n 3, 1) := by decide +kernel
theorem dX10_turn_16 : decode cX10_turn 16 = .ok (.isub, 1) := by decide +kernel
theorem dX10_turn_17 : decode cX10_turn 17 = .ok (.istore 4, 2) := by decide +kernel
theorem dX10_turn_19 : decode cX10_turn 19 = .ok (.iconst 0, 1) := by decide +kernel
theorem dX10_turn_20 : decode cX10_turn 20 = .ok (.istore 5, 2) := by decide +kernel
theorem dX10_turn_22 : decode cX10_turn 22 = .ok (.iconst 1, 1) := by decide +kernel
theorem dX10_turn_23 : decode cX10_turn 23 = .ok (.istore 6, 2) := by decide +kernel
theorem dX10_turn_25 : decode cX10_turn 25 = .ok (.iload 6, 2) := by decide +kernel
theorem dX10_turn_27 : decode cX10_turn 27 = .ok (.iload_n 2, 1) := by decide +kernel
theorem dX10_turn_28 : decode cX10_turn 28 = .ok (.if_icmp .ge 45, 3) := by decide +kernel
theorem dX10_turn_31 : decode cX10_turn 31 = .ok (.aload_n 0, 1) := by decide +kernel
theorem dX10_turn_32 : decode cX10_turn 32 = .ok (.getfield 39, 3) := by decide +kernel
theorem dX10_turn_35 : decode cX10_turn 35 = .ok (.iload_n 1, 1) := by decide +kernel
theorem dX10_turn_36 : decode cX10_turn 36 = .ok (.iload 6, 2) := by decide +kernel
theorem dX10_turn_38 : decode cX10_turn 38 = .ok (.iadd, 1) := by decide +kernel
theorem dX10_turn_39 : decode cX10_turn 39 = .ok (.iaload, 1) := by decide +kernel
theorem dX10_turn_40 : decode cX10_turn 40 = .ok (.iload_n 3, 1) := by decide +kernel
theorem dX10_turn_41 : decode cX10_turn 41 = .ok (.isub, 1) := by decide +kernel
theorem dX10_turn_42 : decode cX10_turn 42 = .ok (.istore 7, 2) := by decide +kernel
theorem dX10_turn_44 : decode cX10_turn 44 = .ok (.aload_n 0, 1) := by decide +kernel
theorem dX10_turn_45 : decode cX10_turn 45 = .ok (.iload_n 3, 1) := by decide +kernel
theorem dX10_turn_46 : decode cX10_turn 46 = .ok (.iload 4, 2) := by decide +kernel
theorem dX10_turn_48 : decode cX10_turn 48 = .ok (.iload 7, 2) := by decide +kernel
theorem dX10_turn_50 : decode cX10_turn 50 = .ok (.iload 5, 2) := by decide +kernel
theorem dX10_turn_52 : decode cX10_turn 52 = .ok (.invokevirtual 142, 3) := by decide +kernel
theorem wm_1503 : (Jvm.Cond.methodLink "GrownKinds$ThingReader" (142 : Nat) ({ cls := "GrownKinds$ThingReader", name := "compareTurns", desc := "(IIII)I" } : Jvm.MethodName)) ∈ gT := gT_in (List.mem_of_getElem? (i := 1503) (by decide +kernel)) (by decide +kernel)
theorem wm_1505 : (Jvm.Cond.instanceMethod ({ cls := "GrownKinds$ThingReader", name := "compareTurns", desc := "(IIII)I" } : Jvm.MethodName)) ∈ gT := gT_in (List.mem_of_getElem? (i := 1505) (by decide +kernel)) (by decide +kernel)
theorem wm_79 : Cond.selects "GrownKinds$ThingReader" ⟨"GrownKinds$ThingReader", "compareTurns", "(IIII)I"⟩ ⟨"GrownKinds$ThingReader", "compareTurns", "(IIII)I"⟩ ∈ gT := gT_in (List.mem_of_getElem? (i := 79) (by decide +kernel)) (by decide +kernel)
theorem wm_1506 : (Jvm.Cond.code ({ cls := "GrownKinds$ThingReader", name := "compareTurns", desc := "(IIII)I" } : Jvm.MethodName) prog_12_method_16_code (8 : Nat) (Option.some Jvm.ClassFile.FieldType.int)) ∈ gT := gT_in (List.mem_of_getElem? (i := 1506) (by decide +kernel)) (by decide +kernel)
theorem dX10_compareTurns_0 : decode cX10_compareTurns 0 = .ok (.iconst 0, 1) := by decide +kernel
theorem dX10_compareTurns_1 : decode cX10_compareTurns 1 = .ok (.istore 5, 2) := by decide +kernel
theorem dX10_compareTurns_3 : decode cX10_compareTurns 3 = .ok (.iload 5, 2) := by decide +kernel
theorem dX10_compareTurns_5 : decode cX10_compareTurns 5 = .ok (.iload_n 2, 1) := by decide +kernel
theorem dX10_compareTurns_6 : decode cX10_compareTurns 6 = .ok (.if_icmp .ge 53, 3) := by decide +kernel
theorem dX10_compareTurns_9 : decode cX10_compareTurns 9 = .ok (.aload_n 0, 1) := by decide +kernel
theorem dX10_compareTurns_10 : decode cX10_compareTurns 10 = .ok (.getfield 9, 3) := by decide +kernel
theorem dX10_compareTurns_13 : decode cX10_compareTurns 13 = .ok (.iload_n 1, 1) := by decide +kernel
theorem dX10_compareTurns_14 : decode cX10_compareTurns 14 = .ok (.iload_n 3, 1) := by decide +kernel
theorem dX10_compareTurns_15 : decode cX10_compareTurns 15 = .ok (.iload 5, 2) := by decide +kernel
theorem dX10_compareTurns_17 : decode cX10_compareTurns 17 = .ok (.iadd, 1) := by decide +kernel
theorem dX10_compareTurns_18 : decode cX10_compareTurns 18 = .ok (.iload_n 2, 1) := by decide +kernel
theorem dX10_compareTurns_19 : decode cX10_compareTurns 19 = .ok (.irem, 1) := by decide +kernel
theorem dX10_compareTurns_20 : decode cX10_compareTurns 20 = .ok (.iadd, 1) := by decide +kernel
theorem dX10_compareTurns_21 : decode cX10_compareTurns 21 = .ok (.baload, 1) := by decide +kernel
theorem dX10_compareTurns_22 : decode cX10_compareTurns 22 = .ok (.istore 6, 2) := by decide +kernel
theorem dX10_compareTurns_24 : decode cX10_compareTurns 24 = .ok (.aload_n 0, 1) := by decide +kernel
theorem dX10_compareTurns_25 : decode cX10_compareTurns 25 = .ok (.getfield 9, 3) := by decide +kernel
theorem dX10_compareTurns_28 : decode cX10_compareTurns 28 = .ok (.iload_n 1, 1) := by decide +kernel
theorem dX10_compareTurns_29 : decode cX10_compareTurns 29 = .ok (.iload 4, 2) := by decide +kernel
theorem dX10_compareTurns_31 : decode cX10_compareTurns 31 = .ok (.iload 5, 2) := by decide +kernel
theorem dX10_compareTurns_33 : decode cX10_compareTurns 33 = .ok (.iadd, 1) := by decide +kernel
theorem dX10_compareTurns_34 : decode cX10_compareTurns 34 = .ok (.iload_n 2, 1) := by decide +kernel
theorem dX10_compareTurns_35 : decode cX10_compareTurns 35 = .ok (.irem, 1) := by decide +kernel
theorem dX10_compareTurns_36 : decode cX10_compareTurns 36 = .ok (.iadd, 1) := by decide +kernel
theorem dX10_compareTurns_37 : decode cX10_compareTurns 37 = .ok (.baload, 1) := by decide +kernel
theorem dX10_compareTurns_38 : decode cX10_compareTurns 38 = .ok (.istore 7, 2) := by decide +kernel
theorem dX10_compareTurns_40 : decode cX10_compareTurns 40 = .ok (.iload 6, 2) := by decide +kernel
theorem dX10_compareTurns_42 : decode cX10_compareTurns 42 = .ok (.iload 7, 2) := by decide +kernel
theorem dX10_compareTurns_44 : decode cX10_compareTurns 44 = .ok (.if_icmp .eq 9, 3) := by decide +kernel
theorem dX10_compareTurns_53 : decode cX10_compareTurns 53 = .ok (.iinc 5 1, 3) := by decide +kernel
theorem dX10_compareTurns_56 : decode cX10_compareTurns 56 = .ok (.goto (-53), 3) := by decide +kernel
theorem dX10_compareTurns_47 : decode cX10_compareTurns 47 = .ok (.iload 6, 2) := by decide +kernel
theorem dX10_compareTurns_49 : decode cX10_compareTurns 49 = .ok (.iload 7, 2) := by decide +kernel
theorem dX10_compareTurns_51 : decode cX10_compareTurns 51 = .ok (.isub, 1) := by decide +kernel
theorem dX10_compareTurns_52 : decode cX10_compareTurns 52 = .ok (.ireturn, 1) := by decide +kernel
theorem dX10_compareTurns_59 : decode cX10_compareTurns 59 = .ok (.iconst 0, 1) := by decide +kernel
theorem dX10_compareTurns_60 : decode cX10_compareTurns 60 = .ok (.ireturn, 1) := by decide +kernel
theorem dX10_turn_55 : decode cX10_turn 55 = .ok (.ifCond .ge 8, 3) := by decide +kernel
theorem dX10_turn_63 : decode cX10_turn 63 = .ok (.iload 5, 2) := by decide +kernel
theorem dX10_turn_65 : decode cX10_turn 65 = .ok (.istore 5, 2) := by decide +kernel
theorem dX10_turn_67 : decode cX10_turn 67 = .ok (.iinc 6 1, 3) := by decide +kernel
theorem dX10_turn_70 : decode cX10_turn 70 = .ok (.goto (-45), 3) := by decide +kernel
theorem dX10_turn_58 : decode cX10_turn 58 = .ok (.iload 7, 2) := by decide +kernel
theorem dX10_turn_60 : decode cX10_turn 60 = .ok (.goto 5, 3) := by decide +kernel
theorem dX10_turn_73 : decode cX10_turn 73 = .ok (.iconst 0, 1) := by decide +kernel
theorem dX10_turn_74 : decode cX10_turn 74 = .ok (.istore 6, 2) := by decide +kernel
theorem dX10_turn_76 : decode cX10_turn 76 = .ok (.iload 6, 2) := by decide +kernel
theorem dX10_turn_78 : decode cX10_turn 78 = .ok (.iload 4, 2) := by decide +kernel
theorem dX10_turn_80 : decode cX10_turn 80 = .ok (.if_icmp .ge 33, 3) := by decide +kernel
theorem dX10_turn_83 : decode cX10_turn 83 = .ok (.aload_n 0, 1) := by decide +kernel
theorem dX10_turn_84 : decode cX10_turn 84 = .ok (.getfield 15, 3) := by decide +kernel
theorem dX10_turn_87 : decode cX10_turn 87 = .ok (.iload_n 3, 1) := by decide +kernel
theorem dX10_turn_88 : decode cX10_turn 88 = .ok (.iload 6, 2) := by decide +kernel
theorem dX10_turn_90 : decode cX10_turn 90 = .ok (.iadd, 1) := by decide +kernel
theorem dX10_turn_91 : decode cX10_turn 91 = .ok (.aload_n 0, 1) := by decide +kernel
theorem dX10_turn_92 : decode cX10_turn 92 = .ok (.getfield 9, 3) := by decide +kernel
theorem dX10_turn_95 : decode cX10_turn 95 = .ok (.iload_n 3, 1) := by decide +kernel
theorem dX10_turn_96 : decode cX10_turn 96 = .ok (.iload 5, 2) := by decide +kernel
theorem dX10_turn_98 : decode cX10_turn 98 = .ok (.iload 6, 2) := by decide +kernel
theorem dX10_turn_100 : decode cX10_turn 100 = .ok (.iadd, 1) := by decide +kernel
theorem dX10_turn_101 : decode cX10_turn 101 = .ok (.iload 4, 2) := by decide +kernel
theorem dX10_turn_103 : decode cX10_turn 103 = .ok (.irem, 1) := by decide +kernel
theorem dX10_turn_104 : decode cX10_turn 104 = .ok (.iadd, 1) := by decide +kernel
theorem dX10_turn_105 : decode cX10_turn 105 = .ok (.baload, 1) := by decide +kernel
theorem dX10_turn_106 : decode cX10_turn 106 = .ok (.bastore, 1) := by decide +kernel
theorem dX10_turn_107 : decode cX10_turn 107 = .ok (.iinc 6 1, 3) := by decide +kernel
theorem dX10_turn_110 : decode cX10_turn 110 = .ok (.goto (-34), 3) := by decide +kernel
theorem dX10_turn_113 : decode cX10_turn 113 = .ok (.aload_n 0, 1) := by decide +kernel
theorem dX10_turn_114 : decode cX10_turn 114 = .ok (.iload_n 1, 1) := by decide +kernel
theorem dX10_turn_115 : decode cX10_turn 115 = .ok (.iload_n 2, 1) := by decide +kernel
theorem dX10_turn_116 : decode cX10_turn 116 = .ok (.invokevirtual 136, 3) := by decide +kernel
theorem dX10_turn_119 : decode cX10_turn 119 = .ok (.return_, 1) := by decide +kernel
theorem dX10_close_72 : decode cX10_close 72 = .ok (.iload_n 3, 1) := by decide +kernel
theorem dX10_close_73 : decode cX10_close 73 = .ok (.iload 4, 2) := by decide +kernel
theorem dX10_close_75 : decode cX10_close 75 = .ok (.if_icmp .ne 15, 3) := by decide +kernel
theorem dX10_goOn_24 : decode cX10_goOn 24 = .ok (.aload_n 0, 1) := by decide +kernel
theorem dX10_goOn_25 : decode cX10_goOn 25 = .ok (.dup, 1) := by decide +kernel
theorem dX10_goOn_26 : decode cX10_goOn 26 = .ok (.getfield 22, 3) := by decide +kernel
theorem dX10_goOn_29 : decode cX10_goOn 29 = .ok (.iconst 1, 1) := by decide +kernel
theorem dX10_goOn_30 : decode cX10_goOn 30 = .ok (.iadd, 1) := by decide +kernel
theorem dX10_goOn_31 : decode cX10_goOn 31 = .ok (.putfield 22, 3) := by decide +kernel
theorem dX10_goOn_34 : decode cX10_goOn 34 = .ok (.goto 77, 3) := by decide +kernel
theorem dX10_read_129 : decode cX10_read 129 = .ok (.goto 9, 3) := by decide +kernel
theorem dX10_read_144 : decode cX10_read 144 = .ok (.aload_n 0, 1) := by decide +kernel
theorem dX10_read_145 : decode cX10_read 145 = .ok (.getfield 28, 3) := by decide +kernel
theorem dX10_read_148 : decode cX10_read 148 = .ok (.ifCond .eq 28, 3) := by decide +kernel
theorem dX10_read_176 : decode cX10_read 176 = .ok (.iconst (-1), 1) := by decide +kernel
theorem dX10_read_177 : decode cX10_read 177 = .ok (.ireturn, 1) := by decide +kernel
theorem dX10_read_151 : decode cX10_read 151 = .ok (.aload_n 0, 1) := by decide +kernel
theorem dX10_read_152 : decode cX10_read 152 = .ok (.getfield 36, 3) := by decide +kernel
theorem dX10_read_155 : decode cX10_read 155 = .ok (.ifCond .ne 21, 3) := by decide +kernel
theorem dX10_read_158 : decode cX10_read 158 = .ok (.aload_n 0, 1) := by decide +kernel
theorem dX10_read_159 : decode cX10_read 159 = .ok (.getfield 22, 3) := by decide +kernel
theorem dX10_read_162 : decode cX10_read 162 = .ok (.aload_n 0, 1) := by decide +kernel
theorem dX10_read_163 : decode cX10_read 163 = .ok (.getfield 18, 3) := by decide +kernel
theorem dX10_read_166 : decode cX10_read 166 = .ok (.if_icmp .ne 10, 3) := by decide +kernel
theorem dX10_read_169 : decode cX10_read 169 = .ok (.aload_n 0, 1) := by decide +kernel
theorem dX10_read_170 : decode cX10_read 170 = .ok (.getfield 25, 3) := by decide +kernel
theorem dX10_read_173 : decode cX10_read 173 = .ok (.goto 4, 3) := by decide +kernel
theorem dX10_holds_0 : decode cX10_holds 0 = .ok (.iconst 0, 1) := by decide +kernel
theorem dX10_holds_1 : decode cX10_holds 1 = .ok (.istore_n 3, 1) := by decide +kernel
theorem dX10_holds_2 : decode cX10_holds 2 = .ok (.iload_n 3, 1) := by decide +kernel
theorem dX10_holds_3 : decode cX10_holds 3 = .ok (.iload_n 2, 1) := by decide +kernel
theorem dX10_holds_4 : decode cX10_holds 4 = .ok (.if_icmp .ge 35, 3) := by decide +kernel
theorem dX10_holds_7 : decode cX10_holds 7 = .ok (.iload_n 3, 1) := by decide +kernel
theorem dX10_holds_8 : decode cX10_holds 8 = .ok (.bipush 40, 2) := by decide +kernel
theorem dX10_holds_10 : decode cX10_holds 10 = .ok (.if_icmp .ge 29, 3) := by decide +kernel
theorem dX10_holds_13 : decode cX10_holds 13 = .ok (.iload_n 3, 1) := by decide +kernel
theorem dX10_holds_14 : decode cX10_holds 14 = .ok (.aload_n 1, 1) := by decide +kernel
theorem dX10_holds_15 : decode cX10_holds 15 = .ok (.arraylength, 1) := by decide +kernel
theorem dX10_holds_16 : decode cX10_holds 16 = .ok (.if_icmp .ge 23, 3) := by decide +kernel
theorem dX10_holds_19 : decode cX10_holds 19 = .ok (.aload_n 0, 1) := by decide +kernel
theorem dX10_holds_20 : decode cX10_holds 20 = .ok (.getfield 9, 3) := by decide +kernel
theorem dX10_holds_23 : decode cX10_holds 23 = .ok (.iload_n 3, 1) := by decide +kernel
theorem dX10_holds_24 : decode cX10_holds 24 = .ok (.baload, 1) := by decide +kernel
theorem dX10_holds_25 : decode cX10_holds 25 = .ok (.aload_n 1, 1) := by decide +kernel
theorem dX10_holds_26 : decode cX10_holds 26 = .ok (.iload_n 3, 1) := by decide +kernel
theorem dX10_holds_27 : decode cX10_holds 27 = .ok (.baload, 1) := by decide +kernel
theorem dX10_holds_28 : decode cX10_holds 28 = .ok (.if_icmp .eq 5, 3) := by decide +kernel
theorem dX10_holds_33 : decode cX10_holds 33 = .ok (.iinc 3 1, 3) := by decide +kernel
theorem dX10_holds_36 : decode cX10_holds 36 = .ok (.goto (-34), 3) := by decide +kernel
theorem dX10_holds_31 : decode cX10_holds 31 = .ok (.iconst 0, 1) := by decide +kernel
theorem dX10_holds_32 : decode cX10_holds 32 = .ok (.ireturn, 1) := by decide +kernel
theorem dX10_holds_39 : decode cX10_holds 39 = .ok (.iconst 1, 1) := by decide +kernel
theorem dX10_holds_40 : decode cX10_holds 40 = .ok (.ireturn, 1) := by decide +kernel
theorem dX7_begin_0 : decode cX7_begin 0 = .ok (.aload_n 0, 1) := by decide +kernel
theorem dX7_begin_1 : decode cX7_begin 1 = .ok (.dup, 1) := by decide +kernel
theorem dX7_begin_2 : decode cX7_begin 2 = .ok (.getfield 9, 3) := by decide +kernel
theorem dX7_begin_5 : decode cX7_begin 5 = .ok (.lconst 1, 1) := by decide +kernel
theorem dX7_begin_6 : decode cX7_begin 6 = .ok (.iload_n 1, 1) := by decide +kernel
theorem dX7_begin_7 : decode cX7_begin 7 = .ok (.lshl, 1) := by decide +kernel
theorem dX7_begin_8 : decode cX7_begin 8 = .ok (.lor, 1) := by decide +kernel
theorem dX7_begin_9 : decode cX7_begin 9 = .ok (.putfield 9, 3) := by decide +kernel
theorem dX7_begin_12 : decode cX7_begin 12 = .ok (.aload_n 0, 1) := by decide +kernel
theorem dX7_begin_13 : decode cX7_begin 13 = .ok (.iconst (-1), 1) := by decide +kernel
theorem dX7_begin_14 : decode cX7_begin 14 = .ok (.putfield 28, 3) := by decide +kernel
theorem dX7_begin_17 : decode cX7_begin 17 = .ok (.aload_n 0, 1) := by decide +kernel
theorem dX7_begin_18 : decode cX7_begin 18 = .ok (.iconst (-1), 1) := by decide +kernel
theorem dX7_begin_19 : decode cX7_begin 19 = .ok (.putfield 32, 3) := by decide +kernel
theorem dX7_begin_22 : decode cX7_begin 22 = .ok (.aload_n 0, 1) := by decide +kernel
theorem dX7_begin_23 : decode cX7_begin 23 = .ok (.getfield 35, 3) := by decide +kernel
theorem dX7_begin_26 : decode cX7_begin 26 = .ok (.iconst (-1), 1) := by decide +kernel
theorem dX7_begin_27 : decode cX7_begin 27 = .ok (.invokestatic 42, 3) := by decide +kernel
theorem wm_1550 : (Jvm.Cond.methodLink "GrownKinds$Roll" (42 : Nat) ({ cls := "java/util/Arrays", name := "fill", desc := "([II)V" } : Jvm.MethodName)) ∈ gT := gT_in (List.mem_of_getElem? (i := 1550) (by decide +kernel)) (by decide +kernel)
theorem dX7_begin_30 : decode cX7_begin 30 = .ok (.aload_n 0, 1) := by decide +kernel
theorem dX7_begin_31 : decode cX7_begin 31 = .ok (.getfield 25, 3) := by decide +kernel
theorem dX7_begin_34 : decode cX7_begin 34 = .ok (.iload_n 1, 1) := by decide +kernel
theorem dX7_begin_35 : decode cX7_begin 35 = .ok (.bipush 26, 2) := by decide +kernel
theorem dX7_begin_37 : decode cX7_begin 37 = .ok (.imul, 1) := by decide +kernel
theorem dX7_begin_38 : decode cX7_begin 38 = .ok (.iload_n 1, 1) := by decide +kernel
theorem dX7_begin_39 : decode cX7_begin 39 = .ok (.bipush 26, 2) := by decide +kernel
theorem dX7_begin_41 : decode cX7_begin 41 = .ok (.imul, 1) := by decide +kernel
theorem dX7_begin_42 : decode cX7_begin 42 = .ok (.bipush 26, 2) := by decide +kernel
theorem dX7_begin_44 : decode cX7_begin 44 = .ok (.iadd, 1) := by decide +kernel
theorem dX7_begin_45 : decode cX7_begin 45 = .ok (.iconst 0, 1) := by decide +kernel
theorem dX7_begin_46 : decode cX7_begin 46 = .ok (.invokestatic 48, 3) := by decide +kernel
theorem wm_1551 : (Jvm.Cond.methodLink "GrownKinds$Roll" (48 : Nat) ({ cls := "java/util/Arrays", name := "fill", desc := "([IIII)V" } : Jvm.MethodName)) ∈ gT := gT_in (List.mem_of_getElem? (i := 1551) (by decide +kernel)) (by decide +kernel)
theorem wm_1552 : (Jvm.Cond.static ({ cls := "java/util/Arrays", name := "fill", desc := "([IIII)V" } : Jvm.MethodName)) ∈ gT := gT_in (List.mem_of_getElem? (i := 1552) (by decide +kernel)) (by decide +kernel)
theorem wm_1553 : (Jvm.Cond.code ({ cls := "java/util/Arrays", name := "fill", desc := "([IIII)V" } : Jvm.MethodName) prog_22_method_104_code (5 : Nat) (Option.none : Option Jvm.ClassFile.FieldType)) ∈ gT := gT_in (List.mem_of_getElem? (i := 1553) (by decide +kernel)) (by decide +kernel)
theorem dJ7_fill_fda19_0 : decode cJ7_fill_fda19 0 = .ok (.aload_n 0, 1) := by decide +kernel
theorem dJ7_fill_fda19_1 : decode cJ7_fill_fda19 1 = .ok (.arraylength, 1) := by decide +kernel
theorem dJ7_fill_fda19_2 : decode cJ7_fill_fda19 2 = .ok (.iload_n 1, 1) := by decide +kernel
theorem dJ7_fill_fda19_3 : decode cJ7_fill_fda19 3 = .ok (.iload_n 2, 1) := by decide +kernel
theorem dJ7_fill_fda19_4 : decode cJ7_fill_fda19 4 = .ok (.invokestatic 13, 3) := by decide +kernel
theorem wm_1554 : (Jvm.Cond.methodLink "java/util/Arrays" (13 : Nat) ({ cls := "java/util/Arrays", name := "rangeCheck", desc := "(III)V" } : Jvm.MethodName)) ∈ gT := gT_in (List.mem_of_getElem? (i := 1554) (by decide +kernel)) (by decide +kernel)
theorem wm_1555 : (Jvm.Cond.static ({ cls := "java/util/Arrays", name := "rangeCheck", desc := "(III)V" } : Jvm.MethodName)) ∈ gT := gT_in (List.mem_of_getElem? (i := 1555) (by decide +kernel)) (by decide +kernel)
theorem wm_1556 : (Jvm.Cond.code ({ cls := "java/util/Arrays", name := "rangeCheck", desc := "(III)V" } : Jvm.MethodName) prog_22_method_30_code (3 : Nat) (Option.none : Option Jvm.ClassFile.FieldType)) ∈ gT := gT_in (List.mem_of_getElem? (i := 1556) (by decide +kernel)) (by decide +kernel)
theorem dJ7_rangeCheck_23922_0 : decode cJ7_rangeCheck_23922 0 = .ok (.iload_n 1, 1) := by decide +kernel
theorem dJ7_rangeCheck_23922_1 : decode cJ7_rangeCheck_23922 1 = .ok (.iload_n 2, 1) := by decide +kernel
theorem dJ7_rangeCheck_23922_2 : decode cJ7_rangeCheck_23922 2 = .ok (.if_icmp .le 44, 3) := by decide +kernel
theorem dJ7_rangeCheck_23922_46 : decode cJ7_rangeCheck_23922 46 = .ok (.iload_n 1, 1) := by decide +kernel
theorem dJ7_rangeCheck_23922_47 : decode cJ7_rangeCheck_23922 47 = .ok (.ifCond .ge 12, 3) := by decide +kernel
theorem dJ7_rangeCheck_23922_59 : decode cJ7_rangeCheck_23922 59 = .ok (.iload_n 2, 1) := by decide +kernel
theorem dJ7_rangeCheck_23922_60 : decode cJ7_rangeCheck_23922 60 = .ok (.iload_n 0, 1) := by decide +kernel
theorem dJ7_rangeCheck_23922_61 : decode cJ7_rangeCheck_23922 61 = .ok (.if_icmp .le 12, 3) := by decide +kernel
theorem dJ7_rangeCheck_23922_73 : decode cJ7_rangeCheck_23922 73 = .ok (.return_, 1) := by decide +kernel
theorem dJ7_fill_fda19_7 : decode cJ7_fill_fda19 7 = .ok (.iload_n 1, 1) := by decide +kernel
theorem dJ7_fill_fda19_8 : decode cJ7_fill_fda19 8 = .ok (.istore 4, 2) := by decide +kernel
theorem dJ7_fill_fda19_10 : decode cJ7_fill_fda19 10 = .ok (.iload 4, 2) := by decide +kernel
theorem dJ7_fill_fda19_12 : decode cJ7_fill_fda19 12 = .ok (.iload_n 2, 1) := by decide +kernel
theorem dJ7_fill_fda19_13 : decode cJ7_fill_fda19 13 = .ok (.if_icmp .ge 14, 3) := by decide +kernel
theorem dJ7_fill_fda19_16 : decode cJ7_fill_fda19 16 = .ok (.aload_n 0, 1) := by decide +kernel
theorem dJ7_fill_fda19_17 : decode cJ7_fill_fda19 17 = .ok (.iload 4, 2) := by decide +kernel
theorem dJ7_fill_fda19_19 : decode cJ7_fill_fda19 19 = .ok (.iload_n 3, 1) := by decide +kernel
theorem dJ7_fill_fda19_20 : decode cJ7_fill_fda19 20 = .ok (.iastore, 1) := by decide +kernel
theorem dJ7_fill_fda19_21 : decode cJ7_fill_fda19 21 = .ok (.iinc 4 1, 3) := by decide +kernel
theorem dJ7_fill_fda19_24 : decode cJ7_fill_fda19 24 = .ok (.goto (-14), 3) := by decide +kernel
theorem dJ7_fill_fda19_27 : decode cJ7_fill_fda19 27 = .ok (.return_, 1) := by decide +kernel
theorem dX7_begin_49 : decode cX7_begin 49 = .ok (.return_, 1) := by decide +kernel
theorem dX7_note_0 : decode cX7_note 0 = .ok (.aload_n 0, 1) := by decide +kernel
theorem dX7_note_1 : decode cX7_note 1 = .ok (.getfield 38, 3) := by decide +kernel
theorem dX7_note_4 : decode cX7_note 4 = .ok (.getfield 51, 3) := by decide +kernel
theorem wm_503 : (Jvm.Cond.fieldLink "GrownKinds$Roll" (51 : Nat) "GrownKinds$Speller" "depth" "I") ∈ gT := gT_in (List.mem_of_getElem? (i := 503) (by decide +kernel)) (by decide +kernel)
theorem dX7_note_7 : decode cX7_note 7 = .ok (.aload_n 0, 1) := by decide +kernel
theorem dX7_note_8 : decode cX7_note 8 = .ok (.getfield 28, 3) := by decide +kernel
theorem dX7_note_11 : decode cX7_note 11 = .ok (.if_icmp .le 21, 3) := by decide +kernel
theorem dX7_note_14 : decode cX7_note 14 = .ok (.aload_n 0, 1) := by decide +kernel
theorem dX7_note_15 : decode cX7_note 15 = .ok (.aload_n 0, 1) := by decide +kernel
theorem dX7_note_16 : decode cX7_note 16 = .ok (.getfield 38, 3) := by decide +kernel
theorem dX7_note_19 : decode cX7_note 19 = .ok (.getfield 51, 3) := by decide +kernel
theorem dX7_note_22 : decode cX7_note 22 = .ok (.putfield 28, 3) := by decide +kernel
theorem dX7_note_25 : decode cX7_note 25 = .ok (.aload_n 0, 1) := by decide +kernel
theorem dX7_note_26 : decode cX7_note 26 = .ok (.getfield 15, 3) := by decide +kernel
theorem dX7_note_29 : decode cX7_note 29 = .ok (.iload_n 1, 1) := by decide +kernel
theorem dX7_note_30 : decode cX7_note 30 = .ok (.iload_n 2, 1) := by decide +kernel
theorem dX7_note_31 : decode cX7_note 31 = .ok (.iastore, 1) := by decide +kernel
theorem dX7_note_32 : decode cX7_note 32 = .ok (.aload_n 0, 1) := by decide +kernel
theorem dX7_note_33 : decode cX7_note 33 = .ok (.getfield 38, 3) := by decide +kernel
theorem dX7_note_36 : decode cX7_note 36 = .ok (.getfield 56, 3) := by decide +kernel
theorem wm_506 : (Jvm.Cond.fieldLink "GrownKinds$Roll" (56 : Nat) "GrownKinds$Speller" "turns" "I") ∈ gT := gT_in (List.mem_of_getElem? (i := 506) (by decide +kernel)) (by decide +kernel)
theorem dX7_note_39 : decode cX7_note 39 = .ok (.aload_n 0, 1) := by decide +kernel
theorem dX7_note_40 : decode cX7_note 40 = .ok (.getfield 32, 3) := by decide +kernel
theorem dX7_note_43 : decode cX7_note 43 = .ok (.if_icmp .le 21, 3) := by decide +kernel
theorem dX7_note_46 : decode cX7_note 46 = .ok (.aload_n 0, 1) := by decide +kernel
theorem dX7_note_47 : decode cX7_note 47 = .ok (.aload_n 0, 1) := by decide +kernel
theorem dX7_note_48 : decode cX7_note 48 = .ok (.getfield 38, 3) := by decide +kernel
theorem dX7_note_51 : decode cX7_note 51 = .ok (.getfield 56, 3) := by decide +kernel
theorem dX7_note_54 : decode cX7_note 54 = .ok (.putfield 32, 3) := by decide +kernel
theorem dX7_note_57 : decode cX7_note 57 = .ok (.aload_n 0, 1) := by decide +kernel
theorem dX7_note_58 : decode cX7_note 58 = .ok (.getfield 19, 3) := by decide +kernel
theorem dX7_note_61 : decode cX7_note 61 = .ok (.iload_n 1, 1) := by decide +kernel
theorem dX7_note_62 : decode cX7_note 62 = .ok (.iload_n 2, 1) := by decide +kernel
theorem dX7_note_63 : decode cX7_note 63 = .ok (.iastore, 1) := by decide +kernel
theorem dX7_note_64 : decode cX7_note 64 = .ok (.aload_n 0, 1) := by decide +kernel
theorem dX7_note_65 : decode cX7_note 65 = .ok (.iload_n 1, 1) := by decide +kernel
theorem dX7_note_66 : decode cX7_note 66 = .ok (.bipush 26, 2) := by decide +kernel
theorem dX7_note_68 : decode cX7_note 68 = .ok (.imul, 1) := by decide +kernel
theorem dX7_note_69 : decode cX7_note 69 = .ok (.iload_n 2, 1) := by decide +kernel
theorem dX7_note_70 : decode cX7_note 70 = .ok (.invokevirtual 59, 3) := by decide +kernel
theorem wm_1561 : (Jvm.Cond.methodLink "GrownKinds$Roll" (59 : Nat) ({ cls := "GrownKinds$Roll", name := "countAtoms", desc := "(II)V" } : Jvm.MethodName)) ∈ gT := gT_in (List.mem_of_getElem? (i := 1561) (by decide +kernel)) (by decide +kernel)
theorem wm_1563 : (Jvm.Cond.instanceMethod ({ cls := "GrownKinds$Roll", name := "countAtoms", desc := "(II)V" } : Jvm.MethodName)) ∈ gT := gT_in (List.mem_of_getElem? (i := 1563) (by decide +kernel)) (by decide +kernel)
theorem wm_84 : Cond.selects "GrownKinds$Roll" ⟨"GrownKinds$Roll", "countAtoms", "(II)V"⟩ ⟨"GrownKinds$Roll", "countAtoms", "(II)V"⟩ ∈ gT := gT_in (List.mem_of_getElem? (i := 84) (by decide +kernel)) (by decide +kernel)
theorem wm_1564 : (Jvm.Cond.code ({ cls := "GrownKinds$Roll", name := "countAtoms", desc := "(II)V" } : Jvm.MethodName) prog_9_method_6_code (5 : Nat) (Option.none : Option Jvm.ClassFile.FieldType)) ∈ gT := gT_in (List.mem_of_getElem? (i := 1564) (by decide +kernel)) (by decide +kernel)
theorem dX7_countAtoms_0 : decode cX7_countAtoms 0 = .ok (.iconst 0, 1) := by decide +kernel
theorem dX7_countAtoms_1 : decode cX7_countAtoms 1 = .ok (.istore_n 3, 1) := by decide +kernel
theorem dX7_countAtoms_2 : decode cX7_countAtoms 2 = .ok (.iload_n 3, 1) := by decide +kernel
theorem dX7_countAtoms_3 : decode cX7_countAtoms 3 = .ok (.bipush 26, 2) := by decide +kernel
theorem dX7_countAtoms_5 : decode cX7_countAtoms 5 = .ok (.if_icmp .ge 61, 3) := by decide +kernel
theorem dX7_countAtoms_8 : decode cX7_countAtoms 8 = .ok (.aload_n 0, 1) := by decide +kernel
theorem dX7_countAtoms_9 : decode cX7_countAtoms 9 = .ok (.getfield 38, 3) := by decide +kernel
theorem dX7_countAtoms_12 : decode cX7_countAtoms 12 = .ok (.getfield 63, 3) := by decide +kernel
theorem wm_513 : (Jvm.Cond.fieldLink "GrownKinds$Roll" (63 : Nat) "GrownKinds$Speller" "atomCounts" "[I") ∈ gT := gT_in (List.mem_of_getElem? (i := 513) (by decide +kernel)) (by decide +kernel)
theorem dX7_countAtoms_15 : decode cX7_countAtoms 15 = .ok (.iload_n 3, 1) := by decide +kernel
theorem dX7_countAtoms_16 : decode cX7_countAtoms 16 = .ok (.iaload, 1) := by decide +kernel
theorem dX7_countAtoms_17 : decode cX7_countAtoms 17 = .ok (.istore 4, 2) := by decide +kernel
theorem dX7_countAtoms_19 : decode cX7_countAtoms 19 = .ok (.aload_n 0, 1) := by decide +kernel
theorem dX7_countAtoms_20 : decode cX7_countAtoms 20 = .ok (.getfield 25, 3) := by decide +kernel
theorem dX7_countAtoms_23 : decode cX7_countAtoms 23 = .ok (.iload_n 1, 1) := by decide +kernel
theorem dX7_countAtoms_24 : decode cX7_countAtoms 24 = .ok (.iload_n 3, 1) := by decide +kernel
theorem dX7_countAtoms_25 : decode cX7_countAtoms 25 = .ok (.iadd, 1) := by decide +kernel
theorem dX7_countAtoms_26 : decode cX7_countAtoms 26 = .ok (.dup2, 1) := by decide +kernel
theorem dX7_countAtoms_27 : decode cX7_countAtoms 27 = .ok (.iaload, 1) := by decide +kernel
theorem dX7_countAtoms_28 : decode cX7_countAtoms 28 = .ok (.iload 4, 2) := by decide +kernel
theorem dX7_countAtoms_30 : decode cX7_countAtoms 30 = .ok (.iadd, 1) := by decide +kernel
theorem dX7_countAtoms_31 : decode cX7_countAtoms 31 = .ok (.iastore, 1) := by decide +kernel
theorem dX7_countAtoms_32 : decode cX7_countAtoms 32 = .ok (.iload 4, 2) := by decide +kernel
theorem dX7_countAtoms_34 : decode cX7_countAtoms 34 = .ok (.aload_n 0, 1) := by decide +kernel
theorem dX7_countAtoms_35 : decode cX7_countAtoms 35 = .ok (.getfield 35, 3) := by decide +kernel
theorem dX7_countAtoms_38 : decode cX7_countAtoms 38 = .ok (.iload_n 3, 1) := by decide +kernel
theorem dX7_countAtoms_39 : decode cX7_countAtoms 39 = .ok (.iaload, 1) := by decide +kernel
theorem dX7_countAtoms_40 : decode cX7_countAtoms 40 = .ok (.if_icmp .le 20, 3) := by decide +kernel
theorem dX7_countAtoms_60 : decode cX7_countAtoms 60 = .ok (.iinc 3 1, 3) := by decide +kernel
theorem dX7_countAtoms_63 : decode cX7_countAtoms 63 = .ok (.goto (-61), 3) := by decide +kernel
theorem dX7_countAtoms_43 : decode cX7_countAtoms 43 = .ok (.aload_n 0, 1) := by decide +kernel
theorem dX7_countAtoms_44 : decode cX7_countAtoms 44 = .ok (.getfield 35, 3) := by decide +kernel
theorem dX7_countAtoms_47 : decode cX7_countAtoms 47 = .ok (.iload_n 3, 1) := by decide +kernel
theorem dX7_countAtoms_48 : decode cX7_countAtoms 48 = .ok (.iload 4, 2) := by decide +kernel
theorem dX7_countAtoms_50 : decode cX7_countAtoms 50 = .ok (.iastore, 1) := by decide +kernel
theorem dX7_countAtoms_51 : decode cX7_countAtoms 51 = .ok (.aload_n 0, 1) := by decide +kernel
theorem dX7_countAtoms_52 : decode cX7_countAtoms 52 = .ok (.getfield 22, 3) := by decide +kernel
theorem dX7_countAtoms_55 : decode cX7_countAtoms 55 = .ok (.iload_n 1, 1) := by decide +kernel
theorem dX7_countAtoms_56 : decode cX7_countAtoms 56 = .ok (.iload_n 3, 1) := by decide +kernel
theorem dX7_countAtoms_57 : decode cX7_countAtoms 57 = .ok (.iadd, 1) := by decide +kernel
theorem dX7_countAtoms_58 : decode cX7_countAtoms 58 = .ok (.iload_n 2, 1) := by decide +kernel
theorem dX7_countAtoms_59 : decode cX7_countAtoms 59 = .ok (.iastore, 1) := by decide +kernel
theorem dX7_countAtoms_66 : decode cX7_countAtoms 66 = .ok (.return_, 1) := by decide +kernel
theorem dX7_note_73 : decode cX7_note 73 = .ok (.return_, 1) := by decide +kernel
theorem dX9_push_0 : decode cX9_push 0 = .ok (.aload_n 0, 1) := by decide +kernel
theorem dX9_push_1 : decode cX9_push 1 = .ok (.getfield 41, 3) := by decide +kernel
theorem dX9_push_4 : decode cX9_push 4 = .ok (.sipush 1100, 3) := by decide +kernel
theorem dX9_push_7 : decode cX9_push 7 = .ok (.if_icmp .ge 23, 3) := by decide +kernel
theorem dX9_push_30 : decode cX9_push 30 = .ok (.return_, 1) := by decide +kernel
theorem dX9_push_10 : decode cX9_push 10 = .ok (.aload_n 0, 1) := by decide +kernel
theorem dX9_push_11 : decode cX9_push 11 = .ok (.getfield 38, 3) := by decide +kernel
theorem dX9_push_14 : decode cX9_push 14 = .ok (.aload_n 0, 1) := by decide +kernel
theorem dX9_push_15 : decode cX9_push 15 = .ok (.getfield 41, 3) := by decide +kernel
theorem dX9_push_18 : decode cX9_push 18 = .ok (.iload_n 1, 1) := by decide +kernel
theorem dX9_push_19 : decode cX9_push 19 = .ok (.iastore, 1) := by decide +kernel
theorem dX9_push_20 : decode cX9_push 20 = .ok (.aload_n 0, 1) := by decide +kernel
theorem dX9_push_21 : decode cX9_push 21 = .ok (.dup, 1) := by decide +kernel
theorem dX9_push_22 : decode cX9_push 22 = .ok (.getfield 41, 3) := by decide +kernel
theorem dX9_push_25 : decode cX9_push 25 = .ok (.iconst 1, 1) := by decide +kernel
theorem dX9_push_26 : decode cX9_push 26 = .ok (.iadd, 1) := by decide +kernel
theorem dX9_push_27 : decode cX9_push 27 = .ok (.putfield 41, 3) := by decide +kernel
theorem dX9_pushTerm_0 : decode cX9_pushTerm 0 = .ok (.iconst 0, 1) := by decide +kernel
theorem dX9_pushTerm_1 : decode cX9_pushTerm 1 = .ok (.istore 5, 2) := by decide +kernel
theorem dX9_pushTerm_3 : decode cX9_pushTerm 3 = .ok (.iload_n 1, 1) := by decide +kernel
theorem dX9_pushTerm_4 : decode cX9_pushTerm 4 = .ok (.istore 6, 2) := by decide +kernel
theorem dX9_pushTerm_6 : decode cX9_pushTerm 6 = .ok (.iload 6, 2) := by decide +kernel
theorem dX9_pushTerm_8 : decode cX9_pushTerm 8 = .ok (.iconst (-1), 1) := by decide +kernel
theorem dX9_pushTerm_9 : decode cX9_pushTerm 9 = .ok (.if_icmp .eq 28, 3) := by decide +kernel
theorem dX9_pushTerm_12 : decode cX9_pushTerm 12 = .ok (.iload 5, 2) := by decide +kernel
theorem dX9_pushTerm_14 : decode cX9_pushTerm 14 = .ok (.bipush 24, 2) := by decide +kernel
theorem dX9_pushTerm_16 : decode cX9_pushTerm 16 = .ok (.if_icmp .ge 21, 3) := by decide +kernel
theorem dX9_pushTerm_19 : decode cX9_pushTerm 19 = .ok (.iinc 5 1, 3) := by decide +kernel
theorem dX9_pushTerm_22 : decode cX9_pushTerm 22 = .ok (.aload_n 0, 1) := by decide +kernel
theorem dX9_pushTerm_23 : decode cX9_pushTerm 23 = .ok (.getfield 50, 3) := by decide +kernel
theorem dX9_pushTerm_26 : decode cX9_pushTerm 26 = .ok (.getfield 109, 3) := by decide +kernel
theorem wm_256 : (Jvm.Cond.fieldLink "GrownKinds$Speller" (109 : Nat) "GrownKinds$Grammar" "next" "[I") ∈ gT := gT_in (List.mem_of_getElem? (i := 256) (by decide +kernel)) (by decide +kernel)
theorem dX9_pushTerm_29 : decode cX9_pushTerm 29 = .ok (.iload 6, 2) := by decide +kernel
theorem dX9_pushTerm_31 : decode cX9_pushTerm 31 = .ok (.iaload, 1) := by decide +kernel
theorem dX9_pushTerm_32 : decode cX9_pushTerm 32 = .ok (.istore 6, 2) := by decide +kernel
theorem dX9_pushTerm_34 : decode cX9_pushTerm 34 = .ok (.goto (-28), 3) := by decide +kernel
theorem dX9_pushTerm_37 : decode cX9_pushTerm 37 = .ok (.aload_n 0, 1) := by decide +kernel
theorem dX9_pushTerm_38 : decode cX9_pushTerm 38 = .ok (.getfield 41, 3) := by decide +kernel
theorem dX9_pushTerm_41 : decode cX9_pushTerm 41 = .ok (.iload 5, 2) := by decide +kernel
theorem dX9_pushTerm_43 : decode cX9_pushTerm 43 = .ok (.iadd, 1) := by decide +kernel
theorem dX9_pushTerm_44 : decode cX9_pushTerm 44 = .ok (.sipush 1100, 3) := by decide +kernel
theorem dX9_pushTerm_47 : decode cX9_pushTerm 47 = .ok (.if_icmp .le 4, 3) := by decide +kernel
theorem dX9_pushTerm_51 : decode cX9_pushTerm 51 = .ok (.iload_n 2, 1) := by decide +kernel
theorem dX9_pushTerm_52 : decode cX9_pushTerm 52 = .ok (.istore 6, 2) := by decide +kernel
theorem dX9_pushTerm_54 : decode cX9_pushTerm 54 = .ok (.lload_n 3, 1) := by decide +kernel
theorem dX9_pushTerm_55 : decode cX9_pushTerm 55 = .ok (.lstore 7, 2) := by decide +kernel
theorem dX9_pushTerm_57 : decode cX9_pushTerm 57 = .ok (.iload_n 1, 1) := by decide +kernel
theorem dX9_pushTerm_58 : decode cX9_pushTerm 58 = .ok (.istore 9, 2) := by decide +kernel
theorem dX9_pushTerm_60 : decode cX9_pushTerm 60 = .ok (.iload 5, 2) := by decide +kernel
theorem dX9_pushTerm_62 : decode cX9_pushTerm 62 = .ok (.iconst 1, 1) := by decide +kernel
theorem dX9_pushTerm_63 : decode cX9_pushTerm 63 = .ok (.isub, 1) := by decide +kernel
theorem dX9_pushTerm_64 : decode cX9_pushTerm 64 = .ok (.istore 10, 2) := by decide +kernel
theorem dX9_pushTerm_66 : decode cX9_pushTerm 66 = .ok (.iload 10, 2) := by decide +kernel
theorem dX9_pushTerm_68 : decode cX9_pushTerm 68 = .ok (.ifCond .lt 196, 3) := by decide +kernel
theorem dX9_pushTerm_71 : decode cX9_pushTerm 71 = .ok (.iload 9, 2) := by decide +kernel
theorem dX9_pushTerm_73 : decode cX9_pushTerm 73 = .ok (.iconst (-1), 1) := by decide +kernel
theorem dX9_pushTerm_74 : decode cX9_pushTerm 74 = .ok (.if_icmp .eq 190, 3) := by decide +kernel
theorem dX9_pushTerm_77 : decode cX9_pushTerm 77 = .ok (.aload_n 0, 1) := by decide +kernel
theorem dX9_pushTerm_78 : decode cX9_pushTerm 78 = .ok (.getfield 50, 3) := by decide +kernel
theorem dX9_pushTerm_81 : decode cX9_pushTerm 81 = .ok (.getfield 109, 3) := by decide +kernel
theorem dX9_pushTerm_84 : decode cX9_pushTerm 84 = .ok (.iload 9, 2) := by decide +kernel
theorem dX9_pushTerm_86 : decode cX9_pushTerm 86 = .ok (.iaload, 1) := by decide +kernel
theorem dX9_pushTerm_87 : decode cX9_pushTerm 87 = .ok (.istore 11, 2) := by decide +kernel
theorem dX9_pushTerm_89 : decode cX9_pushTerm 89 = .ok (.iconst 0, 1) := by decide +kernel
theorem dX9_pushTerm_90 : decode cX9_pushTerm 90 = .ok (.istore 12, 2) := by decide +kernel
theorem dX9_pushTerm_92 : decode cX9_pushTerm 92 = .ok (.aload_n 0, 1) := by decide +kernel
theorem dX9_pushTerm_93 : decode cX9_pushTerm 93 = .ok (.getfield 54, 3) := by decide +kernel
theorem dX9_pushTerm_96 : decode cX9_pushTerm 96 = .ok (.iload 11, 2) := by decide +kernel
theorem dX9_pushTerm_98 : decode cX9_pushTerm 98 = .ok (.iload 6, 2) := by decide +kernel
theorem dX9_pushTerm_100 : decode cX9_pushTerm 100 = .ok (.invokevirtual 112, 3) := by decide +kernel
theorem wm_1304 : (Jvm.Cond.methodLink "GrownKinds$Speller" (112 : Nat) ({ cls := "GrownKinds$Census", name := "from", desc := "(II)J" } : Jvm.MethodName)) ∈ gT := gT_in (List.mem_of_getElem? (i := 1304) (by decide +kernel)) (by decide +kernel)
theorem dX9_pushTerm_103 : decode cX9_pushTerm 103 = .ok (.lstore 13, 2) := by decide +kernel
theorem dX9_pushTerm_105 : decode cX9_pushTerm 105 = .ok (.iload 12, 2) := by decide +kernel
theorem dX9_pushTerm_107 : decode cX9_pushTerm 107 = .ok (.iload 6, 2) := by decide +kernel
theorem dX9_pushTerm_109 : decode cX9_pushTerm 109 = .ok (.if_icmp .ge 68, 3) := by decide +kernel
theorem dX9_pushTerm_112 : decode cX9_pushTerm 112 = .ok (.lload 7, 2) := by decide +kernel
theorem dX9_pushTerm_114 : decode cX9_pushTerm 114 = .ok (.aload_n 0, 1) := by decide +kernel
theorem dX9_pushTerm_115 : decode cX9_pushTerm 115 = .ok (.getfield 54, 3) := by decide +kernel
theorem dX9_pushTerm_118 : decode cX9_pushTerm 118 = .ok (.iload 9, 2) := by decide +kernel
theorem dX9_pushTerm_120 : decode cX9_pushTerm 120 = .ok (.iload 12, 2) := by decide +kernel
theorem dX9_pushTerm_122 : decode cX9_pushTerm 122 = .ok (.invokevirtual 116, 3) := by decide +kernel
theorem wm_1305 : (Jvm.Cond.methodLink "GrownKinds$Speller" (116 : Nat) ({ cls := "GrownKinds$Census", name := "of", desc := "(II)J" } : Jvm.MethodName)) ∈ gT := gT_in (List.mem_of_getElem? (i := 1305) (by decide +kernel)) (by decide +kernel)
theorem dX9_pushTerm_125 : decode cX9_pushTerm 125 = .ok (.lload 13, 2) := by decide +kernel
theorem dX9_pushTerm_127 : decode cX9_pushTerm 127 = .ok (.invokestatic 119, 3) := by decide +kernel
theorem dX9_pushTerm_130 : decode cX9_pushTerm 130 = .ok (.lcmp, 1) := by decide +kernel
theorem dX9_pushTerm_131 : decode cX9_pushTerm 131 = .ok (.ifCond .lt 46, 3) := by decide +kernel
theorem dX9_pushTerm_134 : decode cX9_pushTerm 134 = .ok (.lload 7, 2) := by decide +kernel
theorem dX9_pushTerm_136 : decode cX9_pushTerm 136 = .ok (.aload_n 0, 1) := by decide +kernel
theorem dX9_pushTerm_137 : decode cX9_pushTerm 137 = .ok (.getfield 54, 3) := by decide +kernel
theorem dX9_pushTerm_140 : decode cX9_pushTerm 140 = .ok (.iload 9, 2) := by decide +kernel
theorem dX9_pushTerm_142 : decode cX9_pushTerm 142 = .ok (.iload 12, 2) := by decide +kernel
theorem dX9_pushTerm_144 : decode cX9_pushTerm 144 = .ok (.invokevirtual 116, 3) := by decide +kernel
theorem dX9_pushTerm_147 : decode cX9_pushTerm 147 = .ok (.lload 13, 2) := by decide +kernel
theorem dX9_pushTerm_149 : decode cX9_pushTerm 149 = .ok (.invokestatic 119, 3) := by decide +kernel
theorem dX9_pushTerm_152 : decode cX9_pushTerm 152 = .ok (.lsub, 1) := by decide +kernel
theorem dX9_pushTerm_153 : decode cX9_pushTerm 153 = .ok (.lstore 7, 2) := by decide +kernel
theorem dX9_pushTerm_155 : decode cX9_pushTerm 155 = .ok (.iinc 12 1, 3) := by decide +kernel
theorem dX9_pushTerm_158 : decode cX9_pushTerm 158 = .ok (.aload_n 0, 1) := by decide +kernel
theorem dX9_pushTerm_159 : decode cX9_pushTerm 159 = .ok (.getfield 54, 3) := by decide +kernel
theorem dX9_pushTerm_162 : decode cX9_pushTerm 162 = .ok (.iload 11, 2) := by decide +kernel
theorem dX9_pushTerm_164 : decode cX9_pushTerm 164 = .ok (.iload 6, 2) := by decide +kernel
theorem dX9_pushTerm_166 : decode cX9_pushTerm 166 = .ok (.iload 12, 2) := by decide +kernel
theorem dX9_pushTerm_168 : decode cX9_pushTerm 168 = .ok (.isub, 1) := by decide +kernel
theorem dX9_pushTerm_169 : decode cX9_pushTerm 169 = .ok (.invokevirtual 112, 3) := by decide +kernel
theorem dX9_pushTerm_172 : decode cX9_pushTerm 172 = .ok (.lstore 13, 2) := by decide +kernel
theorem dX9_pushTerm_174 : decode cX9_pushTerm 174 = .ok (.goto (-69), 3) := by decide +kernel
theorem dX9_pushTerm_177 : decode cX9_pushTerm 177 = .ok (.lload 13, 2) := by decide +kernel
theorem dX9_pushTerm_179 : decode cX9_pushTerm 179 = .ok (.lconst 1, 1) := by decide +kernel
theorem dX9_pushTerm_180 : decode cX9_pushTerm 180 = .ok (.lcmp, 1) := by decide +kernel
theorem dX9_pushTerm_181 : decode cX9_pushTerm 181 = .ok (.ifCond .ge 7, 3) := by decide +kernel
theorem dX9_pushTerm_188 : decode cX9_pushTerm 188 = .ok (.lload 7, 2) := by decide +kernel
theorem dX9_pushTerm_190 : decode cX9_pushTerm 190 = .ok (.lload 13, 2) := by decide +kernel
theorem dX9_pushTerm_192 : decode cX9_pushTerm 192 = .ok (.ldiv, 1) := by decide +kernel
theorem dX9_pushTerm_184 : decode cX9_pushTerm 184 = .ok (.lconst 0, 1) := by decide +kernel
theorem dX9_pushTerm_185 : decode cX9_pushTerm 185 = .ok (.goto 8, 3) := by decide +kernel
theorem dX9_pushTerm_193 : decode cX9_pushTerm 193 = .ok (.lstore 15, 2) := by decide +kernel
theorem dX9_pushTerm_195 : decode cX9_pushTerm 195 = .ok (.aload_n 0, 1) := by decide +kernel
theorem dX9_pushTerm_196 : decode cX9_pushTerm 196 = .ok (.getfield 38, 3) := by decide +kernel
theorem dX9_pushTerm_199 : decode cX9_pushTerm 199 = .ok (.aload_n 0, 1) := by decide +kernel
theorem dX9_pushTerm_200 : decode cX9_pushTerm 200 = .ok (.getfield 41, 3) := by decide +kernel
theorem dX9_pushTerm_203 : decode cX9_pushTerm 203 = .ok (.iload 10, 2) := by decide +kernel
theorem dX9_pushTerm_205 : decode cX9_pushTerm 205 = .ok (.iadd, 1) := by decide +kernel
theorem dX9_pushTerm_206 : decode cX9_pushTerm 206 = .ok (.iload 9, 2) := by decide +kernel
theorem dX9_pushTerm_208 : decode cX9_pushTerm 208 = .ok (.bipush 8, 2) := by decide +kernel
theorem dX9_pushTerm_210 : decode cX9_pushTerm 210 = .ok (.imul, 1) := by decide +kernel
theorem dX9_pushTerm_211 : decode cX9_pushTerm 211 = .ok (.iload 12, 2) := by decide +kernel
theorem dX9_pushTerm_213 : decode cX9_pushTerm 213 = .ok (.iadd, 1) := by decide +kernel
theorem dX9_pushTerm_214 : decode cX9_pushTerm 214 = .ok (.sipush 1024, 3) := by decide +kernel
theorem dX9_pushTerm_217 : decode cX9_pushTerm 217 = .ok (.imul, 1) := by decide +kernel
theorem dX9_pushTerm_218 : decode cX9_pushTerm 218 = .ok (.lload 15, 2) := by decide +kernel
theorem dX9_pushTerm_220 : decode cX9_pushTerm 220 = .ok (.ldc2_w 123, 3) := by decide +kernel
theorem wm_1310 : (Jvm.Cond.constantLong "GrownKinds$Speller" (123 : Nat) (1023 : Int64)) ∈ gT := gT_in (List.mem_of_getElem? (i := 1310) (by decide +kernel)) (by decide +kernel)
theorem dX9_pushTerm_223 : decode cX9_pushTerm 223 = .ok (.invokestatic 125, 3) := by decide +kernel
theorem wm_1311 : (Jvm.Cond.methodLink "GrownKinds$Speller" (125 : Nat) ({ cls := "java/lang/Math", name := "min", desc := "(JJ)J" } : Jvm.MethodName)) ∈ gT := gT_in (List.mem_of_getElem? (i := 1311) (by decide +kernel)) (by decide +kernel)
theorem dX9_pushTerm_226 : decode cX9_pushTerm 226 = .ok (.l2i, 1) := by decide +kernel
theorem dX9_pushTerm_227 : decode cX9_pushTerm 227 = .ok (.iadd, 1) := by decide +kernel
theorem dX9_pushTerm_228 : decode cX9_pushTerm 228 = .ok (.iastore, 1) := by decide +kernel
theorem dX9_pushTerm_229 : decode cX9_pushTerm 229 = .ok (.lload 13, 2) := by decide +kernel
theorem dX9_pushTerm_231 : decode cX9_pushTerm 231 = .ok (.lconst 1, 1) := by decide +kernel
theorem dX9_pushTerm_232 : decode cX9_pushTerm 232 = .ok (.lcmp, 1) := by decide +kernel
theorem dX9_pushTerm_233 : decode cX9_pushTerm 233 = .ok (.ifCond .ge 7, 3) := by decide +kernel
theorem dX9_pushTerm_240 : decode cX9_pushTerm 240 = .ok (.lload 7, 2) := by decide +kernel
theorem dX9_pushTerm_242 : decode cX9_pushTerm 242 = .ok (.lload 13, 2) := by decide +kernel
theorem dX9_pushTerm_244 : decode cX9_pushTerm 244 = .ok (.lrem, 1) := by decide +kernel
theorem dX9_pushTerm_236 : decode cX9_pushTerm 236 = .ok (.lconst 0, 1) := by decide +kernel
theorem dX9_pushTerm_237 : decode cX9_pushTerm 237 = .ok (.goto 8, 3) := by decide +kernel
theorem dX9_pushTerm_245 : decode cX9_pushTerm 245 = .ok (.lstore 7, 2) := by decide +kernel
theorem dX9_pushTerm_247 : decode cX9_pushTerm 247 = .ok (.iload 6, 2) := by decide +kernel
theorem dX9_pushTerm_249 : decode cX9_pushTerm 249 = .ok (.iload 12, 2) := by decide +kernel
theorem dX9_pushTerm_251 : decode cX9_pushTerm 251 = .ok (.isub, 1) := by decide +kernel
theorem dX9_pushTerm_252 : decode cX9_pushTerm 252 = .ok (.istore 6, 2) := by decide +kernel
theorem dX9_pushTerm_254 : decode cX9_pushTerm 254 = .ok (.iload 11, 2) := by decide +kernel
theorem dX9_pushTerm_256 : decode cX9_pushTerm 256 = .ok (.istore 9, 2) := by decide +kernel
theorem dX9_pushTerm_258 : decode cX9_pushTerm 258 = .ok (.iinc 10 (-1), 3) := by decide +kernel
theorem dX9_pushTerm_261 : decode cX9_pushTerm 261 = .ok (.goto (-195), 3) := by decide +kernel
theorem dX9_pushTerm_264 : decode cX9_pushTerm 264 = .ok (.aload_n 0, 1) := by decide +kernel
theorem dX9_pushTerm_265 : decode cX9_pushTerm 265 = .ok (.dup, 1) := by decide +kernel
theorem dX9_pushTerm_266 : decode cX9_pushTerm 266 = .ok (.getfield 41, 3) := by decide +kernel
theorem dX9_pushTerm_269 : decode cX9_pushTerm 269 = .ok (.iload 5, 2) := by decide +kernel
theorem dX9_pushTerm_271 : decode cX9_pushTerm 271 = .ok (.iadd, 1) := by decide +kernel
theorem dX9_pushTerm_272 : decode cX9_pushTerm 272 = .ok (.putfield 41, 3) := by decide +kernel
theorem dX9_pushTerm_275 : decode cX9_pushTerm 275 = .ok (.return_, 1) := by decide +kernel
theorem dX9_pushTerm_50 : decode cX9_pushTerm 50 = .ok (.return_, 1) := by decide +kernel
theorem dX9_weightOf_0 : decode cX9_weightOf 0 = .ok (.iload_n 0, 1) := by decide +kernel
theorem dX9_weightOf_1 : decode cX9_weightOf 1 = .ok (.iload_n 0, 1) := by decide +kernel
theorem dX9_weightOf_2 : decode cX9_weightOf 2 = .ok (.imul, 1) := by decide +kernel
theorem dX9_weightOf_3 : decode cX9_weightOf 3 = .ok (.iload_n 0, 1) := by decide +kernel
theorem dX9_weightOf_4 : decode cX9_weightOf 4 = .ok (.imul, 1) := by decide +kernel
theorem dX9_weightOf_5 : decode cX9_weightOf 5 = .ok (.ireturn, 1) := by decide +kernel
def mX8_add (S0 : St) (a1 : Int) (a2 : Int) : Option (St) := gd (inI (S0 61 2)) <| if 8 ≤ (S0 61 2) then (some (S0)) else (gd (inL a2) <| gd (0 ≤ (S0 61 2) ∧ (S0 61 2) < 8) <| nx (up S0 62 (S0 61 2) ((a1 * 1024) + (min a2 1023))) fun S_5 => nx (up S_5 61 2 ((S_5 61 2) + 1)) fun S_6 => some (S_6))
set_option maxHeartbeats 4000000 in
set_option maxRecDepth 100000 in
theorem vX8_add (l : Launch) {D : va_G} {cy : Nat → ClassId} {b n : Nat} (hn : 102 ≤ n) {X : Nat → va_E} {S0 : St} (a1 : Int) (a2 : Int) {o1 : St} (hM : mX8_add S0 a1 a2 = some o1) : gV l yX8_add cX8_add 4 1 0 0 D cy b n (enc b cy X S0) [.ref (b + 59), .int (iI a1), .long (jJ a2)] (fun u => u = (n, enc b cy X o1)) := by
  refine gV_of (by decide) (Nat.le_of_ble_eq_true rfl) ?_
  intro p e s m args below meth c S hr hlk hin hsz ls hl hG
  have hx := S.1
  have hb := S.2.1
  have hl : lv_has ls 4 [(0, .ref (b + 59)), (1, .int (iI a1)), (2, .long (jJ a2))] := hl
  replace hG : gW D cy b n s s.heap [] (enc b cy X S0) := hG
  obtain ⟨H, eH⟩ : ∃ H, H = s.heap := ⟨_, rfl⟩
  obtain ⟨locs, elocs⟩ : ∃ locs : List Loc, locs = [] := ⟨_, rfl⟩
  rw [← eH, ← elocs] at hG
  rw [← eH, ← elocs]
  clear eH elocs
  unfold mX8_add at hM
  refine lv_aload_n hx hb dX8_add_0 rfl (lv_at hl 0 rfl) ?_
  refine m_get S hG 59 61 2 rfl ec_61 cpX8 wm_472 dX8_add_1 rfl (Nat.lt_of_lt_of_le (Nat.le_of_ble_eq_true rfl) hn) (by decide) ?_
  refine lv_bipush (v := iI 8) hx hb dX8_add_4 (by decide) ?_
  obtain ⟨hg_1, hM⟩ := gd_some hM
  refine gi_icmp_ge (tgt := 42) hx hb dX8_add_6 (by decide) hg_1 (by decide) (fun c_2 => ?_) (fun c_2 => ?_)
  · replace hM := ifp hM c_2
    cases hM
    exact g_vret S hr hlk hG hsz dX8_add_42 ⟨Nat.le_of_ble_eq_true rfl, Nat.le_of_ble_eq_true rfl⟩ rfl
  · replace hM := ifn hM c_2
    refine lv_aload_n hx hb dX8_add_9 rfl (lv_at hl 0 rfl) ?_
    refine m_get S hG 59 61 3 rfl ec_61 cpX8 wm_474 dX8_add_10 rfl (Nat.lt_of_lt_of_le (Nat.le_of_ble_eq_true rfl) hn) (by decide) ?_
    refine lv_aload_n hx hb dX8_add_13 rfl (lv_at hl 0 rfl) ?_
    refine m_get S hG 59 61 2 rfl ec_61 cpX8 wm_472 dX8_add_14 rfl (Nat.lt_of_lt_of_le (Nat.le_of_ble_eq_true rfl) hn) (by decide) ?_
    refine lv_iload_n hx hb dX8_add_17 rfl (lv_at hl 1 rfl) ?_
    refine lv_sipush (v := iI 1024) hx hb dX8_add_18 (by decide) ?_
    refine gi_mul hx hb dX8_add_21 ?_
    refine lv_lload_n hx hb dX8_add_22 rfl (lv_at hl 2 rfl) ?_
    refine lv_ldc2 (v := 1023) hx hb S.2.2.2.1 (S.2.2.2.2 _ wm_1331) dX8_add_23 ?_
    refine gj_as 1023 (by decide) ?_
    obtain ⟨hg_3, hM⟩ := gd_some hM
    refine gj_min S wm_1332 wm_1149 wm_190 wm_1150 hl.1 dX8_add_26 ⟨Nat.le_of_ble_eq_true rfl, Nat.le_of_ble_eq_true rfl, Nat.le_of_ble_eq_true rfl, Nat.le_of_ble_eq_true rfl⟩ hg_3 (by decide) ?_
    refine gj_l2i hx hb dX8_add_29 ?_
    refine gi_add hx hb dX8_add_30 ?_
    obtain ⟨hg_4, hM⟩ := gd_some hM
    refine mi_ast S hG 60 62 rfl ec_62 (Nat.lt_of_lt_of_le (Nat.le_of_ble_eq_true rfl) hn) dX8_add_31 hg_4 (by decide) (fun H locs S_5 eS_5 hG => ?_)
    replace hM := nx_at hM eS_5
    clear eS_5
    refine lv_aload_n hx hb dX8_add_32 rfl (lv_at hl 0 rfl) ?_
    refine lv_dup hx hb dX8_add_33 rfl ?_
    refine m_get S hG 59 61 2 rfl ec_61 cpX8 wm_472 dX8_add_34 rfl (Nat.lt_of_lt_of_le (Nat.le_of_ble_eq_true rfl) hn) (by decide) ?_
    refine lv_iconst (v := iI 1) hx hb dX8_add_37 (by decide) ?_
    refine gi_add hx hb dX8_add_38 ?_
    refine m_put S hG 59 61 2 rfl 2 ((S_5 61 2) + 1) ec_61 cpX8 wm_472 dX8_add_39 (pf_61_2) (Nat.lt_of_lt_of_le (Nat.le_of_ble_eq_true rfl) hn) (by decide) (Nat.le_of_ble_eq_true rfl) rfl rfl rfl (fun H locs S_6 eS_6 hG => ?_)
    replace hM := nx_at hM eS_6
    clear eS_6
    cases hM
    exact g_vret S hr hlk hG hsz dX8_add_42 ⟨Nat.le_of_ble_eq_true rfl, Nat.le_of_ble_eq_true rfl⟩ rfl
theorem wV_8_75 : gWV "GrownKinds$Sequences" 75 yX0_bagsUpTo cX0_bagsUpTo 6 (some .long) := ⟨wm_1354, wm_1355, wm_1356, wm_181, wm_1357, by decide +kernel, by decide +kernel⟩
def mX0_bagsUpTo_40 (S0 : St) (a1 : Int) (a2 : Int) (a3 : Int) (a4 : Int) : Option (Int) := nx ((((a1 * 512) + (a4 * 64)) + (a2 * 8)) + a3) fun x_1 => gd (inI x_1) <| if x_1 < 0 then (some (0)) else (if 12288 ≤ x_1 then (some (0)) else (gd (0 ≤ x_1 ∧ x_1 < 12288) <| some ((S0 46 x_1))))
set_option maxHeartbeats 4000000 in
set_option maxRecDepth 100000 in
theorem vX0_bagsUpTo_40 (l : Launch) {D : va_G} {cy : Nat → ClassId} {b n : Nat} (hn : 102 ≤ n) {X : Nat → va_E} {S0 : St} (a1 : Int) (a2 : Int) (a3 : Int) (a4 : Int) {o1 : Int} (hM : mX0_bagsUpTo_40 S0 a1 a2 a3 a4 = some o1) : gL l yX0_bagsUpTo cX0_bagsUpTo 6 0 0 0 D cy b n (enc b cy X S0) [.ref (b + 40), .int (iI a1), .int (iI a2), .int (iI a3), .int (iI a4)] (fun r u => r = jJ o1 ∧ u = (n, enc b cy X S0)) := by
  refine gL_of (by decide) (Nat.le_of_ble_eq_true rfl) ?_
  intro p e s m args below meth c S hr hlk hin hsz ls hl hG
  have hx := S.1
  have hb := S.2.1
  have hl : lv_has ls 6 [(0, .ref (b + 40)), (1, .int (iI a1)), (2, .int (iI a2)), (3, .int (iI a3)), (4, .int (iI a4))] := hl
  replace hG : gW D cy b n s s.heap [] (enc b cy X S0) := hG
  obtain ⟨H, eH⟩ : ∃ H, H = s.heap := ⟨_, rfl⟩
  obtain ⟨locs, elocs⟩ : ∃ locs : List Loc, locs = [] := ⟨_, rfl⟩
  rw [← eH, ← elocs] at hG
  rw [← eH, ← elocs]
  clear eH elocs
  unfold mX0_bagsUpTo_40 at hM
  refine lv_iload_n hx hb dX0_bagsUpTo_0 rfl (lv_at hl 1 rfl) ?_
  refine lv_sipush (v := iI 512) hx hb dX0_bagsUpTo_1 (by decide) ?_
  refine gi_mul hx hb dX0_bagsUpTo_4 ?_
  refine lv_iload hx hb dX0_bagsUpTo_5 (lv_at hl 4 rfl) ?_
  refine lv_bipush (v := iI 64) hx hb dX0_bagsUpTo_7 (by decide) ?_
  refine gi_mul hx hb dX0_bagsUpTo_9 ?_
  refine gi_add hx hb dX0_bagsUpTo_10 ?_
  refine lv_iload_n hx hb dX0_bagsUpTo_11 rfl (lv_at hl 2 rfl) ?_
  refine lv_bipush (v := iI 8) hx hb dX0_bagsUpTo_12 (by decide) ?_
  refine gi_mul hx hb dX0_bagsUpTo_14 ?_
  refine gi_add hx hb dX0_bagsUpTo_15 ?_
  refine lv_iload_n hx hb dX0_bagsUpTo_16 rfl (lv_at hl 3 rfl) ?_
  refine gi_add hx hb dX0_bagsUpTo_17 ?_
  refine gi_nm (fun x_1 ex_1 => ?_)
  replace hM := nx_at hM ex_1
  clear ex_1
  refine lv_istore (lv' := [(5, .int (iI x_1)), (0, .ref (b + 40)), (1, .int (iI a1)), (2, .int (iI a2)), (3, .int (iI a3)), (4, .int (iI a4))]) hx hb dX0_bagsUpTo_18 hl (by decide) rfl (fun ls hl => ?_)
  refine lv_iload hx hb dX0_bagsUpTo_20 (lv_at hl 0 rfl) ?_
  obtain ⟨hg_2, hM⟩ := gd_some hM
  refine gi_if_lt (tgt := 45) hx hb dX0_bagsUpTo_22 (by decide) hg_2 (fun c_3 => ?_) (fun c_3 => ?_)
  · replace hM := ifp hM c_3
    refine lv_lconst (v := jJ 0) hx hb dX0_bagsUpTo_45 (by decide) ?_
    cases hM
    exact g_lret S hr hlk hG hsz dX0_bagsUpTo_46 ⟨Nat.le_of_ble_eq_true rfl, Nat.le_of_ble_eq_true rfl⟩ ⟨rfl, rfl⟩
  · replace hM := ifn hM c_3
    refine lv_iload hx hb dX0_bagsUpTo_25 (lv_at hl 0 rfl) ?_
    refine lv_aload_n hx hb dX0_bagsUpTo_27 rfl (lv_at hl 1 rfl) ?_
    refine m_get S hG 40 40 7 rfl ec_40 cpX0 wm_410 dX0_bagsUpTo_28 rfl (Nat.lt_of_lt_of_le (Nat.le_of_ble_eq_true rfl) hn) (by decide) ?_
    refine m_alen S hG 46 2 ec_46 rfl (Nat.lt_of_lt_of_le (Nat.le_of_ble_eq_true rfl) hn) dX0_bagsUpTo_31 (N := 12288) (show Int32.ofNat 12288 = iI 12288 by decide) ?_
    refine gi_icmp_ge (tgt := 45) hx hb dX0_bagsUpTo_32 (by decide) hg_2 (by decide) (fun c_4 => ?_) (fun c_4 => ?_)
    · replace hM := ifp hM c_4
      refine lv_lconst (v := jJ 0) hx hb dX0_bagsUpTo_45 (by decide) ?_
      cases hM
      exact g_lret S hr hlk hG hsz dX0_bagsUpTo_46 ⟨Nat.le_of_ble_eq_true rfl, Nat.le_of_ble_eq_true rfl⟩ ⟨rfl, rfl⟩
    · replace hM := ifn hM c_4
      refine lv_aload_n hx hb dX0_bagsUpTo_35 rfl (lv_at hl 1 rfl) ?_
      refine m_get S hG 40 40 7 rfl ec_40 cpX0 wm_410 dX0_bagsUpTo_36 rfl (Nat.lt_of_lt_of_le (Nat.le_of_ble_eq_true rfl) hn) (by decide) ?_
      refine lv_iload hx hb dX0_bagsUpTo_39 (lv_at hl 0 rfl) ?_
      obtain ⟨hg_5, hM⟩ := gd_some hM
      refine mj_ald S hG 46 46 rfl ec_46 (Nat.lt_of_lt_of_le (Nat.le_of_ble_eq_true rfl) hn) dX0_bagsUpTo_41 hg_5 (by decide) ?_
      refine lv_goto (tgt := 46) hx hb dX0_bagsUpTo_42 (by decide) ?_
      cases hM
      exact g_lret S hr hlk hG hsz dX0_bagsUpTo_46 ⟨Nat.le_of_ble_eq_true rfl, Nat.le_of_ble_eq_true rfl⟩ ⟨rfl, rfl⟩
def mX8_bagsWithin_17 (S0 : St) (x_2 : Int) (a1 : Int) (a2 : Int) (a3 : Int) (a4 : Int) (a5 : Int) : Nat → Int → Int → Option (Int × Int)
  | 0, _, _ => none
  | f + 1, v_3, v_4 => gd ((inI (v_3 * a4)) ∧ (inI a3)) <| if a3 < (v_3 * a4) then (some (1, v_4)) else (bd1 (gd (inI x_2) <| if x_2 = 0 then (some (0)) else (gd ((inI v_3) ∧ (inI a2)) <| if a2 < v_3 then (some (1)) else (some (0)))) fun t_15 => if t_15 = 0 then (bd1 (gd (inI (S0 3 a1)) <| if (S0 3 a1) = 5 then (some (1)) else (some (0))) fun z_18 => bd1 (mX11_picks a5 v_3 z_18) fun r_22 => gd (inL r_22) <| if r_22 = 0 then (some (0, v_4)) else (bd1 (gd (inI x_2) <| if x_2 = 0 then (some (0)) else (some ((a2 - v_3)))) fun z_25 => bd1 (mX0_bagsUpTo_40 S0 a1 z_25 (a3 - (v_3 * a4)) (a4 - 1)) fun r_29 => bd1 (mX11_times r_22 r_29) fun r_31 => bd1 (mX11_plus v_4 r_31) fun r_33 => mX8_bagsWithin_17 S0 x_2 a1 a2 a3 a4 a5 f (v_3 + 1) r_33)) else (some (1, v_4)))
def mX8_bagsWithin (S0 : St) (a1 : Int) (a2 : Int) (a3 : Int) (a4 : Int) (a5 : Int) : Option (Int) := gd (0 ≤ a1 ∧ a1 < 24) <| nx (S0 4 a1) fun x_2 => bd2 (mX8_bagsWithin_17 S0 x_2 a1 a2 a3 a4 a5 FU 0 0) fun t_5 y_6 => if t_5 = 0 then (some (y_6)) else (some (y_6))
set_option maxHeartbeats 4000000 in
set_option maxRecDepth 100000 in
theorem vX8_bagsWithin (l : Launch) {D : va_G} {cy : Nat → ClassId} {b n : Nat} (hn : 102 ≤ n) {X : Nat → va_E} {S0 : St} (a1 : Int) (a2 : Int) (a3 : Int) (a4 : Int) (a5 : Int) {o1 : Int} (hM : mX8_bagsWithin S0 a1 a2 a3 a4 a5 = some o1) : gL l yX8_bagsWithin cX8_bagsWithin 15 1 0 0 D cy b n (enc b cy X S0) [.ref (b + 59), .int (iI a1), .int (iI a2), .int (iI a3), .int (iI a4), .long (jJ a5)] (fun r u => r = jJ o1 ∧ u = (n, enc b cy X S0)) := by
  refine gL_of (by decide) (Nat.le_of_ble_eq_true rfl) ?_
  intro p e s m args below meth c S hr hlk hin hsz ls hl hG
  have hx := S.1
  have hb := S.2.1
  have hl : lv_has ls 15 [(0, .ref (b + 59)), (1, .int (iI a1)), (2, .int (iI a2)), (3, .int (iI a3)), (4, .int (iI a4)), (5, .long (jJ a5))] := hl
  replace hG : gW D cy b n s s.heap [] (enc b cy X S0) := hG
  obtain ⟨H, eH⟩ : ∃ H, H = s.heap := ⟨_, rfl⟩
  obtain ⟨locs, elocs⟩ : ∃ locs : List Loc, locs = [] := ⟨_, rfl⟩
  rw [← eH, ← elocs] at hG
  rw [← eH, ← elocs]
  clear eH elocs
  unfold mX8_bagsWithin at hM
  refine lv_aload_n hx hb dX8_bagsWithin_0 rfl (lv_at hl 0 rfl) ?_
  refine m_get S hG 59 61 0 rfl ec_61 cpX8 wm_470 dX8_bagsWithin_1 rfl (Nat.lt_of_lt_of_le (Nat.le_of_ble_eq_true rfl) hn) (by decide) ?_
  refine m_get S hG 2 2 6 rfl ec_2 cpX2 wm_241 dX8_bagsWithin_4 rfl (Nat.lt_of_lt_of_le (Nat.le_of_ble_eq_true rfl) hn) (by decide) ?_
  refine lv_iload_n hx hb dX8_bagsWithin_7 rfl (lv_at hl 1 rfl) ?_
  obtain ⟨hg_1, hM⟩ := gd_some hM
  refine mi_ald S hG 4 4 rfl ec_4 (Nat.lt_of_lt_of_le (Nat.le_of_ble_eq_true rfl) hn) dX8_bagsWithin_8 hg_1 (by decide) ?_
  refine gi_nm (fun x_2 ex_2 => ?_)
  replace hM := nx_at hM ex_2
  clear ex_2
  refine lv_istore (lv' := [(7, .int (iI x_2)), (0, .ref (b + 59)), (1, .int (iI a1)), (2, .int (iI a2)), (3, .int (iI a3)), (4, .int (iI a4)), (5, .long (jJ a5))]) hx hb dX8_bagsWithin_9 hl (by decide) rfl (fun ls hl => ?_)
  refine lv_lconst (v := jJ 0) hx hb dX8_bagsWithin_11 (by decide) ?_
  refine lv_lstore (lv' := [(8, .long (jJ 0)), (7, .int (iI x_2)), (0, .ref (b + 59)), (1, .int (iI a1)), (2, .int (iI a2)), (3, .int (iI a3)), (4, .int (iI a4)), (5, .long (jJ a5))]) hx hb dX8_bagsWithin_12 hl (by decide) rfl (fun ls hl => ?_)
  refine lv_iconst (v := iI 0) hx hb dX8_bagsWithin_14 (by decide) ?_
  refine lv_istore (lv' := [(10, .int (iI 0)), (8, .long (jJ 0)), (7, .int (iI x_2)), (0, .ref (b + 59)), (1, .int (iI a1)), (2, .int (iI a2)), (3, .int (iI a3)), (4, .int (iI a4)), (5, .long (jJ a5))]) hx hb dX8_bagsWithin_15 hl (by decide) rfl (fun ls hl => ?_)
  obtain ⟨t_5, y_6, hc_7, hM⟩ := bd2_some hM
  have hK_8 : ∀ (H : Heap) (locs : List Loc) (ls : Array Slot), t_5 = 0 → gW D cy b n s H locs (enc b cy X S0) → lv_has ls 15 [(8, .long (jJ y_6))] → W p l e (gRm 1 0 0) s m args below meth c H locs 0 0 (gQL D cy b s args below 0 0 (fun r u => r = jJ o1 ∧ u = (n, enc b cy X S0))) (F0 m 71 ls []) := by
    intro H locs ls ht hG hl
    subst ht
    replace hM := ifp hM rfl
    refine lv_lload hx hb dX8_bagsWithin_71 (lv_at hl 0 rfl) ?_
    cases hM
    exact g_lret S hr hlk hG hsz dX8_bagsWithin_73 ⟨Nat.le_of_ble_eq_true rfl, Nat.le_of_ble_eq_true rfl⟩ ⟨rfl, rfl⟩
  have hK_9 : ∀ (H : Heap) (locs : List Loc) (ls : Array Slot), t_5 = 1 → gW D cy b n s H locs (enc b cy X S0) → lv_has ls 15 [(8, .long (jJ y_6))] → W p l e (gRm 1 0 0) s m args below meth c H locs 0 0 (gQL D cy b s args below 0 0 (fun r u => r = jJ o1 ∧ u = (n, enc b cy X S0))) (F0 m 128 ls []) := by
    intro H locs ls ht hG hl
    subst ht
    replace hM := ifn hM (by decide)
    refine lv_lload hx hb dX8_bagsWithin_128 (lv_at hl 0 rfl) ?_
    cases hM
    exact g_lret S hr hlk hG hsz dX8_bagsWithin_130 ⟨Nat.le_of_ble_eq_true rfl, Nat.le_of_ble_eq_true rfl⟩ ⟨rfl, rfl⟩
  have loop_10 : ∀ (f : Nat) (v_3 : Int) (v_4 : Int) (H : Heap) (locs : List Loc) (ls : Array Slot), mX8_bagsWithin_17 S0 x_2 a1 a2 a3 a4 a5 f v_3 v_4 = some (t_5, y_6) → gW D cy b n s H locs (enc b cy X S0) → lv_has ls 15 [(10, .int (iI v_3)), (8, .long (jJ v_4)), (7, .int (iI x_2)), (0, .ref (b + 59)), (1, .int (iI a1)), (2, .int (iI a2)), (3, .int (iI a3)), (4, .int (iI a4)), (5, .long (jJ a5))] → W p l e (gRm 1 0 0) s m args below meth c H locs 0 0 (gQL D cy b s args below 0 0 (fun r u => r = jJ o1 ∧ u = (n, enc b cy X S0))) (F0 m 17 ls []) := by
    clear hM
    intro f
    induction f with
    | zero => intro v_3 v_4 H locs ls hM; rw [mX8_bagsWithin_17] at hM; cases hM
    | succ f_12 ih_11 =>
      intro v_3 v_4 H locs ls hM hG hl
      rw [mX8_bagsWithin_17] at hM
      refine lv_iload hx hb dX8_bagsWithin_17 (lv_at hl 0 rfl) ?_
      refine lv_iload hx hb dX8_bagsWithin_19 (lv_at hl 7 rfl) ?_
      refine gi_mul hx hb dX8_bagsWithin_21 ?_
      refine lv_iload_n hx hb dX8_bagsWithin_22 rfl (lv_at hl 6 rfl) ?_
      obtain ⟨hg_13, hM⟩ := gd_some hM
      refine gi_icmp_gt (tgt := 128) hx hb dX8_bagsWithin_23 (by decide) hg_13.1 hg_13.2 (fun c_14 => ?_) (fun c_14 => ?_)
      · replace hM := ifp hM c_14
        cases hM
        exact hK_9 H locs ls rfl hG (lv_sub hl [1] rfl)
      · replace hM := ifn hM c_14
        refine lv_iload hx hb dX8_bagsWithin_26 (lv_at hl 2 rfl) ?_
        obtain ⟨t_15, hc_16, hM⟩ := bd1_some hM
        have hK_17 : ∀ (H : Heap) (locs : List Loc) (ls : Array Slot), t_15 = 0 → gW D cy b n s H locs (enc b cy X S0) → lv_has ls 15 [(10, .int (iI v_3)), (8, .long (jJ v_4)), (7, .int (iI x_2)), (0, .ref (b + 59)), (1, .int (iI a1)), (2, .int (iI a2)), (3, .int (iI a3)), (4, .int (iI a4)), (5, .long (jJ a5))] → W p l e (gRm 1 0 0) s m args below meth c H locs 0 0 (gQL D cy b s args below 0 0 (fun r u => r = jJ o1 ∧ u = (n, enc b cy X S0))) (F0 m 37 ls []) := by
          intro H locs ls ht hG hl
          subst ht
          replace hM := ifp hM rfl
          refine lv_lload hx hb dX8_bagsWithin_37 (lv_at hl 8 rfl) ?_
          refine lv_iload hx hb dX8_bagsWithin_39 (lv_at hl 0 rfl) ?_
          refine lv_aload_n hx hb dX8_bagsWithin_41 rfl (lv_at hl 3 rfl) ?_
          refine m_get S hG 59 61 0 rfl ec_61 cpX8 wm_470 dX8_bagsWithin_42 rfl (Nat.lt_of_lt_of_le (Nat.le_of_ble_eq_true rfl) hn) (by decide) ?_
          refine m_get S hG 2 2 5 rfl ec_2 cpX2 wm_235 dX8_bagsWithin_45 rfl (Nat.lt_of_lt_of_le (Nat.le_of_ble_eq_true rfl) hn) (by decide) ?_
          refine lv_iload_n hx hb dX8_bagsWithin_48 rfl (lv_at hl 4 rfl) ?_
          refine mi_ald S hG 3 3 rfl ec_3 (Nat.lt_of_lt_of_le (Nat.le_of_ble_eq_true rfl) hn) dX8_bagsWithin_49 hg_1 (by decide) ?_
          refine lv_iconst (v := iI 5) hx hb dX8_bagsWithin_50 (by decide) ?_
          obtain ⟨z_18, hc_19, hM⟩ := bd1_some hM
          have hK_20 : ∀ (H : Heap) (locs : List Loc) (ls : Array Slot), gW D cy b n s H locs (enc b cy X S0) → lv_has ls 15 [(10, .int (iI v_3)), (8, .long (jJ v_4)), (7, .int (iI x_2)), (0, .ref (b + 59)), (1, .int (iI a1)), (2, .int (iI a2)), (3, .int (iI a3)), (4, .int (iI a4)), (5, .long (jJ a5))] → W p l e (gRm 1 0 0) s m args below meth c H locs 0 0 (gQL D cy b s args below 0 0 (fun r u => r = jJ o1 ∧ u = (n, enc b cy X S0))) (F0 m 59 ls [.int (iI z_18), .int (iI v_3), .long (jJ a5)]) := by
            intro H locs ls hG hl
            obtain ⟨r_22, hc_21, hM⟩ := bd1_some hM
            refine g_slN (As := [.long (jJ a5), .int (iI v_3), .int (iI z_18)]) (rest := []) S hG hsz (vX11_picks l hn a5 v_3 z_18 hc_21) (y := yX11_picks) (host := "GrownKinds") (by decide +kernel) ⟨wm_1045, wm_177, wm_1046, by decide +kernel, by decide +kernel⟩ dX8_bagsWithin_59 rfl hl.1 (ar := 3) (by decide +kernel) rfl ⟨Nat.le_of_ble_eq_true rfl, Nat.le_of_ble_eq_true rfl, Nat.le_of_ble_eq_true rfl, Nat.le_of_ble_eq_true rfl⟩ (Nat.le_of_ble_eq_true rfl) (fun rv uu H locs hp hG => ?_)
            obtain ⟨rfl, rfl⟩ := hp
            replace hG : gW D cy b n s H locs (enc b cy X S0) := hG
            refine lv_lstore (lv' := [(11, .long (jJ r_22)), (10, .int (iI v_3)), (8, .long (jJ v_4)), (7, .int (iI x_2)), (0, .ref (b + 59)), (1, .int (iI a1)), (2, .int (iI a2)), (3, .int (iI a3)), (4, .int (iI a4)), (5, .long (jJ a5))]) hx hb dX8_bagsWithin_62 hl (by decide) rfl (fun ls hl => ?_)
            refine lv_lload hx hb dX8_bagsWithin_64 (lv_at hl 0 rfl) ?_
            refine lv_lconst (v := jJ 0) hx hb dX8_bagsWithin_66 (by decide) ?_
            obtain ⟨hg_23, hM⟩ := gd_some hM
            refine gj_cmp_ne (tgt := 74) hx hb dX8_bagsWithin_67 dX8_bagsWithin_68 (by decide) hg_23 (by decide) (fun c_24 => ?_) (fun c_24 => ?_)
            · replace hM := ifn hM c_24
              refine lv_aload_n hx hb dX8_bagsWithin_74 rfl (lv_at hl 4 rfl) ?_
              refine m_get S hG 59 61 1 rfl ec_61 cpX8 wm_471 dX8_bagsWithin_75 rfl (Nat.lt_of_lt_of_le (Nat.le_of_ble_eq_true rfl) hn) (by decide) ?_
              refine lv_iload_n hx hb dX8_bagsWithin_78 rfl (lv_at hl 5 rfl) ?_
              refine lv_iload hx hb dX8_bagsWithin_79 (lv_at hl 3 rfl) ?_
              obtain ⟨z_25, hc_26, hM⟩ := bd1_some hM
              have hK_27 : ∀ (H : Heap) (locs : List Loc) (ls : Array Slot), gW D cy b n s H locs (enc b cy X S0) → lv_has ls 15 [(11, .long (jJ r_22)), (10, .int (iI v_3)), (8, .long (jJ v_4)), (7, .int (iI x_2)), (0, .ref (b + 59)), (1, .int (iI a1)), (2, .int (iI a2)), (3, .int (iI a3)), (4, .int (iI a4)), (5, .long (jJ a5))] → W p l e (gRm 1 0 0) s m args below meth c H locs 0 0 (gQL D cy b s args below 0 0 (fun r u => r = jJ o1 ∧ u = (n, enc b cy X S0))) (F0 m 92 ls [.int (iI z_25), .int (iI a1), .ref (b + 40)]) := by
                intro H locs ls hG hl
                refine lv_iload_n hx hb dX8_bagsWithin_92 rfl (lv_at hl 7 rfl) ?_
                refine lv_iload hx hb dX8_bagsWithin_93 (lv_at hl 1 rfl) ?_
                refine lv_iload hx hb dX8_bagsWithin_95 (lv_at hl 8 rfl) ?_
                refine gi_mul hx hb dX8_bagsWithin_97 ?_
                refine gi_sub hx hb dX8_bagsWithin_98 ?_
                refine lv_iload hx hb dX8_bagsWithin_99 (lv_at hl 8 rfl) ?_
                refine lv_iconst (v := iI 1) hx hb dX8_bagsWithin_101 (by decide) ?_
                refine gi_sub hx hb dX8_bagsWithin_102 ?_
                obtain ⟨r_29, hc_28, hM⟩ := bd1_some hM
                refine g_vl (As := [.int (iI a1), .int (iI z_25), .int (iI (a3 - (v_3 * a4))), .int (iI (a4 - 1))]) (rest := []) S hG hsz (vX0_bagsUpTo_40 l hn a1 z_25 (a3 - (v_3 * a4)) (a4 - 1) hc_28) wV_8_75 (ec_40 _) cpX0 (Nat.lt_of_lt_of_le (Nat.le_of_ble_eq_true rfl) hn) dX8_bagsWithin_103 rfl hl.1 (ar := 4) (by decide +kernel) rfl ⟨Nat.le_of_ble_eq_true rfl, Nat.le_of_ble_eq_true rfl, Nat.le_of_ble_eq_true rfl, Nat.le_of_ble_eq_true rfl⟩ (Nat.le_of_ble_eq_true rfl) (fun rv uu H locs hp hG => ?_)
                obtain ⟨rfl, rfl⟩ := hp
                replace hG : gW D cy b n s H locs (enc b cy X S0) := hG
                refine lv_lstore (lv' := [(13, .long (jJ r_29)), (11, .long (jJ r_22)), (10, .int (iI v_3)), (8, .long (jJ v_4)), (7, .int (iI x_2)), (0, .ref (b + 59)), (1, .int (iI a1)), (2, .int (iI a2)), (3, .int (iI a3)), (4, .int (iI a4)), (5, .long (jJ a5))]) hx hb dX8_bagsWithin_106 hl (by decide) rfl (fun ls hl => ?_)
                refine lv_lload hx hb dX8_bagsWithin_108 (lv_at hl 3 rfl) ?_
                refine lv_lload hx hb dX8_bagsWithin_110 (lv_at hl 1 rfl) ?_
                refine lv_lload hx hb dX8_bagsWithin_112 (lv_at hl 0 rfl) ?_
                obtain ⟨r_31, hc_30, hM⟩ := bd1_some hM
                refine g_slN (As := [.long (jJ r_22), .long (jJ r_29)]) (rest := [.long (jJ v_4)]) S hG hsz (vX11_times l hn r_22 r_29 hc_30) (y := yX11_times) (host := "GrownKinds") (by decide +kernel) ⟨wm_1053, wm_177, wm_1054, by decide +kernel, by decide +kernel⟩ dX8_bagsWithin_114 rfl hl.1 (ar := 2) (by decide +kernel) rfl ⟨Nat.le_of_ble_eq_true rfl, Nat.le_of_ble_eq_true rfl, Nat.le_of_ble_eq_true rfl, Nat.le_of_ble_eq_true rfl⟩ (Nat.le_of_ble_eq_true rfl) (fun rv uu H locs hp hG => ?_)
                obtain ⟨rfl, rfl⟩ := hp
                replace hG : gW D cy b n s H locs (enc b cy X S0) := hG
                obtain ⟨r_33, hc_32, hM⟩ := bd1_some hM
                refine g_slN (As := [.long (jJ v_4), .long (jJ r_31)]) (rest := []) S hG hsz (vX11_plus l hn v_4 r_31 hc_32) (y := yX11_plus) (host := "GrownKinds") (by decide +kernel) ⟨wm_997, wm_177, wm_998, by decide +kernel, by decide +kernel⟩ dX8_bagsWithin_117 rfl hl.1 (ar := 2) (by decide +kernel) rfl ⟨Nat.le_of_ble_eq_true rfl, Nat.le_of_ble_eq_true rfl, Nat.le_of_ble_eq_true rfl, Nat.le_of_ble_eq_true rfl⟩ (Nat.le_of_ble_eq_true rfl) (fun rv uu H locs hp hG => ?_)
                obtain ⟨rfl, rfl⟩ := hp
                replace hG : gW D cy b n s H locs (enc b cy X S0) := hG
                refine lv_lstore (lv' := [(8, .long (jJ r_33)), (13, .long (jJ r_29)), (11, .long (jJ r_22)), (10, .int (iI v_3)), (7, .int (iI x_2)), (0, .ref (b + 59)), (1, .int (iI a1)), (2, .int (iI a2)), (3, .int (iI a3)), (4, .int (iI a4)), (5, .long (jJ a5))]) hx hb dX8_bagsWithin_120 hl (by decide) rfl (fun ls hl => ?_)
                refine lv_iinc (v := iI (v_3 + 1)) (lv' := [(10, .int (iI (v_3 + 1))), (8, .long (jJ r_33)), (13, .long (jJ r_29)), (11, .long (jJ r_22)), (7, .int (iI x_2)), (0, .ref (b + 59)), (1, .int (iI a1)), (2, .int (iI a2)), (3, .int (iI a3)), (4, .int (iI a4)), (5, .long (jJ a5))]) hx hb dX8_bagsWithin_122 hl (k := 3) rfl ((iI_add v_3 (1)).trans (congrArg iI (by omega))) (by decide) rfl (fun ls hl => ?_)
                refine lv_goto (tgt := 17) hx hb dX8_bagsWithin_125 (by decide) ?_
                exact ih_11 (v_3 + 1) r_33 H locs ls hM hG (lv_sub hl [0, 1, 4, 5, 6, 7, 8, 9, 10] rfl)
              clear hM
              replace hM := hc_26
              obtain ⟨hg_34, hM⟩ := gd_some hM
              refine gi_if_ne (tgt := 88) hx hb dX8_bagsWithin_81 (by decide) hg_34 (fun c_35 => ?_) (fun c_35 => ?_)
              · replace hM := ifn hM c_35
                refine lv_iload_n hx hb dX8_bagsWithin_88 rfl (lv_at hl 6 rfl) ?_
                refine lv_iload hx hb dX8_bagsWithin_89 (lv_at hl 1 rfl) ?_
                refine gi_sub hx hb dX8_bagsWithin_91 ?_
                cases hM
                exact hK_27 H locs ls hG (lv_sub hl [0, 1, 2, 3, 4, 5, 6, 7, 8, 9] rfl)
              · replace hM := ifp hM c_35
                refine lv_iconst (v := iI 0) hx hb dX8_bagsWithin_84 (by decide) ?_
                refine lv_goto (tgt := 92) hx hb dX8_bagsWithin_85 (by decide) ?_
                cases hM
                exact hK_27 H locs ls hG (lv_sub hl [0, 1, 2, 3, 4, 5, 6, 7, 8, 9] rfl)
            · replace hM := ifp hM c_24
              cases hM
              exact hK_8 H locs ls rfl hG (lv_sub hl [2] rfl)
          clear hM
          replace hM := hc_19
          obtain ⟨hg_36, hM⟩ := gd_some hM
          refine gi_icmp_ne (tgt := 58) hx hb dX8_bagsWithin_51 (by decide) hg_36 (by decide) (fun c_37 => ?_) (fun c_37 => ?_)
          · replace hM := ifn hM c_37
            refine lv_iconst (v := iI 0) hx hb dX8_bagsWithin_58 (by decide) ?_
            cases hM
            exact hK_20 H locs ls hG (lv_sub hl [0, 1, 2, 3, 4, 5, 6, 7, 8] rfl)
          · replace hM := ifp hM c_37
            refine lv_iconst (v := iI 1) hx hb dX8_bagsWithin_54 (by decide) ?_
            refine lv_goto (tgt := 59) hx hb dX8_bagsWithin_55 (by decide) ?_
            cases hM
            exact hK_20 H locs ls hG (lv_sub hl [0, 1, 2, 3, 4, 5, 6, 7, 8] rfl)
        have hK_38 : ∀ (H : Heap) (locs : List Loc) (ls : Array Slot), t_15 = 1 → gW D cy b n s H locs (enc b cy X S0) → lv_has ls 15 [(8, .long (jJ v_4))] → W p l e (gRm 1 0 0) s m args below meth c H locs 0 0 (gQL D cy b s args below 0 0 (fun r u => r = jJ o1 ∧ u = (n, enc b cy X S0))) (F0 m 128 ls []) := by
          intro H locs ls ht hG hl
          subst ht
          replace hM := ifn hM (by decide)
          cases hM
          exact hK_9 H locs ls rfl hG (lv_sub hl [0] rfl)
        clear hM
        replace hM := hc_16
        obtain ⟨hg_39, hM⟩ := gd_some hM
        refine gi_if_eq (tgt := 37) hx hb dX8_bagsWithin_28 (by decide) hg_39 (fun c_40 => ?_) (fun c_40 => ?_)
        · replace hM := ifp hM c_40
          cases hM
          exact hK_17 H locs ls rfl hG (lv_sub hl [0, 1, 2, 3, 4, 5, 6, 7, 8] rfl)
        · replace hM := ifn hM c_40
          refine lv_iload hx hb dX8_bagsWithin_31 (lv_at hl 0 rfl) ?_
          refine lv_iload_n hx hb dX8_bagsWithin_33 rfl (lv_at hl 5 rfl) ?_
          obtain ⟨hg_41, hM⟩ := gd_some hM
          refine gi_icmp_gt (tgt := 128) hx hb dX8_bagsWithin_34 (by decide) hg_41.1 hg_41.2 (fun c_42 => ?_) (fun c_42 => ?_)
          · replace hM := ifp hM c_42
            cases hM
            exact hK_38 H locs ls rfl hG (lv_sub hl [1] rfl)
          · replace hM := ifn hM c_42
            cases hM
            exact hK_17 H locs ls rfl hG (lv_sub hl [0, 1, 2, 3, 4, 5, 6, 7, 8] rfl)
  exact loop_10 FU 0 0 H locs ls hc_7 hG (lv_sub hl [0, 1, 2, 3, 4, 5, 6, 7, 8] rfl)
theorem wV_8_43 : gWV "GrownKinds$Sequences" 43 yX0_rowsLeft cX0_rowsLeft 7 (some .long) := ⟨wm_1321, wm_1322, wm_1323, wm_181, wm_1324, by decide +kernel, by decide +kernel⟩
def mX0_rowsLeft_40_43 (S0 : St) (a1 : Int) (a3 : Int) : Nat → Int → Int → Option (Int)
  | 0, _, _ => none
  | f + 1, v_7, v_8 => gd ((inI v_7) ∧ (inI a3)) <| if a3 < v_7 then (some (v_8)) else (bd1 (mX0_rowsOf_40 S0 a1 v_7 a3 0) fun r_18 => bd1 (mX11_plus v_8 r_18) fun r_20 => mX0_rowsLeft_40_43 S0 a1 a3 f (v_7 + 1) r_20)
def mX0_rowsLeft_40 (S0 : St) (a1 : Int) (a2 : Int) (a3 : Int) : Option (Int) := gd (0 ≤ a1 ∧ a1 < 24) <| gd (inI (S0 4 a1)) <| if (S0 4 a1) = 0 then (bd1 (gd (inI a3) <| if a3 = 0 then (some (1)) else (some (0))) fun z_4 => bd1 (mX0_rowsLeft_40_43 S0 a1 a3 FU 1 z_4) fun y_9 => some (y_9)) else (gd (inI a2) <| if 0 ≤ a2 then (bd1 (mX0_rowsOf_40 S0 a1 a2 a3 0) fun r_26 => some (r_26)) else (some (0)))
set_option maxHeartbeats 4000000 in
set_option maxRecDepth 100000 in
theorem vX0_rowsLeft_40 (l : Launch) {D : va_G} {cy : Nat → ClassId} {b n : Nat} (hn : 102 ≤ n) {X : Nat → va_E} {S0 : St} (a1 : Int) (a2 : Int) (a3 : Int) {o1 : Int} (hM : mX0_rowsLeft_40 S0 a1 a2 a3 = some o1) : gL l yX0_rowsLeft cX0_rowsLeft 7 1 0 0 D cy b n (enc b cy X S0) [.ref (b + 40), .int (iI a1), .int (iI a2), .int (iI a3)] (fun r u => r = jJ o1 ∧ u = (n, enc b cy X S0)) := by
  refine gL_of (by decide) (Nat.le_of_ble_eq_true rfl) ?_
  intro p e s m args below meth c S hr hlk hin hsz ls hl hG
  have hx := S.1
  have hb := S.2.1
  have hl : lv_has ls 7 [(0, .ref (b + 40)), (1, .int (iI a1)), (2, .int (iI a2)), (3, .int (iI a3))] := hl
  replace hG : gW D cy b n s s.heap [] (enc b cy X S0) := hG
  obtain ⟨H, eH⟩ : ∃ H, H = s.heap := ⟨_, rfl⟩
  obtain ⟨locs, elocs⟩ : ∃ locs : List Loc, locs = [] := ⟨_, rfl⟩
  rw [← eH, ← elocs] at hG
  rw [← eH, ← elocs]
  clear eH elocs
  unfold mX0_rowsLeft_40 at hM
  refine lv_aload_n hx hb dX0_rowsLeft_0 rfl (lv_at hl 0 rfl) ?_
  refine m_get S hG 40 40 0 rfl ec_40 cpX0 wm_403 dX0_rowsLeft_1 rfl (Nat.lt_of_lt_of_le (Nat.le_of_ble_eq_true rfl) hn) (by decide) ?_
  refine m_get S hG 2 2 6 rfl ec_2 cpX2 wm_245 dX0_rowsLeft_4 rfl (Nat.lt_of_lt_of_le (Nat.le_of_ble_eq_true rfl) hn) (by decide) ?_
  refine lv_iload_n hx hb dX0_rowsLeft_7 rfl (lv_at hl 1 rfl) ?_
  obtain ⟨hg_1, hM⟩ := gd_some hM
  refine mi_ald S hG 4 4 rfl ec_4 (Nat.lt_of_lt_of_le (Nat.le_of_ble_eq_true rfl) hn) dX0_rowsLeft_8 hg_1 (by decide) ?_
  obtain ⟨hg_2, hM⟩ := gd_some hM
  refine gi_if_eq (tgt := 29) hx hb dX0_rowsLeft_9 (by decide) hg_2 (fun c_3 => ?_) (fun c_3 => ?_)
  · replace hM := ifp hM c_3
    refine lv_iload_n hx hb dX0_rowsLeft_29 rfl (lv_at hl 3 rfl) ?_
    obtain ⟨z_4, hc_5, hM⟩ := bd1_some hM
    have hK_6 : ∀ (H : Heap) (locs : List Loc) (ls : Array Slot), gW D cy b n s H locs (enc b cy X S0) → lv_has ls 7 [(0, .ref (b + 40)), (1, .int (iI a1)), (3, .int (iI a3))] → W p l e (gRm 1 0 0) s m args below meth c H locs 0 0 (gQL D cy b s args below 0 0 (fun r u => r = jJ o1 ∧ u = (n, enc b cy X S0))) (F0 m 38 ls [.long (jJ z_4)]) := by
      intro H locs ls hG hl
      refine lv_lstore (lv' := [(4, .long (jJ z_4)), (0, .ref (b + 40)), (1, .int (iI a1)), (3, .int (iI a3))]) hx hb dX0_rowsLeft_38 hl (by decide) rfl (fun ls hl => ?_)
      refine lv_iconst (v := iI 1) hx hb dX0_rowsLeft_40 (by decide) ?_
      refine lv_istore (lv' := [(6, .int (iI 1)), (4, .long (jJ z_4)), (0, .ref (b + 40)), (1, .int (iI a1)), (3, .int (iI a3))]) hx hb dX0_rowsLeft_41 hl (by decide) rfl (fun ls hl => ?_)
      obtain ⟨y_9, hc_10, hM⟩ := bd1_some hM
      have hK_11 : ∀ (H : Heap) (locs : List Loc) (ls : Array Slot), gW D cy b n s H locs (enc b cy X S0) → lv_has ls 7 [(4, .long (jJ y_9))] → W p l e (gRm 1 0 0) s m args below meth c H locs 0 0 (gQL D cy b s args below 0 0 (fun r u => r = jJ o1 ∧ u = (n, enc b cy X S0))) (F0 m 71 ls []) := by
        intro H locs ls hG hl
        refine lv_lload hx hb dX0_rowsLeft_71 (lv_at hl 0 rfl) ?_
        cases hM
        exact g_lret S hr hlk hG hsz dX0_rowsLeft_73 ⟨Nat.le_of_ble_eq_true rfl, Nat.le_of_ble_eq_true rfl⟩ ⟨rfl, rfl⟩
      have loop_12 : ∀ (f : Nat) (v_7 : Int) (v_8 : Int) (H : Heap) (locs : List Loc) (ls : Array Slot), mX0_rowsLeft_40_43 S0 a1 a3 f v_7 v_8 = some y_9 → gW D cy b n s H locs (enc b cy X S0) → lv_has ls 7 [(6, .int (iI v_7)), (4, .long (jJ v_8)), (0, .ref (b + 40)), (1, .int (iI a1)), (3, .int (iI a3))] → W p l e (gRm 1 0 0) s m args below meth c H locs 0 0 (gQL D cy b s args below 0 0 (fun r u => r = jJ o1 ∧ u = (n, enc b cy X S0))) (F0 m 43 ls []) := by
        clear hM
        intro f
        induction f with
        | zero => intro v_7 v_8 H locs ls hM; rw [mX0_rowsLeft_40_43] at hM; cases hM
        | succ f_14 ih_13 =>
          intro v_7 v_8 H locs ls hM hG hl
          rw [mX0_rowsLeft_40_43] at hM
          refine lv_iload hx hb dX0_rowsLeft_43 (lv_at hl 0 rfl) ?_
          refine lv_iload_n hx hb dX0_rowsLeft_45 rfl (lv_at hl 4 rfl) ?_
          obtain ⟨hg_15, hM⟩ := gd_some hM
          refine gi_icmp_gt (tgt := 71) hx hb dX0_rowsLeft_46 (by decide) hg_15.1 hg_15.2 (fun c_16 => ?_) (fun c_16 => ?_)
          · replace hM := ifp hM c_16
            cases hM
            exact hK_11 H locs ls hG (lv_sub hl [1] rfl)
          · replace hM := ifn hM c_16
            refine lv_lload hx hb dX0_rowsLeft_49 (lv_at hl 1 rfl) ?_
            refine lv_aload_n hx hb dX0_rowsLeft_51 rfl (lv_at hl 2 rfl) ?_
            refine lv_iload_n hx hb dX0_rowsLeft_52 rfl (lv_at hl 3 rfl) ?_
            refine lv_iload hx hb dX0_rowsLeft_53 (lv_at hl 0 rfl) ?_
            refine lv_iload_n hx hb dX0_rowsLeft_55 rfl (lv_at hl 4 rfl) ?_
            refine lv_iconst (v := iI 0) hx hb dX0_rowsLeft_56 (by decide) ?_
            obtain ⟨r_18, hc_17, hM⟩ := bd1_some hM
            refine g_vl (As := [.int (iI a1), .int (iI v_7), .int (iI a3), .int (iI 0)]) (rest := [.long (jJ v_8)]) S hG hsz (vX0_rowsOf_40 l hn a1 v_7 a3 0 hc_17) wV_0_101 (ec_40 _) cpX0 (Nat.lt_of_lt_of_le (Nat.le_of_ble_eq_true rfl) hn) dX0_rowsLeft_57 rfl hl.1 (ar := 4) (by decide +kernel) rfl ⟨Nat.le_of_ble_eq_true rfl, Nat.le_of_ble_eq_true rfl, Nat.le_of_ble_eq_true rfl, Nat.le_of_ble_eq_true rfl⟩ (Nat.le_of_ble_eq_true rfl) (fun rv uu H locs hp hG => ?_)
            obtain ⟨rfl, rfl⟩ := hp
            replace hG : gW D cy b n s H locs (enc b cy X S0) := hG
            obtain ⟨r_20, hc_19, hM⟩ := bd1_some hM
            refine g_slN (As := [.long (jJ v_8), .long (jJ r_18)]) (rest := []) S hG hsz (vX11_plus l hn v_8 r_18 hc_19) (y := yX11_plus) (host := "GrownKinds") (by decide +kernel) ⟨wm_997, wm_177, wm_998, by decide +kernel, by decide +kernel⟩ dX0_rowsLeft_60 rfl hl.1 (ar := 2) (by decide +kernel) rfl ⟨Nat.le_of_ble_eq_true rfl, Nat.le_of_ble_eq_true rfl, Nat.le_of_ble_eq_true rfl, Nat.le_of_ble_eq_true rfl⟩ (Nat.le_of_ble_eq_true rfl) (fun rv uu H locs hp hG => ?_)
            obtain ⟨rfl, rfl⟩ := hp
            replace hG : gW D cy b n s H locs (enc b cy X S0) := hG
            refine lv_lstore (lv' := [(4, .long (jJ r_20)), (6, .int (iI v_7)), (0, .ref (b + 40)), (1, .int (iI a1)), (3, .int (iI a3))]) hx hb dX0_rowsLeft_63 hl (by decide) rfl (fun ls hl => ?_)
            refine lv_iinc (v := iI (v_7 + 1)) (lv' := [(6, .int (iI (v_7 + 1))), (4, .long (jJ r_20)), (0, .ref (b + 40)), (1, .int (iI a1)), (3, .int (iI a3))]) hx hb dX0_rowsLeft_65 hl (k := 1) rfl ((iI_add v_7 (1)).trans (congrArg iI (by omega))) (by decide) rfl (fun ls hl => ?_)
            refine lv_goto (tgt := 43) hx hb dX0_rowsLeft_68 (by decide) ?_
            exact ih_13 (v_7 + 1) r_20 H locs ls hM hG (lv_sub hl [0, 1, 2, 3, 4] rfl)
      exact loop_12 FU 1 z_4 H locs ls hc_10 hG (lv_sub hl [0, 1, 2, 3, 4] rfl)
    clear hM
    replace hM := hc_5
    obtain ⟨hg_21, hM⟩ := gd_some hM
    refine gi_if_ne (tgt := 37) hx hb dX0_rowsLeft_30 (by decide) hg_21 (fun c_22 => ?_) (fun c_22 => ?_)
    · replace hM := ifn hM c_22
      refine lv_lconst (v := jJ 0) hx hb dX0_rowsLeft_37 (by decide) ?_
      cases hM
      exact hK_6 H locs ls hG (lv_sub hl [0, 1, 3] rfl)
    · replace hM := ifp hM c_22
      refine lv_lconst (v := jJ 1) hx hb dX0_rowsLeft_33 (by decide) ?_
      refine lv_goto (tgt := 38) hx hb dX0_rowsLeft_34 (by decide) ?_
      cases hM
      exact hK_6 H locs ls hG (lv_sub hl [0, 1, 3] rfl)
  · replace hM := ifn hM c_3
    refine lv_iload_n hx hb dX0_rowsLeft_12 rfl (lv_at hl 2 rfl) ?_
    obtain ⟨hg_23, hM⟩ := gd_some hM
    refine gi_if_ge (tgt := 20) hx hb dX0_rowsLeft_13 (by decide) hg_23 (fun c_24 => ?_) (fun c_24 => ?_)
    · replace hM := ifp hM c_24
      refine lv_aload_n hx hb dX0_rowsLeft_20 rfl (lv_at hl 0 rfl) ?_
      refine lv_iload_n hx hb dX0_rowsLeft_21 rfl (lv_at hl 1 rfl) ?_
      refine lv_iload_n hx hb dX0_rowsLeft_22 rfl (lv_at hl 2 rfl) ?_
      refine lv_iload_n hx hb dX0_rowsLeft_23 rfl (lv_at hl 3 rfl) ?_
      refine lv_iconst (v := iI 0) hx hb dX0_rowsLeft_24 (by decide) ?_
      obtain ⟨r_26, hc_25, hM⟩ := bd1_some hM
      refine g_vl (As := [.int (iI a1), .int (iI a2), .int (iI a3), .int (iI 0)]) (rest := []) S hG hsz (vX0_rowsOf_40 l hn a1 a2 a3 0 hc_25) wV_0_101 (ec_40 _) cpX0 (Nat.lt_of_lt_of_le (Nat.le_of_ble_eq_true rfl) hn) dX0_rowsLeft_25 rfl hl.1 (ar := 4) (by decide +kernel) rfl ⟨Nat.le_of_ble_eq_true rfl, Nat.le_of_ble_eq_true rfl, Nat.le_of_ble_eq_true rfl, Nat.le_of_ble_eq_true rfl⟩ (Nat.le_of_ble_eq_true rfl) (fun rv uu H locs hp hG => ?_)
      obtain ⟨rfl, rfl⟩ := hp
      replace hG : gW D cy b n s H locs (enc b cy X S0) := hG
      cases hM
      exact g_lret S hr hlk hG hsz dX0_rowsLeft_28 ⟨Nat.le_of_ble_eq_true rfl, Nat.le_of_ble_eq_true rfl⟩ ⟨rfl, rfl⟩
    · replace hM := ifn hM c_24
      refine lv_lconst (v := jJ 0) hx hb dX0_rowsLeft_16 (by decide) ?_
      refine lv_goto (tgt := 28) hx hb dX0_rowsLeft_17 (by decide) ?_
      cases hM
      exact g_lret S hr hlk hG hsz dX0_rowsLeft_28 ⟨Nat.le_of_ble_eq_true rfl, Nat.le_of_ble_eq_true rfl⟩ ⟨rfl, rfl⟩
theorem wV_8_49 : gWV "GrownKinds$Sequences" 49 yX0_of cX0_of 3 (some .long) := ⟨wm_1325, wm_1306, wm_1307, wm_181, wm_1308, by decide +kernel, by decide +kernel⟩
def mX0_of_40 (S0 : St) (a1 : Int) (a2 : Int) : Option (Int) := gd (0 ≤ ((a1 * 64) + (a2 * 8)) ∧ ((a1 * 64) + (a2 * 8)) < 1536) <| some ((S0 41 ((a1 * 64) + (a2 * 8))))
set_option maxHeartbeats 4000000 in
set_option maxRecDepth 100000 in
theorem vX0_of_40 (l : Launch) {D : va_G} {cy : Nat → ClassId} {b n : Nat} (hn : 102 ≤ n) {X : Nat → va_E} {S0 : St} (a1 : Int) (a2 : Int) {o1 : Int} (hM : mX0_of_40 S0 a1 a2 = some o1) : gL l yX0_of cX0_of 3 0 0 0 D cy b n (enc b cy X S0) [.ref (b + 40), .int (iI a1), .int (iI a2)] (fun r u => r = jJ o1 ∧ u = (n, enc b cy X S0)) := by
  refine gL_of (by decide) (Nat.le_of_ble_eq_true rfl) ?_
  intro p e s m args below meth c S hr hlk hin hsz ls hl hG
  have hx := S.1
  have hb := S.2.1
  have hl : lv_has ls 3 [(0, .ref (b + 40)), (1, .int (iI a1)), (2, .int (iI a2))] := hl
  replace hG : gW D cy b n s s.heap [] (enc b cy X S0) := hG
  obtain ⟨H, eH⟩ : ∃ H, H = s.heap := ⟨_, rfl⟩
  obtain ⟨locs, elocs⟩ : ∃ locs : List Loc, locs = [] := ⟨_, rfl⟩
  rw [← eH, ← elocs] at hG
  rw [← eH, ← elocs]
  clear eH elocs
  unfold mX0_of_40 at hM
  refine lv_aload_n hx hb dX0_of_0 rfl (lv_at hl 0 rfl) ?_
  refine m_get S hG 40 40 2 rfl ec_40 cpX0 wm_405 dX0_of_1 rfl (Nat.lt_of_lt_of_le (Nat.le_of_ble_eq_true rfl) hn) (by decide) ?_
  refine lv_iload_n hx hb dX0_of_4 rfl (lv_at hl 1 rfl) ?_
  refine lv_bipush (v := iI 64) hx hb dX0_of_5 (by decide) ?_
  refine gi_mul hx hb dX0_of_7 ?_
  refine lv_iload_n hx hb dX0_of_8 rfl (lv_at hl 2 rfl) ?_
  refine lv_bipush (v := iI 8) hx hb dX0_of_9 (by decide) ?_
  refine gi_mul hx hb dX0_of_11 ?_
  refine gi_add hx hb dX0_of_12 ?_
  obtain ⟨hg_1, hM⟩ := gd_some hM
  refine mj_ald S hG 41 41 rfl ec_41 (Nat.lt_of_lt_of_le (Nat.le_of_ble_eq_true rfl) hn) dX0_of_13 hg_1 (by decide) ?_
  cases hM
  exact g_lret S hr hlk hG hsz dX0_of_14 ⟨Nat.le_of_ble_eq_true rfl, Nat.le_of_ble_eq_true rfl⟩ ⟨rfl, rfl⟩
theorem wV_8_57 : gWV "GrownKinds$Sequences" 57 yX8_add cX8_add 4 none := ⟨wm_1327, wm_1329, wm_60, wm_184, wm_1330, by decide +kernel, by decide +kernel⟩
def mX8_findRow_70 (S_8 : St) (v_5 : Int) (v_7 : Int) (a1 : Int) : Nat → Int → Int → Int → Option (Int × Int × Int)
  | 0, _, _, _ => none
  | f + 1, v_23, v_24, v_25 => gd (inI v_24) <| if v_7 ≤ v_24 then (some (v_25, v_24, v_23)) else (bd1 (mX0_of_40 S_8 (S_8 61 5) v_24) fun r_44 => bd1 (mX11_times r_44 v_23) fun r_46 => gd ((inL v_25) ∧ (inL r_46)) <| if v_25 < r_46 then (some (v_25, v_24, v_23)) else (bd1 (mX0_of_40 S_8 (S_8 61 5) v_24) fun r_50 => bd1 (mX11_times r_50 v_23) fun r_52 => nx (v_25 - r_52) fun x_53 => bd1 (mX0_rowsLeft_40 S_8 a1 ((S_8 4 a1) - v_5) (v_7 - (v_24 + 1))) fun r_55 => mX8_findRow_70 S_8 v_5 v_7 a1 f r_55 (v_24 + 1) x_53))
def mX8_findRow_28 (a1 : Int) : Nat → Int → Int → Int → St → Option (Int × St)
  | 0, _, _, _, _ => none
  | f + 1, v_5, v_6, v_7, S_8 => gd (inI v_5) <| if 8 ≤ v_5 then (some (1, S_8)) else (gd (inI v_7) <| if v_7 ≤ 0 then (some (1, S_8)) else (bd1 (mX0_rowsLeft_40 S_8 a1 ((S_8 4 a1) - v_5) (v_7 - 1)) fun r_22 => bd3 (mX8_findRow_70 S_8 v_5 v_7 a1 FU r_22 1 v_6) fun y_26 y_27 y_28 => gd (inL y_28) <| if 1 ≤ y_28 then (gd ((0 ≤ y_26 ∧ y_26 ≤ 9223372036854775807) ∧ (0 < y_28 ∧ y_28 ≤ 9223372036854775807)) <| bd1 (mX8_add S_8 y_27 (y_26 / y_28)) fun S_35 => nx (y_26 % y_28) fun x_36 => nx (v_7 - y_27) fun x_37 => mX8_findRow_28 a1 f (v_5 + 1) x_36 x_37 S_35) else (some (0, S_8))))
def mX8_findRow (S0 : St) (a1 : Int) (a2 : Int) (a3 : Int) : Option (St) := nx (up S0 61 2 0) fun S_1 => gd (0 ≤ a1 ∧ a1 < 24) <| nx (up S_1 61 5 (S_1 5 a1)) fun S_3 => gd (inI a3) <| bd2 (mX8_findRow_28 a1 FU 1 a3 a2 S_3) fun t_9 S_10 => if t_9 = 0 then (some (S_10)) else (some (S_10))
set_option maxHeartbeats 4000000 in
set_option maxRecDepth 100000 in
theorem vX8_findRow (l : Launch) {D : va_G} {cy : Nat → ClassId} {b n : Nat} (hn : 102 ≤ n) {X : Nat → va_E} {S0 : St} (a1 : Int) (a2 : Int) (a3 : Int) {o1 : St} (hM : mX8_findRow S0 a1 a2 a3 = some o1) : gV l yX8_findRow cX8_findRow 11 2 0 0 D cy b n (enc b cy X S0) [.ref (b + 59), .int (iI a1), .int (iI a2), .int (iI a3)] (fun u => u = (n, enc b cy X o1)) := by
  refine gV_of (by decide) (Nat.le_of_ble_eq_true rfl) ?_
  intro p e s m args below meth c S hr hlk hin hsz ls hl hG
  have hx := S.1
  have hb := S.2.1
  have hl : lv_has ls 11 [(0, .ref (b + 59)), (1, .int (iI a1)), (2, .int (iI a2)), (3, .int (iI a3))] := hl
  replace hG : gW D cy b n s s.heap [] (enc b cy X S0) := hG
  obtain ⟨H, eH⟩ : ∃ H, H = s.heap := ⟨_, rfl⟩
  obtain ⟨locs, elocs⟩ : ∃ locs : List Loc, locs = [] := ⟨_, rfl⟩
  rw [← eH, ← elocs] at hG
  rw [← eH, ← elocs]
  clear eH elocs
  unfold mX8_findRow at hM
  refine lv_aload_n hx hb dX8_findRow_0 rfl (lv_at hl 0 rfl) ?_
  refine lv_iconst (v := iI 0) hx hb dX8_findRow_1 (by decide) ?_
  refine m_put S hG 59 61 2 rfl 2 0 ec_61 cpX8 wm_472 dX8_findRow_2 (pf_61_2) (Nat.lt_of_lt_of_le (Nat.le_of_ble_eq_true rfl) hn) (by decide) (Nat.le_of_ble_eq_true rfl) rfl rfl rfl (fun H locs S_1 eS_1 hG => ?_)
  replace hM := nx_at hM eS_1
  clear eS_1
  refine lv_aload_n hx hb dX8_findRow_5 rfl (lv_at hl 0 rfl) ?_
  refine lv_aload_n hx hb dX8_findRow_6 rfl (lv_at hl 0 rfl) ?_
  refine m_get S hG 59 61 0 rfl ec_61 cpX8 wm_470 dX8_findRow_7 rfl (Nat.lt_of_lt_of_le (Nat.le_of_ble_eq_true rfl) hn) (by decide) ?_
  refine m_get S hG 2 2 7 rfl ec_2 cpX2 wm_248 dX8_findRow_10 rfl (Nat.lt_of_lt_of_le (Nat.le_of_ble_eq_true rfl) hn) (by decide) ?_
  refine lv_iload_n hx hb dX8_findRow_13 rfl (lv_at hl 1 rfl) ?_
  obtain ⟨hg_2, hM⟩ := gd_some hM
  refine mi_ald S hG 5 5 rfl ec_5 (Nat.lt_of_lt_of_le (Nat.le_of_ble_eq_true rfl) hn) dX8_findRow_14 hg_2 (by decide) ?_
  refine m_put S hG 59 61 5 rfl 5 (S_1 5 a1) ec_61 cpX8 wm_477 dX8_findRow_15 (pf_61_5) (Nat.lt_of_lt_of_le (Nat.le_of_ble_eq_true rfl) hn) (by decide) (Nat.le_of_ble_eq_true rfl) rfl rfl rfl (fun H locs S_3 eS_3 hG => ?_)
  replace hM := nx_at hM eS_3
  clear eS_3
  refine lv_iload_n hx hb dX8_findRow_18 rfl (lv_at hl 2 rfl) ?_
  refine lv_istore (lv' := [(4, .int (iI a2)), (0, .ref (b + 59)), (1, .int (iI a1)), (2, .int (iI a2)), (3, .int (iI a3))]) hx hb dX8_findRow_19 hl (by decide) rfl (fun ls hl => ?_)
  refine lv_iload_n hx hb dX8_findRow_21 rfl (lv_at hl 4 rfl) ?_
  obtain ⟨hg_4, hM⟩ := gd_some hM
  refine gi_i2l hx hb dX8_findRow_22 hg_4 ?_
  refine lv_lstore (lv' := [(5, .long (jJ a3)), (4, .int (iI a2)), (0, .ref (b + 59)), (1, .int (iI a1)), (2, .int (iI a2)), (3, .int (iI a3))]) hx hb dX8_findRow_23 hl (by decide) rfl (fun ls hl => ?_)
  refine lv_iconst (v := iI 1) hx hb dX8_findRow_25 (by decide) ?_
  refine lv_istore (lv' := [(7, .int (iI 1)), (5, .long (jJ a3)), (4, .int (iI a2)), (0, .ref (b + 59)), (1, .int (iI a1)), (2, .int (iI a2)), (3, .int (iI a3))]) hx hb dX8_findRow_26 hl (by decide) rfl (fun ls hl => ?_)
  obtain ⟨t_9, S_10, hc_11, hM⟩ := bd2_some hM
  have hK_12 : ∀ (H : Heap) (locs : List Loc) (ls : Array Slot), t_9 = 0 → gW D cy b n s H locs (enc b cy X S_10) → lv_has ls 11 [] → W p l e (gRm 2 0 0) s m args below meth c H locs 0 0 (gQV D cy b s args below 0 0 (fun u => u = (n, enc b cy X o1))) (F0 m 164 ls []) := by
    intro H locs ls ht hG hl
    subst ht
    replace hM := ifp hM rfl
    cases hM
    exact g_vret S hr hlk hG hsz dX8_findRow_164 ⟨Nat.le_of_ble_eq_true rfl, Nat.le_of_ble_eq_true rfl⟩ rfl
  have hK_13 : ∀ (H : Heap) (locs : List Loc) (ls : Array Slot), t_9 = 1 → gW D cy b n s H locs (enc b cy X S_10) → lv_has ls 11 [] → W p l e (gRm 2 0 0) s m args below meth c H locs 0 0 (gQV D cy b s args below 0 0 (fun u => u = (n, enc b cy X o1))) (F0 m 196 ls []) := by
    intro H locs ls ht hG hl
    subst ht
    replace hM := ifn hM (by decide)
    cases hM
    exact g_vret S hr hlk hG hsz dX8_findRow_196 ⟨Nat.le_of_ble_eq_true rfl, Nat.le_of_ble_eq_true rfl⟩ rfl
  have loop_14 : ∀ (f : Nat) (v_5 : Int) (v_6 : Int) (v_7 : Int) (S_8 : St) (H : Heap) (locs : List Loc) (ls : Array Slot), mX8_findRow_28 a1 f v_5 v_6 v_7 S_8 = some (t_9, S_10) → gW D cy b n s H locs (enc b cy X S_8) → lv_has ls 11 [(7, .int (iI v_5)), (5, .long (jJ v_6)), (4, .int (iI v_7)), (0, .ref (b + 59)), (1, .int (iI a1))] → W p l e (gRm 2 0 0) s m args below meth c H locs 0 0 (gQV D cy b s args below 0 0 (fun u => u = (n, enc b cy X o1))) (F0 m 28 ls []) := by
    clear hM
    intro f
    induction f with
    | zero => intro v_5 v_6 v_7 S_8 H locs ls hM; rw [mX8_findRow_28] at hM; cases hM
    | succ f_16 ih_15 =>
      intro v_5 v_6 v_7 S_8 H locs ls hM hG hl
      rw [mX8_findRow_28] at hM
      refine lv_iload hx hb dX8_findRow_28 (lv_at hl 0 rfl) ?_
      refine lv_bipush (v := iI 8) hx hb dX8_findRow_30 (by decide) ?_
      obtain ⟨hg_17, hM⟩ := gd_some hM
      refine gi_icmp_ge (tgt := 196) hx hb dX8_findRow_32 (by decide) hg_17 (by decide) (fun c_18 => ?_) (fun c_18 => ?_)
      · replace hM := ifp hM c_18
        cases hM
        exact hK_13 H locs ls rfl hG (lv_sub hl [] rfl)
      · replace hM := ifn hM c_18
        refine lv_iload hx hb dX8_findRow_35 (lv_at hl 2 rfl) ?_
        obtain ⟨hg_19, hM⟩ := gd_some hM
        refine gi_if_le (tgt := 196) hx hb dX8_findRow_37 (by decide) hg_19 (fun c_20 => ?_) (fun c_20 => ?_)
        · replace hM := ifp hM c_20
          cases hM
          exact hK_13 H locs ls rfl hG (lv_sub hl [] rfl)
        · replace hM := ifn hM c_20
          refine lv_iconst (v := iI 1) hx hb dX8_findRow_40 (by decide) ?_
          refine lv_istore (lv' := [(8, .int (iI 1)), (7, .int (iI v_5)), (5, .long (jJ v_6)), (4, .int (iI v_7)), (0, .ref (b + 59)), (1, .int (iI a1))]) hx hb dX8_findRow_41 hl (by decide) rfl (fun ls hl => ?_)
          refine lv_aload_n hx hb dX8_findRow_43 rfl (lv_at hl 4 rfl) ?_
          refine m_get S hG 59 61 1 rfl ec_61 cpX8 wm_471 dX8_findRow_44 rfl (Nat.lt_of_lt_of_le (Nat.le_of_ble_eq_true rfl) hn) (by decide) ?_
          refine lv_iload_n hx hb dX8_findRow_47 rfl (lv_at hl 5 rfl) ?_
          refine lv_aload_n hx hb dX8_findRow_48 rfl (lv_at hl 4 rfl) ?_
          refine m_get S hG 59 61 0 rfl ec_61 cpX8 wm_470 dX8_findRow_49 rfl (Nat.lt_of_lt_of_le (Nat.le_of_ble_eq_true rfl) hn) (by decide) ?_
          refine m_get S hG 2 2 6 rfl ec_2 cpX2 wm_241 dX8_findRow_52 rfl (Nat.lt_of_lt_of_le (Nat.le_of_ble_eq_true rfl) hn) (by decide) ?_
          refine lv_iload_n hx hb dX8_findRow_55 rfl (lv_at hl 5 rfl) ?_
          refine mi_ald S hG 4 4 rfl ec_4 (Nat.lt_of_lt_of_le (Nat.le_of_ble_eq_true rfl) hn) dX8_findRow_56 hg_2 (by decide) ?_
          refine lv_iload hx hb dX8_findRow_57 (lv_at hl 1 rfl) ?_
          refine gi_sub hx hb dX8_findRow_59 ?_
          refine lv_iload hx hb dX8_findRow_60 (lv_at hl 3 rfl) ?_
          refine lv_iload hx hb dX8_findRow_62 (lv_at hl 0 rfl) ?_
          refine gi_sub hx hb dX8_findRow_64 ?_
          obtain ⟨r_22, hc_21, hM⟩ := bd1_some hM
          refine g_vl (As := [.int (iI a1), .int (iI ((S_8 4 a1) - v_5)), .int (iI (v_7 - 1))]) (rest := []) S hG hsz (vX0_rowsLeft_40 l hn a1 ((S_8 4 a1) - v_5) (v_7 - 1) hc_21) wV_8_43 (ec_40 _) cpX0 (Nat.lt_of_lt_of_le (Nat.le_of_ble_eq_true rfl) hn) dX8_findRow_65 rfl hl.1 (ar := 3) (by decide +kernel) rfl ⟨Nat.le_of_ble_eq_true rfl, Nat.le_of_ble_eq_true rfl, Nat.le_of_ble_eq_true rfl, Nat.le_of_ble_eq_true rfl⟩ (Nat.le_of_ble_eq_true rfl) (fun rv uu H locs hp hG => ?_)
          obtain ⟨rfl, rfl⟩ := hp
          replace hG : gW D cy b n s H locs (enc b cy X S_8) := hG
          refine lv_lstore (lv' := [(9, .long (jJ r_22)), (8, .int (iI 1)), (7, .int (iI v_5)), (5, .long (jJ v_6)), (4, .int (iI v_7)), (0, .ref (b + 59)), (1, .int (iI a1))]) hx hb dX8_findRow_68 hl (by decide) rfl (fun ls hl => ?_)
          obtain ⟨y_26, y_27, y_28, hc_29, hM⟩ := bd3_some hM
          have hK_30 : ∀ (H : Heap) (locs : List Loc) (ls : Array Slot), gW D cy b n s H locs (enc b cy X S_8) → lv_has ls 11 [(7, .int (iI v_5)), (4, .int (iI v_7)), (0, .ref (b + 59)), (1, .int (iI a1)), (5, .long (jJ y_26)), (8, .int (iI y_27)), (9, .long (jJ y_28))] → W p l e (gRm 2 0 0) s m args below meth c H locs 0 0 (gQV D cy b s args below 0 0 (fun u => u = (n, enc b cy X o1))) (F0 m 157 ls []) := by
            intro H locs ls hG hl
            refine lv_lload hx hb dX8_findRow_157 (lv_at hl 6 rfl) ?_
            refine lv_lconst (v := jJ 1) hx hb dX8_findRow_159 (by decide) ?_
            obtain ⟨hg_31, hM⟩ := gd_some hM
            refine gj_cmp_ge (tgt := 165) hx hb dX8_findRow_160 dX8_findRow_161 (by decide) hg_31 (by decide) (fun c_32 => ?_) (fun c_32 => ?_)
            · replace hM := ifp hM c_32
              refine lv_aload_n hx hb dX8_findRow_165 rfl (lv_at hl 2 rfl) ?_
              refine lv_iload hx hb dX8_findRow_166 (lv_at hl 5 rfl) ?_
              refine lv_lload hx hb dX8_findRow_168 (lv_at hl 4 rfl) ?_
              refine lv_lload hx hb dX8_findRow_170 (lv_at hl 6 rfl) ?_
              obtain ⟨hg_33, hM⟩ := gd_some hM
              refine gj_div hx hb dX8_findRow_172 hg_33.1 hg_33.2 ?_
              obtain ⟨S_35, hc_34, hM⟩ := bd1_some hM
              refine g_vv (As := [.int (iI y_27), .long (jJ (y_26 / y_28))]) (rest := []) S hG hsz (vX8_add l hn y_27 (y_26 / y_28) hc_34) wV_8_57 (ec_61 _) cpX8 (Nat.lt_of_lt_of_le (Nat.le_of_ble_eq_true rfl) hn) dX8_findRow_173 rfl hl.1 (ar := 2) (by decide +kernel) rfl ⟨Nat.le_of_ble_eq_true rfl, Nat.le_of_ble_eq_true rfl, Nat.le_of_ble_eq_true rfl, Nat.le_of_ble_eq_true rfl⟩ (Nat.le_of_ble_eq_true rfl) (fun uu H locs hp hG => ?_)
              obtain rfl := hp
              replace hG : gW D cy b n s H locs (enc b cy X S_35) := hG
              refine lv_lload hx hb dX8_findRow_176 (lv_at hl 4 rfl) ?_
              refine lv_lload hx hb dX8_findRow_178 (lv_at hl 6 rfl) ?_
              refine gj_rem hx hb dX8_findRow_180 hg_33.1 hg_33.2 ?_
              refine gj_nm (fun x_36 ex_36 => ?_)
              replace hM := nx_at hM ex_36
              clear ex_36
              refine lv_lstore (lv' := [(5, .long (jJ x_36)), (7, .int (iI v_5)), (4, .int (iI v_7)), (0, .ref (b + 59)), (1, .int (iI a1)), (8, .int (iI y_27)), (9, .long (jJ y_28))]) hx hb dX8_findRow_181 hl (by decide) rfl (fun ls hl => ?_)
              refine lv_iload hx hb dX8_findRow_183 (lv_at hl 2 rfl) ?_
              refine lv_iload hx hb dX8_findRow_185 (lv_at hl 5 rfl) ?_
              refine gi_sub hx hb dX8_findRow_187 ?_
              refine gi_nm (fun x_37 ex_37 => ?_)
              replace hM := nx_at hM ex_37
              clear ex_37
              refine lv_istore (lv' := [(4, .int (iI x_37)), (5, .long (jJ x_36)), (7, .int (iI v_5)), (0, .ref (b + 59)), (1, .int (iI a1)), (8, .int (iI y_27)), (9, .long (jJ y_28))]) hx hb dX8_findRow_188 hl (by decide) rfl (fun ls hl => ?_)
              refine lv_iinc (v := iI (v_5 + 1)) (lv' := [(7, .int (iI (v_5 + 1))), (4, .int (iI x_37)), (5, .long (jJ x_36)), (0, .ref (b + 59)), (1, .int (iI a1)), (8, .int (iI y_27)), (9, .long (jJ y_28))]) hx hb dX8_findRow_190 hl (k := 2) rfl ((iI_add v_5 (1)).trans (congrArg iI (by omega))) (by decide) rfl (fun ls hl => ?_)
              refine lv_goto (tgt := 28) hx hb dX8_findRow_193 (by decide) ?_
              exact ih_15 (v_5 + 1) x_36 x_37 S_35 H locs ls hM hG (lv_sub hl [0, 2, 1, 3, 4] rfl)
            · replace hM := ifn hM c_32
              cases hM
              exact hK_12 H locs ls rfl hG (lv_sub hl [] rfl)
          have loop_38 : ∀ (f : Nat) (v_23 : Int) (v_24 : Int) (v_25 : Int) (H : Heap) (locs : List Loc) (ls : Array Slot), mX8_findRow_70 S_8 v_5 v_7 a1 f v_23 v_24 v_25 = some (y_26, y_27, y_28) → gW D cy b n s H locs (enc b cy X S_8) → lv_has ls 11 [(9, .long (jJ v_23)), (8, .int (iI v_24)), (7, .int (iI v_5)), (5, .long (jJ v_25)), (4, .int (iI v_7)), (0, .ref (b + 59)), (1, .int (iI a1))] → W p l e (gRm 2 0 0) s m args below meth c H locs 0 0 (gQV D cy b s args below 0 0 (fun u => u = (n, enc b cy X o1))) (F0 m 70 ls []) := by
            clear hM
            intro f
            induction f with
            | zero => intro v_23 v_24 v_25 H locs ls hM; rw [mX8_findRow_70] at hM; cases hM
            | succ f_40 ih_39 =>
              intro v_23 v_24 v_25 H locs ls hM hG hl
              rw [mX8_findRow_70] at hM
              refine lv_iload hx hb dX8_findRow_70 (lv_at hl 1 rfl) ?_
              refine lv_iload hx hb dX8_findRow_72 (lv_at hl 4 rfl) ?_
              obtain ⟨hg_41, hM⟩ := gd_some hM
              refine gi_icmp_ge (tgt := 157) hx hb dX8_findRow_74 (by decide) hg_41 hg_19 (fun c_42 => ?_) (fun c_42 => ?_)
              · replace hM := ifp hM c_42
                cases hM
                exact hK_30 H locs ls hG (lv_sub hl [2, 4, 5, 6, 3, 1, 0] rfl)
              · replace hM := ifn hM c_42
                refine lv_lload hx hb dX8_findRow_77 (lv_at hl 3 rfl) ?_
                refine lv_aload_n hx hb dX8_findRow_79 rfl (lv_at hl 5 rfl) ?_
                refine m_get S hG 59 61 1 rfl ec_61 cpX8 wm_471 dX8_findRow_80 rfl (Nat.lt_of_lt_of_le (Nat.le_of_ble_eq_true rfl) hn) (by decide) ?_
                refine lv_aload_n hx hb dX8_findRow_83 rfl (lv_at hl 5 rfl) ?_
                refine m_get S hG 59 61 5 rfl ec_61 cpX8 wm_477 dX8_findRow_84 rfl (Nat.lt_of_lt_of_le (Nat.le_of_ble_eq_true rfl) hn) (by decide) ?_
                refine lv_iload hx hb dX8_findRow_87 (lv_at hl 1 rfl) ?_
                obtain ⟨r_44, hc_43, hM⟩ := bd1_some hM
                refine g_vl (As := [.int (iI (S_8 61 5)), .int (iI v_24)]) (rest := [.long (jJ v_25)]) S hG hsz (vX0_of_40 l hn (S_8 61 5) v_24 hc_43) wV_8_49 (ec_40 _) cpX0 (Nat.lt_of_lt_of_le (Nat.le_of_ble_eq_true rfl) hn) dX8_findRow_89 rfl hl.1 (ar := 2) (by decide +kernel) rfl ⟨Nat.le_of_ble_eq_true rfl, Nat.le_of_ble_eq_true rfl, Nat.le_of_ble_eq_true rfl, Nat.le_of_ble_eq_true rfl⟩ (Nat.le_of_ble_eq_true rfl) (fun rv uu H locs hp hG => ?_)
                obtain ⟨rfl, rfl⟩ := hp
                replace hG : gW D cy b n s H locs (enc b cy X S_8) := hG
                refine lv_lload hx hb dX8_findRow_92 (lv_at hl 0 rfl) ?_
                obtain ⟨r_46, hc_45, hM⟩ := bd1_some hM
                refine g_slN (As := [.long (jJ r_44), .long (jJ v_23)]) (rest := [.long (jJ v_25)]) S hG hsz (vX11_times l hn r_44 v_23 hc_45) (y := yX11_times) (host := "GrownKinds") (by decide +kernel) ⟨wm_1053, wm_177, wm_1054, by decide +kernel, by decide +kernel⟩ dX8_findRow_94 rfl hl.1 (ar := 2) (by decide +kernel) rfl ⟨Nat.le_of_ble_eq_true rfl, Nat.le_of_ble_eq_true rfl, Nat.le_of_ble_eq_true rfl, Nat.le_of_ble_eq_true rfl⟩ (Nat.le_of_ble_eq_true rfl) (fun rv uu H locs hp hG => ?_)
                obtain ⟨rfl, rfl⟩ := hp
                replace hG : gW D cy b n s H locs (enc b cy X S_8) := hG
                obtain ⟨hg_47, hM⟩ := gd_some hM
                refine gj_cmp_lt (tgt := 157) hx hb dX8_findRow_97 dX8_findRow_98 (by decide) hg_47.1 hg_47.2 (fun c_48 => ?_) (fun c_48 => ?_)
                · replace hM := ifp hM c_48
                  cases hM
                  exact hK_30 H locs ls hG (lv_sub hl [2, 4, 5, 6, 3, 1, 0] rfl)
                · replace hM := ifn hM c_48
                  refine lv_lload hx hb dX8_findRow_101 (lv_at hl 3 rfl) ?_
                  refine lv_aload_n hx hb dX8_findRow_103 rfl (lv_at hl 5 rfl) ?_
                  refine m_get S hG 59 61 1 rfl ec_61 cpX8 wm_471 dX8_findRow_104 rfl (Nat.lt_of_lt_of_le (Nat.le_of_ble_eq_true rfl) hn) (by decide) ?_
                  refine lv_aload_n hx hb dX8_findRow_107 rfl (lv_at hl 5 rfl) ?_
                  refine m_get S hG 59 61 5 rfl ec_61 cpX8 wm_477 dX8_findRow_108 rfl (Nat.lt_of_lt_of_le (Nat.le_of_ble_eq_true rfl) hn) (by decide) ?_
                  refine lv_iload hx hb dX8_findRow_111 (lv_at hl 1 rfl) ?_
                  obtain ⟨r_50, hc_49, hM⟩ := bd1_some hM
                  refine g_vl (As := [.int (iI (S_8 61 5)), .int (iI v_24)]) (rest := [.long (jJ v_25)]) S hG hsz (vX0_of_40 l hn (S_8 61 5) v_24 hc_49) wV_8_49 (ec_40 _) cpX0 (Nat.lt_of_lt_of_le (Nat.le_of_ble_eq_true rfl) hn) dX8_findRow_113 rfl hl.1 (ar := 2) (by decide +kernel) rfl ⟨Nat.le_of_ble_eq_true rfl, Nat.le_of_ble_eq_true rfl, Nat.le_of_ble_eq_true rfl, Nat.le_of_ble_eq_true rfl⟩ (Nat.le_of_ble_eq_true rfl) (fun rv uu H locs hp hG => ?_)
                  obtain ⟨rfl, rfl⟩ := hp
                  replace hG : gW D cy b n s H locs (enc b cy X S_8) := hG
                  refine lv_lload hx hb dX8_findRow_116 (lv_at hl 0 rfl) ?_
                  obtain ⟨r_52, hc_51, hM⟩ := bd1_some hM
                  refine g_slN (As := [.long (jJ r_50), .long (jJ v_23)]) (rest := [.long (jJ v_25)]) S hG hsz (vX11_times l hn r_50 v_23 hc_51) (y := yX11_times) (host := "GrownKinds") (by decide +kernel) ⟨wm_1053, wm_177, wm_1054, by decide +kernel, by decide +kernel⟩ dX8_findRow_118 rfl hl.1 (ar := 2) (by decide +kernel) rfl ⟨Nat.le_of_ble_eq_true rfl, Nat.le_of_ble_eq_true rfl, Nat.le_of_ble_eq_true rfl, Nat.le_of_ble_eq_true rfl⟩ (Nat.le_of_ble_eq_true rfl) (fun rv uu H locs hp hG => ?_)
                  obtain ⟨rfl, rfl⟩ := hp
                  replace hG : gW D cy b n s H locs (enc b cy X S_8) := hG
                  refine gj_sub hx hb dX8_findRow_121 ?_
                  refine gj_nm (fun x_53 ex_53 => ?_)
                  replace hM := nx_at hM ex_53
                  clear ex_53
                  refine lv_lstore (lv' := [(5, .long (jJ x_53)), (9, .long (jJ v_23)), (8, .int (iI v_24)), (7, .int (iI v_5)), (4, .int (iI v_7)), (0, .ref (b + 59)), (1, .int (iI a1))]) hx hb dX8_findRow_122 hl (by decide) rfl (fun ls hl => ?_)
                  refine lv_iinc (v := iI (v_24 + 1)) (lv' := [(8, .int (iI (v_24 + 1))), (5, .long (jJ x_53)), (9, .long (jJ v_23)), (7, .int (iI v_5)), (4, .int (iI v_7)), (0, .ref (b + 59)), (1, .int (iI a1))]) hx hb dX8_findRow_124 hl (k := 2) rfl ((iI_add v_24 (1)).trans (congrArg iI (by omega))) (by decide) rfl (fun ls hl => ?_)
                  refine lv_aload_n hx hb dX8_findRow_127 rfl (lv_at hl 5 rfl) ?_
                  refine m_get S hG 59 61 1 rfl ec_61 cpX8 wm_471 dX8_findRow_128 rfl (Nat.lt_of_lt_of_le (Nat.le_of_ble_eq_true rfl) hn) (by decide) ?_
                  refine lv_iload_n hx hb dX8_findRow_131 rfl (lv_at hl 6 rfl) ?_
                  refine lv_aload_n hx hb dX8_findRow_132 rfl (lv_at hl 5 rfl) ?_
                  refine m_get S hG 59 61 0 rfl ec_61 cpX8 wm_470 dX8_findRow_133 rfl (Nat.lt_of_lt_of_le (Nat.le_of_ble_eq_true rfl) hn) (by decide) ?_
                  refine m_get S hG 2 2 6 rfl ec_2 cpX2 wm_241 dX8_findRow_136 rfl (Nat.lt_of_lt_of_le (Nat.le_of_ble_eq_true rfl) hn) (by decide) ?_
                  refine lv_iload_n hx hb dX8_findRow_139 rfl (lv_at hl 6 rfl) ?_
                  refine mi_ald S hG 4 4 rfl ec_4 (Nat.lt_of_lt_of_le (Nat.le_of_ble_eq_true rfl) hn) dX8_findRow_140 hg_2 (by decide) ?_
                  refine lv_iload hx hb dX8_findRow_141 (lv_at hl 3 rfl) ?_
                  refine gi_sub hx hb dX8_findRow_143 ?_
                  refine lv_iload hx hb dX8_findRow_144 (lv_at hl 4 rfl) ?_
                  refine lv_iload hx hb dX8_findRow_146 (lv_at hl 0 rfl) ?_
                  refine gi_sub hx hb dX8_findRow_148 ?_
                  obtain ⟨r_55, hc_54, hM⟩ := bd1_some hM
                  refine g_vl (As := [.int (iI a1), .int (iI ((S_8 4 a1) - v_5)), .int (iI (v_7 - (v_24 + 1)))]) (rest := []) S hG hsz (vX0_rowsLeft_40 l hn a1 ((S_8 4 a1) - v_5) (v_7 - (v_24 + 1)) hc_54) wV_8_43 (ec_40 _) cpX0 (Nat.lt_of_lt_of_le (Nat.le_of_ble_eq_true rfl) hn) dX8_findRow_149 rfl hl.1 (ar := 3) (by decide +kernel) rfl ⟨Nat.le_of_ble_eq_true rfl, Nat.le_of_ble_eq_true rfl, Nat.le_of_ble_eq_true rfl, Nat.le_of_ble_eq_true rfl⟩ (Nat.le_of_ble_eq_true rfl) (fun rv uu H locs hp hG => ?_)
                  obtain ⟨rfl, rfl⟩ := hp
                  replace hG : gW D cy b n s H locs (enc b cy X S_8) := hG
                  refine lv_lstore (lv' := [(9, .long (jJ r_55)), (8, .int (iI (v_24 + 1))), (5, .long (jJ x_53)), (7, .int (iI v_5)), (4, .int (iI v_7)), (0, .ref (b + 59)), (1, .int (iI a1))]) hx hb dX8_findRow_152 hl (by decide) rfl (fun ls hl => ?_)
                  refine lv_goto (tgt := 70) hx hb dX8_findRow_154 (by decide) ?_
                  exact ih_39 r_55 (v_24 + 1) x_53 H locs ls hM hG (lv_sub hl [0, 1, 3, 2, 4, 5, 6] rfl)
          exact loop_38 FU r_22 1 v_6 H locs ls hc_29 hG (lv_sub hl [0, 1, 2, 3, 4, 5, 6] rfl)
  exact loop_14 FU 1 a3 a2 S_3 H locs ls hc_11 hG (lv_sub hl [0, 1, 2, 3, 4] rfl)
theorem wV_8_86 : gWV "GrownKinds$Sequences" 86 yX8_bagsWithin cX8_bagsWithin 15 (some .long) := ⟨wm_1360, wm_1362, wm_63, wm_184, wm_1363, by decide +kernel, by decide +kernel⟩
def mX8_findBag_127 (S_12 : St) (v_8 : Int) (v_9 : Int) (v_10 : Int) (v_11 : Int) (a1 : Int) (y_24 : Int) : Nat → Int → Int → Option (Int)
  | 0, _, _ => none
  | f + 1, v_31, v_32 => gd ((inL v_32) ∧ (inL v_31)) <| if v_31 ≤ v_32 then (some (v_32)) else (gd (0 ≤ (v_32 + v_31) ∧ (v_32 + v_31) ≤ 9223372036854775807) <| nx ((v_32 + v_31) / 2) fun x_50 => bd1 (mX8_bagsWithin S_12 a1 v_11 v_10 y_24 (x_50 + 1)) fun r_52 => gd ((inL r_52) ∧ (inL v_9)) <| if r_52 ≤ v_9 then (nx (x_50 + 1) fun x_55 => mX8_findBag_127 S_12 v_8 v_9 v_10 v_11 a1 y_24 f v_31 x_55) else (mX8_findBag_127 S_12 v_8 v_9 v_10 v_11 a1 y_24 f x_50 v_32))
def mX8_findBag_68 (S_12 : St) (v_8 : Int) (v_9 : Int) (v_10 : Int) (v_11 : Int) (a1 : Int) : Nat → Int → Option (Int)
  | 0, _ => none
  | f + 1, v_23 => gd (inI v_23) <| if v_10 ≤ v_23 then (some (v_23)) else (bd1 (mX0_bagsUpTo_40 S_12 a1 v_11 v_10 v_23) fun r_62 => gd ((inL r_62) ∧ (inL v_9)) <| if v_9 < r_62 then (some (v_23)) else (mX8_findBag_68 S_12 v_8 v_9 v_10 v_11 a1 f (v_23 + 1)))
def mX8_findBag_53 (a1 : Int) : Nat → Int → Int → Int → Int → St → Option (St)
  | 0, _, _, _, _, _ => none
  | f + 1, v_8, v_9, v_10, v_11, S_12 => gd (inI v_8) <| if 8 ≤ v_8 then (some (S_12)) else (gd (inI v_10) <| if v_10 ≤ 0 then (some (S_12)) else (bd1 (mX8_findBag_68 S_12 v_8 v_9 v_10 v_11 a1 FU 1) fun y_24 => bd1 (mX0_of_40 S_12 (S_12 61 5) y_24) fun r_28 => gd (inL r_28) <| nx ((min 1024 r_28) - 1) fun x_30 => bd1 (mX8_findBag_127 S_12 v_8 v_9 v_10 v_11 a1 y_24 FU x_30 0) fun y_33 => bd1 (mX8_bagsWithin S_12 a1 v_11 v_10 y_24 y_33) fun r_37 => nx (v_9 - r_37) fun x_38 => bd1 (mX8_add S_12 y_24 y_33) fun S_40 => nx (v_10 - y_24) fun x_41 => gd (inI (v_11 - 1)) <| nx (max 0 (v_11 - 1)) fun x_43 => mX8_findBag_53 a1 f (v_8 + 1) x_38 x_41 x_43 S_40))
def mX8_findBag (S0 : St) (a1 : Int) (a2 : Int) (a3 : Int) : Option (St) := nx (up S0 61 2 0) fun S_1 => gd (0 ≤ a1 ∧ a1 < 24) <| nx (up S_1 61 5 (S_1 5 a1)) fun S_3 => nx (S_3 4 a1) fun x_4 => gd (inI x_4) <| if x_4 = 1 then (gd (inI a3) <| bd1 (mX8_add S_3 a2 a3) fun S_67 => some (S_67)) else (gd (inI a3) <| bd1 (mX8_findBag_53 a1 FU 0 a3 a2 x_4 S_3) fun S_13 => some (S_13))
set_option maxHeartbeats 4000000 in
set_option maxRecDepth 100000 in
theorem vX8_findBag (l : Launch) {D : va_G} {cy : Nat → ClassId} {b n : Nat} (hn : 102 ≤ n) {X : Nat → va_E} {S0 : St} (a1 : Int) (a2 : Int) (a3 : Int) {o1 : St} (hM : mX8_findBag S0 a1 a2 a3 = some o1) : gV l yX8_findBag cX8_findBag 16 2 0 0 D cy b n (enc b cy X S0) [.ref (b + 59), .int (iI a1), .int (iI a2), .int (iI a3)] (fun u => u = (n, enc b cy X o1)) := by
  refine gV_of (by decide) (Nat.le_of_ble_eq_true rfl) ?_
  intro p e s m args below meth c S hr hlk hin hsz ls hl hG
  have hx := S.1
  have hb := S.2.1
  have hl : lv_has ls 16 [(0, .ref (b + 59)), (1, .int (iI a1)), (2, .int (iI a2)), (3, .int (iI a3))] := hl
  replace hG : gW D cy b n s s.heap [] (enc b cy X S0) := hG
  obtain ⟨H, eH⟩ : ∃ H, H = s.heap := ⟨_, rfl⟩
  obtain ⟨locs, elocs⟩ : ∃ locs : List Loc, locs = [] := ⟨_, rfl⟩
  rw [← eH, ← elocs] at hG
  rw [← eH, ← elocs]
  clear eH elocs
  unfold mX8_findBag at hM
  refine lv_aload_n hx hb dX8_findBag_0 rfl (lv_at hl 0 rfl) ?_
  refine lv_iconst (v := iI 0) hx hb dX8_findBag_1 (by decide) ?_
  refine m_put S hG 59 61 2 rfl 2 0 ec_61 cpX8 wm_472 dX8_findBag_2 (pf_61_2) (Nat.lt_of_lt_of_le (Nat.le_of_ble_eq_true rfl) hn) (by decide) (Nat.le_of_ble_eq_true rfl) rfl rfl rfl (fun H locs S_1 eS_1 hG => ?_)
  replace hM := nx_at hM eS_1
  clear eS_1
  refine lv_aload_n hx hb dX8_findBag_5 rfl (lv_at hl 0 rfl) ?_
  refine lv_aload_n hx hb dX8_findBag_6 rfl (lv_at hl 0 rfl) ?_
  refine m_get S hG 59 61 0 rfl ec_61 cpX8 wm_470 dX8_findBag_7 rfl (Nat.lt_of_lt_of_le (Nat.le_of_ble_eq_true rfl) hn) (by decide) ?_
  refine m_get S hG 2 2 7 rfl ec_2 cpX2 wm_248 dX8_findBag_10 rfl (Nat.lt_of_lt_of_le (Nat.le_of_ble_eq_true rfl) hn) (by decide) ?_
  refine lv_iload_n hx hb dX8_findBag_13 rfl (lv_at hl 1 rfl) ?_
  obtain ⟨hg_2, hM⟩ := gd_some hM
  refine mi_ald S hG 5 5 rfl ec_5 (Nat.lt_of_lt_of_le (Nat.le_of_ble_eq_true rfl) hn) dX8_findBag_14 hg_2 (by decide) ?_
  refine m_put S hG 59 61 5 rfl 5 (S_1 5 a1) ec_61 cpX8 wm_477 dX8_findBag_15 (pf_61_5) (Nat.lt_of_lt_of_le (Nat.le_of_ble_eq_true rfl) hn) (by decide) (Nat.le_of_ble_eq_true rfl) rfl rfl rfl (fun H locs S_3 eS_3 hG => ?_)
  replace hM := nx_at hM eS_3
  clear eS_3
  refine lv_aload_n hx hb dX8_findBag_18 rfl (lv_at hl 0 rfl) ?_
  refine m_get S hG 59 61 0 rfl ec_61 cpX8 wm_470 dX8_findBag_19 rfl (Nat.lt_of_lt_of_le (Nat.le_of_ble_eq_true rfl) hn) (by decide) ?_
  refine m_get S hG 2 2 6 rfl ec_2 cpX2 wm_241 dX8_findBag_22 rfl (Nat.lt_of_lt_of_le (Nat.le_of_ble_eq_true rfl) hn) (by decide) ?_
  refine lv_iload_n hx hb dX8_findBag_25 rfl (lv_at hl 1 rfl) ?_
  refine mi_ald S hG 4 4 rfl ec_4 (Nat.lt_of_lt_of_le (Nat.le_of_ble_eq_true rfl) hn) dX8_findBag_26 hg_2 (by decide) ?_
  refine gi_nm (fun x_4 ex_4 => ?_)
  replace hM := nx_at hM ex_4
  clear ex_4
  refine lv_istore (lv' := [(4, .int (iI x_4)), (0, .ref (b + 59)), (1, .int (iI a1)), (2, .int (iI a2)), (3, .int (iI a3))]) hx hb dX8_findBag_27 hl (by decide) rfl (fun ls hl => ?_)
  refine lv_iload hx hb dX8_findBag_29 (lv_at hl 0 rfl) ?_
  refine lv_iconst (v := iI 1) hx hb dX8_findBag_31 (by decide) ?_
  obtain ⟨hg_5, hM⟩ := gd_some hM
  refine gi_icmp_ne (tgt := 43) hx hb dX8_findBag_32 (by decide) hg_5 (by decide) (fun c_6 => ?_) (fun c_6 => ?_)
  · replace hM := ifn hM c_6
    refine lv_iload_n hx hb dX8_findBag_43 rfl (lv_at hl 3 rfl) ?_
    refine lv_istore (lv' := [(5, .int (iI a2)), (4, .int (iI x_4)), (0, .ref (b + 59)), (1, .int (iI a1)), (2, .int (iI a2)), (3, .int (iI a3))]) hx hb dX8_findBag_44 hl (by decide) rfl (fun ls hl => ?_)
    refine lv_iload_n hx hb dX8_findBag_46 rfl (lv_at hl 5 rfl) ?_
    obtain ⟨hg_7, hM⟩ := gd_some hM
    refine gi_i2l hx hb dX8_findBag_47 hg_7 ?_
    refine lv_lstore (lv' := [(6, .long (jJ a3)), (5, .int (iI a2)), (4, .int (iI x_4)), (0, .ref (b + 59)), (1, .int (iI a1)), (2, .int (iI a2)), (3, .int (iI a3))]) hx hb dX8_findBag_48 hl (by decide) rfl (fun ls hl => ?_)
    refine lv_iconst (v := iI 0) hx hb dX8_findBag_50 (by decide) ?_
    refine lv_istore (lv' := [(8, .int (iI 0)), (6, .long (jJ a3)), (5, .int (iI a2)), (4, .int (iI x_4)), (0, .ref (b + 59)), (1, .int (iI a1)), (2, .int (iI a2)), (3, .int (iI a3))]) hx hb dX8_findBag_51 hl (by decide) rfl (fun ls hl => ?_)
    obtain ⟨S_13, hc_14, hM⟩ := bd1_some hM
    have hK_15 : ∀ (H : Heap) (locs : List Loc) (ls : Array Slot), gW D cy b n s H locs (enc b cy X S_13) → lv_has ls 16 [] → W p l e (gRm 2 0 0) s m args below meth c H locs 0 0 (gQV D cy b s args below 0 0 (fun u => u = (n, enc b cy X o1))) (F0 m 232 ls []) := by
      intro H locs ls hG hl
      cases hM
      exact g_vret S hr hlk hG hsz dX8_findBag_232 ⟨Nat.le_of_ble_eq_true rfl, Nat.le_of_ble_eq_true rfl⟩ rfl
    have loop_16 : ∀ (f : Nat) (v_8 : Int) (v_9 : Int) (v_10 : Int) (v_11 : Int) (S_12 : St) (H : Heap) (locs : List Loc) (ls : Array Slot), mX8_findBag_53 a1 f v_8 v_9 v_10 v_11 S_12 = some S_13 → gW D cy b n s H locs (enc b cy X S_12) → lv_has ls 16 [(8, .int (iI v_8)), (6, .long (jJ v_9)), (5, .int (iI v_10)), (4, .int (iI v_11)), (0, .ref (b + 59)), (1, .int (iI a1))] → W p l e (gRm 2 0 0) s m args below meth c H locs 0 0 (gQV D cy b s args below 0 0 (fun u => u = (n, enc b cy X o1))) (F0 m 53 ls []) := by
      clear hM
      intro f
      induction f with
      | zero => intro v_8 v_9 v_10 v_11 S_12 H locs ls hM; rw [mX8_findBag_53] at hM; cases hM
      | succ f_18 ih_17 =>
        intro v_8 v_9 v_10 v_11 S_12 H locs ls hM hG hl
        rw [mX8_findBag_53] at hM
        refine lv_iload hx hb dX8_findBag_53 (lv_at hl 0 rfl) ?_
        refine lv_bipush (v := iI 8) hx hb dX8_findBag_55 (by decide) ?_
        obtain ⟨hg_19, hM⟩ := gd_some hM
        refine gi_icmp_ge (tgt := 232) hx hb dX8_findBag_57 (by decide) hg_19 (by decide) (fun c_20 => ?_) (fun c_20 => ?_)
        · replace hM := ifp hM c_20
          cases hM
          exact hK_15 H locs ls hG (lv_sub hl [] rfl)
        · replace hM := ifn hM c_20
          refine lv_iload hx hb dX8_findBag_60 (lv_at hl 2 rfl) ?_
          obtain ⟨hg_21, hM⟩ := gd_some hM
          refine gi_if_le (tgt := 232) hx hb dX8_findBag_62 (by decide) hg_21 (fun c_22 => ?_) (fun c_22 => ?_)
          · replace hM := ifp hM c_22
            cases hM
            exact hK_15 H locs ls hG (lv_sub hl [] rfl)
          · replace hM := ifn hM c_22
            refine lv_iconst (v := iI 1) hx hb dX8_findBag_65 (by decide) ?_
            refine lv_istore (lv' := [(9, .int (iI 1)), (8, .int (iI v_8)), (6, .long (jJ v_9)), (5, .int (iI v_10)), (4, .int (iI v_11)), (0, .ref (b + 59)), (1, .int (iI a1))]) hx hb dX8_findBag_66 hl (by decide) rfl (fun ls hl => ?_)
            obtain ⟨y_24, hc_25, hM⟩ := bd1_some hM
            have hK_26 : ∀ (H : Heap) (locs : List Loc) (ls : Array Slot), gW D cy b n s H locs (enc b cy X S_12) → lv_has ls 16 [(8, .int (iI v_8)), (6, .long (jJ v_9)), (5, .int (iI v_10)), (4, .int (iI v_11)), (0, .ref (b + 59)), (1, .int (iI a1)), (9, .int (iI y_24))] → W p l e (gRm 2 0 0) s m args below meth c H locs 0 0 (gQV D cy b s args below 0 0 (fun u => u = (n, enc b cy X o1))) (F0 m 101 ls []) := by
              intro H locs ls hG hl
              refine lv_lconst (v := jJ 0) hx hb dX8_findBag_101 (by decide) ?_
              refine lv_lstore (lv' := [(10, .long (jJ 0)), (8, .int (iI v_8)), (6, .long (jJ v_9)), (5, .int (iI v_10)), (4, .int (iI v_11)), (0, .ref (b + 59)), (1, .int (iI a1)), (9, .int (iI y_24))]) hx hb dX8_findBag_102 hl (by decide) rfl (fun ls hl => ?_)
              refine lv_ldc2 (v := 1024) hx hb S.2.2.2.1 (S.2.2.2.2 _ wm_1358) dX8_findBag_104 ?_
              refine gj_as 1024 (by decide) ?_
              refine lv_aload_n hx hb dX8_findBag_107 rfl (lv_at hl 5 rfl) ?_
              refine m_get S hG 59 61 1 rfl ec_61 cpX8 wm_471 dX8_findBag_108 rfl (Nat.lt_of_lt_of_le (Nat.le_of_ble_eq_true rfl) hn) (by decide) ?_
              refine lv_aload_n hx hb dX8_findBag_111 rfl (lv_at hl 5 rfl) ?_
              refine m_get S hG 59 61 5 rfl ec_61 cpX8 wm_477 dX8_findBag_112 rfl (Nat.lt_of_lt_of_le (Nat.le_of_ble_eq_true rfl) hn) (by decide) ?_
              refine lv_iload hx hb dX8_findBag_115 (lv_at hl 7 rfl) ?_
              obtain ⟨r_28, hc_27, hM⟩ := bd1_some hM
              refine g_vl (As := [.int (iI (S_12 61 5)), .int (iI y_24)]) (rest := [.long (jJ 1024)]) S hG hsz (vX0_of_40 l hn (S_12 61 5) y_24 hc_27) wV_8_49 (ec_40 _) cpX0 (Nat.lt_of_lt_of_le (Nat.le_of_ble_eq_true rfl) hn) dX8_findBag_117 rfl hl.1 (ar := 2) (by decide +kernel) rfl ⟨Nat.le_of_ble_eq_true rfl, Nat.le_of_ble_eq_true rfl, Nat.le_of_ble_eq_true rfl, Nat.le_of_ble_eq_true rfl⟩ (Nat.le_of_ble_eq_true rfl) (fun rv uu H locs hp hG => ?_)
              obtain ⟨rfl, rfl⟩ := hp
              replace hG : gW D cy b n s H locs (enc b cy X S_12) := hG
              obtain ⟨hg_29, hM⟩ := gd_some hM
              refine gj_min S wm_1332 wm_1149 wm_190 wm_1150 hl.1 dX8_findBag_120 ⟨Nat.le_of_ble_eq_true rfl, Nat.le_of_ble_eq_true rfl, Nat.le_of_ble_eq_true rfl, Nat.le_of_ble_eq_true rfl⟩ (by decide) hg_29 ?_
              refine lv_lconst (v := jJ 1) hx hb dX8_findBag_123 (by decide) ?_
              refine gj_sub hx hb dX8_findBag_124 ?_
              refine gj_nm (fun x_30 ex_30 => ?_)
              replace hM := nx_at hM ex_30
              clear ex_30
              refine lv_lstore (lv' := [(12, .long (jJ x_30)), (10, .long (jJ 0)), (8, .int (iI v_8)), (6, .long (jJ v_9)), (5, .int (iI v_10)), (4, .int (iI v_11)), (0, .ref (b + 59)), (1, .int (iI a1)), (9, .int (iI y_24))]) hx hb dX8_findBag_125 hl (by decide) rfl (fun ls hl => ?_)
              obtain ⟨y_33, hc_34, hM⟩ := bd1_some hM
              have hK_35 : ∀ (H : Heap) (locs : List Loc) (ls : Array Slot), gW D cy b n s H locs (enc b cy X S_12) → lv_has ls 16 [(8, .int (iI v_8)), (6, .long (jJ v_9)), (5, .int (iI v_10)), (4, .int (iI v_11)), (0, .ref (b + 59)), (1, .int (iI a1)), (9, .int (iI y_24)), (10, .long (jJ y_33))] → W p l e (gRm 2 0 0) s m args below meth c H locs 0 0 (gQV D cy b s args below 0 0 (fun u => u = (n, enc b cy X o1))) (F0 m 183 ls []) := by
                intro H locs ls hG hl
                refine lv_lload hx hb dX8_findBag_183 (lv_at hl 1 rfl) ?_
                refine lv_aload_n hx hb dX8_findBag_185 rfl (lv_at hl 4 rfl) ?_
                refine lv_iload_n hx hb dX8_findBag_186 rfl (lv_at hl 5 rfl) ?_
                refine lv_iload hx hb dX8_findBag_187 (lv_at hl 3 rfl) ?_
                refine lv_iload hx hb dX8_findBag_189 (lv_at hl 2 rfl) ?_
                refine lv_iload hx hb dX8_findBag_191 (lv_at hl 6 rfl) ?_
                refine lv_lload hx hb dX8_findBag_193 (lv_at hl 7 rfl) ?_
                obtain ⟨r_37, hc_36, hM⟩ := bd1_some hM
                refine g_vl (As := [.int (iI a1), .int (iI v_11), .int (iI v_10), .int (iI y_24), .long (jJ y_33)]) (rest := [.long (jJ v_9)]) S hG hsz (vX8_bagsWithin l hn a1 v_11 v_10 y_24 y_33 hc_36) wV_8_86 (ec_61 _) cpX8 (Nat.lt_of_lt_of_le (Nat.le_of_ble_eq_true rfl) hn) dX8_findBag_195 rfl hl.1 (ar := 5) (by decide +kernel) rfl ⟨Nat.le_of_ble_eq_true rfl, Nat.le_of_ble_eq_true rfl, Nat.le_of_ble_eq_true rfl, Nat.le_of_ble_eq_true rfl⟩ (Nat.le_of_ble_eq_true rfl) (fun rv uu H locs hp hG => ?_)
                obtain ⟨rfl, rfl⟩ := hp
                replace hG : gW D cy b n s H locs (enc b cy X S_12) := hG
                refine gj_sub hx hb dX8_findBag_198 ?_
                refine gj_nm (fun x_38 ex_38 => ?_)
                replace hM := nx_at hM ex_38
                clear ex_38
                refine lv_lstore (lv' := [(6, .long (jJ x_38)), (8, .int (iI v_8)), (5, .int (iI v_10)), (4, .int (iI v_11)), (0, .ref (b + 59)), (1, .int (iI a1)), (9, .int (iI y_24)), (10, .long (jJ y_33))]) hx hb dX8_findBag_199 hl (by decide) rfl (fun ls hl => ?_)
                refine lv_aload_n hx hb dX8_findBag_201 rfl (lv_at hl 4 rfl) ?_
                refine lv_iload hx hb dX8_findBag_202 (lv_at hl 6 rfl) ?_
                refine lv_lload hx hb dX8_findBag_204 (lv_at hl 7 rfl) ?_
                obtain ⟨S_40, hc_39, hM⟩ := bd1_some hM
                refine g_vv (As := [.int (iI y_24), .long (jJ y_33)]) (rest := []) S hG hsz (vX8_add l hn y_24 y_33 hc_39) wV_8_57 (ec_61 _) cpX8 (Nat.lt_of_lt_of_le (Nat.le_of_ble_eq_true rfl) hn) dX8_findBag_206 rfl hl.1 (ar := 2) (by decide +kernel) rfl ⟨Nat.le_of_ble_eq_true rfl, Nat.le_of_ble_eq_true rfl, Nat.le_of_ble_eq_true rfl, Nat.le_of_ble_eq_true rfl⟩ (Nat.le_of_ble_eq_true rfl) (fun uu H locs hp hG => ?_)
                obtain rfl := hp
                replace hG : gW D cy b n s H locs (enc b cy X S_40) := hG
                refine lv_iload hx hb dX8_findBag_209 (lv_at hl 2 rfl) ?_
                refine lv_iload hx hb dX8_findBag_211 (lv_at hl 6 rfl) ?_
                refine gi_sub hx hb dX8_findBag_213 ?_
                refine gi_nm (fun x_41 ex_41 => ?_)
                replace hM := nx_at hM ex_41
                clear ex_41
                refine lv_istore (lv' := [(5, .int (iI x_41)), (6, .long (jJ x_38)), (8, .int (iI v_8)), (4, .int (iI v_11)), (0, .ref (b + 59)), (1, .int (iI a1)), (9, .int (iI y_24)), (10, .long (jJ y_33))]) hx hb dX8_findBag_214 hl (by decide) rfl (fun ls hl => ?_)
                refine lv_iconst (v := iI 0) hx hb dX8_findBag_216 (by decide) ?_
                refine lv_iload hx hb dX8_findBag_217 (lv_at hl 3 rfl) ?_
                refine lv_iconst (v := iI 1) hx hb dX8_findBag_219 (by decide) ?_
                refine gi_sub hx hb dX8_findBag_220 ?_
                obtain ⟨hg_42, hM⟩ := gd_some hM
                refine gi_max S wm_1366 wm_1338 wm_190 wm_1339 hl.1 dX8_findBag_221 ⟨Nat.le_of_ble_eq_true rfl, Nat.le_of_ble_eq_true rfl, Nat.le_of_ble_eq_true rfl, Nat.le_of_ble_eq_true rfl⟩ (by decide) hg_42 ?_
                refine gi_nm (fun x_43 ex_43 => ?_)
                replace hM := nx_at hM ex_43
                clear ex_43
                refine lv_istore (lv' := [(4, .int (iI x_43)), (5, .int (iI x_41)), (6, .long (jJ x_38)), (8, .int (iI v_8)), (0, .ref (b + 59)), (1, .int (iI a1)), (9, .int (iI y_24)), (10, .long (jJ y_33))]) hx hb dX8_findBag_224 hl (by decide) rfl (fun ls hl => ?_)
                refine lv_iinc (v := iI (v_8 + 1)) (lv' := [(8, .int (iI (v_8 + 1))), (4, .int (iI x_43)), (5, .int (iI x_41)), (6, .long (jJ x_38)), (0, .ref (b + 59)), (1, .int (iI a1)), (9, .int (iI y_24)), (10, .long (jJ y_33))]) hx hb dX8_findBag_226 hl (k := 3) rfl ((iI_add v_8 (1)).trans (congrArg iI (by omega))) (by decide) rfl (fun ls hl => ?_)
                refine lv_goto (tgt := 53) hx hb dX8_findBag_229 (by decide) ?_
                exact ih_17 (v_8 + 1) x_38 x_41 x_43 S_40 H locs ls hM hG (lv_sub hl [0, 3, 2, 1, 4, 5] rfl)
              have loop_44 : ∀ (f : Nat) (v_31 : Int) (v_32 : Int) (H : Heap) (locs : List Loc) (ls : Array Slot), mX8_findBag_127 S_12 v_8 v_9 v_10 v_11 a1 y_24 f v_31 v_32 = some y_33 → gW D cy b n s H locs (enc b cy X S_12) → lv_has ls 16 [(12, .long (jJ v_31)), (10, .long (jJ v_32)), (8, .int (iI v_8)), (6, .long (jJ v_9)), (5, .int (iI v_10)), (4, .int (iI v_11)), (0, .ref (b + 59)), (1, .int (iI a1)), (9, .int (iI y_24))] → W p l e (gRm 2 0 0) s m args below meth c H locs 0 0 (gQV D cy b s args below 0 0 (fun u => u = (n, enc b cy X o1))) (F0 m 127 ls []) := by
                clear hM
                intro f
                induction f with
                | zero => intro v_31 v_32 H locs ls hM; rw [mX8_findBag_127] at hM; cases hM
                | succ f_46 ih_45 =>
                  intro v_31 v_32 H locs ls hM hG hl
                  rw [mX8_findBag_127] at hM
                  refine lv_lload hx hb dX8_findBag_127 (lv_at hl 1 rfl) ?_
                  refine lv_lload hx hb dX8_findBag_129 (lv_at hl 0 rfl) ?_
                  obtain ⟨hg_47, hM⟩ := gd_some hM
                  refine gj_cmp_ge (tgt := 183) hx hb dX8_findBag_131 dX8_findBag_132 (by decide) hg_47.1 hg_47.2 (fun c_48 => ?_) (fun c_48 => ?_)
                  · replace hM := ifp hM c_48
                    cases hM
                    exact hK_35 H locs ls hG (lv_sub hl [2, 3, 4, 5, 6, 7, 8, 1] rfl)
                  · replace hM := ifn hM c_48
                    refine lv_lload hx hb dX8_findBag_135 (lv_at hl 1 rfl) ?_
                    refine lv_lload hx hb dX8_findBag_137 (lv_at hl 0 rfl) ?_
                    refine gj_add hx hb dX8_findBag_139 ?_
                    refine lv_ldc2 (v := 2) hx hb S.2.2.2.1 (S.2.2.2.2 _ wm_1359) dX8_findBag_140 ?_
                    refine gj_as 2 (by decide) ?_
                    obtain ⟨hg_49, hM⟩ := gd_some hM
                    refine gj_div hx hb dX8_findBag_143 hg_49 (by decide) ?_
                    refine gj_nm (fun x_50 ex_50 => ?_)
                    replace hM := nx_at hM ex_50
                    clear ex_50
                    refine lv_lstore (lv' := [(14, .long (jJ x_50)), (12, .long (jJ v_31)), (10, .long (jJ v_32)), (8, .int (iI v_8)), (6, .long (jJ v_9)), (5, .int (iI v_10)), (4, .int (iI v_11)), (0, .ref (b + 59)), (1, .int (iI a1)), (9, .int (iI y_24))]) hx hb dX8_findBag_144 hl (by decide) rfl (fun ls hl => ?_)
                    refine lv_aload_n hx hb dX8_findBag_146 rfl (lv_at hl 7 rfl) ?_
                    refine lv_iload_n hx hb dX8_findBag_147 rfl (lv_at hl 8 rfl) ?_
                    refine lv_iload hx hb dX8_findBag_148 (lv_at hl 6 rfl) ?_
                    refine lv_iload hx hb dX8_findBag_150 (lv_at hl 5 rfl) ?_
                    refine lv_iload hx hb dX8_findBag_152 (lv_at hl 9 rfl) ?_
                    refine lv_lload hx hb dX8_findBag_154 (lv_at hl 0 rfl) ?_
                    refine lv_lconst (v := jJ 1) hx hb dX8_findBag_156 (by decide) ?_
                    refine gj_add hx hb dX8_findBag_157 ?_
                    obtain ⟨r_52, hc_51, hM⟩ := bd1_some hM
                    refine g_vl (As := [.int (iI a1), .int (iI v_11), .int (iI v_10), .int (iI y_24), .long (jJ (x_50 + 1))]) (rest := []) S hG hsz (vX8_bagsWithin l hn a1 v_11 v_10 y_24 (x_50 + 1) hc_51) wV_8_86 (ec_61 _) cpX8 (Nat.lt_of_lt_of_le (Nat.le_of_ble_eq_true rfl) hn) dX8_findBag_158 rfl hl.1 (ar := 5) (by decide +kernel) rfl ⟨Nat.le_of_ble_eq_true rfl, Nat.le_of_ble_eq_true rfl, Nat.le_of_ble_eq_true rfl, Nat.le_of_ble_eq_true rfl⟩ (Nat.le_of_ble_eq_true rfl) (fun rv uu H locs hp hG => ?_)
                    obtain ⟨rfl, rfl⟩ := hp
                    replace hG : gW D cy b n s H locs (enc b cy X S_12) := hG
                    refine lv_lload hx hb dX8_findBag_161 (lv_at hl 4 rfl) ?_
                    obtain ⟨hg_53, hM⟩ := gd_some hM
                    refine gj_cmp_le (tgt := 174) hx hb dX8_findBag_163 dX8_findBag_164 (by decide) hg_53.1 hg_53.2 (fun c_54 => ?_) (fun c_54 => ?_)
                    · replace hM := ifp hM c_54
                      refine lv_lload hx hb dX8_findBag_174 (lv_at hl 0 rfl) ?_
                      refine lv_lconst (v := jJ 1) hx hb dX8_findBag_176 (by decide) ?_
                      refine gj_add hx hb dX8_findBag_177 ?_
                      refine gj_nm (fun x_55 ex_55 => ?_)
                      replace hM := nx_at hM ex_55
                      clear ex_55
                      refine lv_lstore (lv' := [(10, .long (jJ x_55)), (14, .long (jJ x_50)), (12, .long (jJ v_31)), (8, .int (iI v_8)), (6, .long (jJ v_9)), (5, .int (iI v_10)), (4, .int (iI v_11)), (0, .ref (b + 59)), (1, .int (iI a1)), (9, .int (iI y_24))]) hx hb dX8_findBag_178 hl (by decide) rfl (fun ls hl => ?_)
                      refine lv_goto (tgt := 127) hx hb dX8_findBag_180 (by decide) ?_
                      exact ih_45 v_31 x_55 H locs ls hM hG (lv_sub hl [2, 0, 3, 4, 5, 6, 7, 8, 9] rfl)
                    · replace hM := ifn hM c_54
                      refine lv_lload hx hb dX8_findBag_167 (lv_at hl 0 rfl) ?_
                      refine lv_lstore (lv' := [(12, .long (jJ x_50)), (14, .long (jJ x_50)), (10, .long (jJ v_32)), (8, .int (iI v_8)), (6, .long (jJ v_9)), (5, .int (iI v_10)), (4, .int (iI v_11)), (0, .ref (b + 59)), (1, .int (iI a1)), (9, .int (iI y_24))]) hx hb dX8_findBag_169 hl (by decide) rfl (fun ls hl => ?_)
                      refine lv_goto (tgt := 180) hx hb dX8_findBag_171 (by decide) ?_
                      refine lv_goto (tgt := 127) hx hb dX8_findBag_180 (by decide) ?_
                      exact ih_45 x_50 v_32 H locs ls hM hG (lv_sub hl [0, 2, 3, 4, 5, 6, 7, 8, 9] rfl)
              exact loop_44 FU x_30 0 H locs ls hc_34 hG (lv_sub hl [0, 1, 2, 3, 4, 5, 6, 7, 8] rfl)
            have loop_56 : ∀ (f : Nat) (v_23 : Int) (H : Heap) (locs : List Loc) (ls : Array Slot), mX8_findBag_68 S_12 v_8 v_9 v_10 v_11 a1 f v_23 = some y_24 → gW D cy b n s H locs (enc b cy X S_12) → lv_has ls 16 [(9, .int (iI v_23)), (8, .int (iI v_8)), (6, .long (jJ v_9)), (5, .int (iI v_10)), (4, .int (iI v_11)), (0, .ref (b + 59)), (1, .int (iI a1))] → W p l e (gRm 2 0 0) s m args below meth c H locs 0 0 (gQV D cy b s args below 0 0 (fun u => u = (n, enc b cy X o1))) (F0 m 68 ls []) := by
              clear hM
              intro f
              induction f with
              | zero => intro v_23 H locs ls hM; rw [mX8_findBag_68] at hM; cases hM
              | succ f_58 ih_57 =>
                intro v_23 H locs ls hM hG hl
                rw [mX8_findBag_68] at hM
                refine lv_iload hx hb dX8_findBag_68 (lv_at hl 0 rfl) ?_
                refine lv_iload hx hb dX8_findBag_70 (lv_at hl 3 rfl) ?_
                obtain ⟨hg_59, hM⟩ := gd_some hM
                refine gi_icmp_ge (tgt := 101) hx hb dX8_findBag_72 (by decide) hg_59 hg_21 (fun c_60 => ?_) (fun c_60 => ?_)
                · replace hM := ifp hM c_60
                  cases hM
                  exact hK_26 H locs ls hG (lv_sub hl [1, 2, 3, 4, 5, 6, 0] rfl)
                · replace hM := ifn hM c_60
                  refine lv_aload_n hx hb dX8_findBag_75 rfl (lv_at hl 5 rfl) ?_
                  refine m_get S hG 59 61 1 rfl ec_61 cpX8 wm_471 dX8_findBag_76 rfl (Nat.lt_of_lt_of_le (Nat.le_of_ble_eq_true rfl) hn) (by decide) ?_
                  refine lv_iload_n hx hb dX8_findBag_79 rfl (lv_at hl 6 rfl) ?_
                  refine lv_iload hx hb dX8_findBag_80 (lv_at hl 4 rfl) ?_
                  refine lv_iload hx hb dX8_findBag_82 (lv_at hl 3 rfl) ?_
                  refine lv_iload hx hb dX8_findBag_84 (lv_at hl 0 rfl) ?_
                  obtain ⟨r_62, hc_61, hM⟩ := bd1_some hM
                  refine g_vl (As := [.int (iI a1), .int (iI v_11), .int (iI v_10), .int (iI v_23)]) (rest := []) S hG hsz (vX0_bagsUpTo_40 l hn a1 v_11 v_10 v_23 hc_61) wV_8_75 (ec_40 _) cpX0 (Nat.lt_of_lt_of_le (Nat.le_of_ble_eq_true rfl) hn) dX8_findBag_86 rfl hl.1 (ar := 4) (by decide +kernel) rfl ⟨Nat.le_of_ble_eq_true rfl, Nat.le_of_ble_eq_true rfl, Nat.le_of_ble_eq_true rfl, Nat.le_of_ble_eq_true rfl⟩ (Nat.le_of_ble_eq_true rfl) (fun rv uu H locs hp hG => ?_)
                  obtain ⟨rfl, rfl⟩ := hp
                  replace hG : gW D cy b n s H locs (enc b cy X S_12) := hG
                  refine lv_lload hx hb dX8_findBag_89 (lv_at hl 2 rfl) ?_
                  obtain ⟨hg_63, hM⟩ := gd_some hM
                  refine gj_cmp_gt (tgt := 101) hx hb dX8_findBag_91 dX8_findBag_92 (by decide) hg_63.1 hg_63.2 (fun c_64 => ?_) (fun c_64 => ?_)
                  · replace hM := ifp hM c_64
                    cases hM
                    exact hK_26 H locs ls hG (lv_sub hl [1, 2, 3, 4, 5, 6, 0] rfl)
                  · replace hM := ifn hM c_64
                    refine lv_iinc (v := iI (v_23 + 1)) (lv' := [(9, .int (iI (v_23 + 1))), (8, .int (iI v_8)), (6, .long (jJ v_9)), (5, .int (iI v_10)), (4, .int (iI v_11)), (0, .ref (b + 59)), (1, .int (iI a1))]) hx hb dX8_findBag_95 hl (k := 0) rfl ((iI_add v_23 (1)).trans (congrArg iI (by omega))) (by decide) rfl (fun ls hl => ?_)
                    refine lv_goto (tgt := 68) hx hb dX8_findBag_98 (by decide) ?_
                    exact ih_57 (v_23 + 1) H locs ls hM hG (lv_sub hl [0, 1, 2, 3, 4, 5, 6] rfl)
            exact loop_56 FU 1 H locs ls hc_25 hG (lv_sub hl [0, 1, 2, 3, 4, 5, 6] rfl)
    exact loop_16 FU 0 a3 a2 x_4 S_3 H locs ls hc_14 hG (lv_sub hl [0, 1, 2, 3, 4, 5] rfl)
  · replace hM := ifp hM c_6
    refine lv_aload_n hx hb dX8_findBag_35 rfl (lv_at hl 1 rfl) ?_
    refine lv_iload_n hx hb dX8_findBag_36 rfl (lv_at hl 3 rfl) ?_
    refine lv_iload_n hx hb dX8_findBag_37 rfl (lv_at hl 4 rfl) ?_
    obtain ⟨hg_65, hM⟩ := gd_some hM
    refine gi_i2l hx hb dX8_findBag_38 hg_65 ?_
    obtain ⟨S_67, hc_66, hM⟩ := bd1_some hM
    refine g_vv (As := [.int (iI a2), .long (jJ a3)]) (rest := []) S hG hsz (vX8_add l hn a2 a3 hc_66) wV_8_57 (ec_61 _) cpX8 (Nat.lt_of_lt_of_le (Nat.le_of_ble_eq_true rfl) hn) dX8_findBag_39 rfl hl.1 (ar := 2) (by decide +kernel) rfl ⟨Nat.le_of_ble_eq_true rfl, Nat.le_of_ble_eq_true rfl, Nat.le_of_ble_eq_true rfl, Nat.le_of_ble_eq_true rfl⟩ (Nat.le_of_ble_eq_true rfl) (fun uu H locs hp hG => ?_)
    obtain rfl := hp
    replace hG : gW D cy b n s H locs (enc b cy X S_67) := hG
    cases hM
    exact g_vret S hr hlk hG hsz dX8_findBag_42 ⟨Nat.le_of_ble_eq_true rfl, Nat.le_of_ble_eq_true rfl⟩ rfl
theorem wV_8_116 : gWV "GrownKinds$Sequences" 116 yX8_compareTurn cX8_compareTurn 4 (some .int) := ⟨wm_1401, wm_1403, wm_66, wm_184, wm_1404, by decide +kernel, by decide +kernel⟩
def mX8_compareTurn_2 (S0 : St) (a1 : Int) : Nat → Int → Option (Int × Int × Int)
  | 0, _ => none
  | f + 1, v_1 => gd ((inI v_1) ∧ (inI (S0 61 2))) <| if (S0 61 2) ≤ v_1 then (some (1, v_1, 0)) else (gd ((0 ≤ (a1 + v_1) ∧ (a1 + v_1) ≤ 2147483647) ∧ (0 < (S0 61 2) ∧ (S0 61 2) ≤ 2147483647)) <| gd (0 ≤ ((a1 + v_1) % (S0 61 2)) ∧ ((a1 + v_1) % (S0 61 2)) < 8) <| nx (S0 62 ((a1 + v_1) % (S0 61 2))) fun x_16 => gd (0 ≤ v_1 ∧ v_1 < 8) <| gd ((inI x_16) ∧ (inI (S0 62 v_1))) <| if x_16 = (S0 62 v_1) then (mX8_compareTurn_2 S0 a1 f (v_1 + 1)) else (some (0, v_1, x_16)))
def mX8_compareTurn (S0 : St) (a1 : Int) : Option (Int) := bd3 (mX8_compareTurn_2 S0 a1 FU 0) fun t_2 y_3 y_4 => if t_2 = 0 then (gd (0 ≤ y_3 ∧ y_3 < 8) <| some ((y_4 - (S0 62 y_3)))) else (some (0))
set_option maxHeartbeats 4000000 in
set_option maxRecDepth 100000 in
theorem vX8_compareTurn (l : Launch) {D : va_G} {cy : Nat → ClassId} {b n : Nat} (hn : 102 ≤ n) {X : Nat → va_E} {S0 : St} (a1 : Int) {o1 : Int} (hM : mX8_compareTurn S0 a1 = some o1) : gI l yX8_compareTurn cX8_compareTurn 4 (some .int) 0 0 0 D cy b n (enc b cy X S0) [.ref (b + 59), .int (iI a1)] (fun r u => r = iI o1 ∧ u = (n, enc b cy X S0)) := by
  refine gI_of (by decide) (Nat.le_of_ble_eq_true rfl) ?_
  intro p e s m args below meth c S hr hlk hin hsz ls hl hG
  have hx := S.1
  have hb := S.2.1
  have hl : lv_has ls 4 [(0, .ref (b + 59)), (1, .int (iI a1))] := hl
  replace hG : gW D cy b n s s.heap [] (enc b cy X S0) := hG
  obtain ⟨H, eH⟩ : ∃ H, H = s.heap := ⟨_, rfl⟩
  obtain ⟨locs, elocs⟩ : ∃ locs : List Loc, locs = [] := ⟨_, rfl⟩
  rw [← eH, ← elocs] at hG
  rw [← eH, ← elocs]
  clear eH elocs
  unfold mX8_compareTurn at hM
  refine lv_iconst (v := iI 0) hx hb dX8_compareTurn_0 (by decide) ?_
  refine lv_istore_n (lv' := [(2, .int (iI 0)), (0, .ref (b + 59)), (1, .int (iI a1))]) hx hb dX8_compareTurn_1 rfl hl (by decide) rfl (fun ls hl => ?_)
  obtain ⟨t_2, y_3, y_4, hc_5, hM⟩ := bd3_some hM
  have hK_6 : ∀ (H : Heap) (locs : List Loc) (ls : Array Slot), t_2 = 0 → gW D cy b n s H locs (enc b cy X S0) → lv_has ls 4 [(0, .ref (b + 59)), (2, .int (iI y_3)), (3, .int (iI y_4))] → W p l e (gRm 0 0 0) s m args below meth c H locs 0 0 (gQI D cy b s args below 0 0 (fun r u => r = iI o1 ∧ u = (n, enc b cy X S0))) (F0 m 34 ls []) := by
    intro H locs ls ht hG hl
    subst ht
    replace hM := ifp hM rfl
    refine lv_iload_n hx hb dX8_compareTurn_34 rfl (lv_at hl 2 rfl) ?_
    refine lv_aload_n hx hb dX8_compareTurn_35 rfl (lv_at hl 0 rfl) ?_
    refine m_get S hG 59 61 3 rfl ec_61 cpX8 wm_474 dX8_compareTurn_36 rfl (Nat.lt_of_lt_of_le (Nat.le_of_ble_eq_true rfl) hn) (by decide) ?_
    refine lv_iload_n hx hb dX8_compareTurn_39 rfl (lv_at hl 1 rfl) ?_
    obtain ⟨hg_7, hM⟩ := gd_some hM
    refine mi_ald S hG 60 62 rfl ec_62 (Nat.lt_of_lt_of_le (Nat.le_of_ble_eq_true rfl) hn) dX8_compareTurn_40 hg_7 (by decide) ?_
    refine gi_sub hx hb dX8_compareTurn_41 ?_
    cases hM
    exact g_iret S hr hlk hG hsz dX8_compareTurn_42 ⟨Nat.le_of_ble_eq_true rfl, Nat.le_of_ble_eq_true rfl⟩ ⟨rfl, rfl⟩
  have hK_8 : ∀ (H : Heap) (locs : List Loc) (ls : Array Slot), t_2 = 1 → gW D cy b n s H locs (enc b cy X S0) → lv_has ls 4 [] → W p l e (gRm 0 0 0) s m args below meth c H locs 0 0 (gQI D cy b s args below 0 0 (fun r u => r = iI o1 ∧ u = (n, enc b cy X S0))) (F0 m 49 ls []) := by
    intro H locs ls ht hG hl
    subst ht
    replace hM := ifn hM (by decide)
    refine lv_iconst (v := iI 0) hx hb dX8_compareTurn_49 (by decide) ?_
    cases hM
    exact g_iret S hr hlk hG hsz dX8_compareTurn_50 ⟨Nat.le_of_ble_eq_true rfl, Nat.le_of_ble_eq_true rfl⟩ ⟨rfl, rfl⟩
  have loop_9 : ∀ (f : Nat) (v_1 : Int) (H : Heap) (locs : List Loc) (ls : Array Slot), mX8_compareTurn_2 S0 a1 f v_1 = some (t_2, y_3, y_4) → gW D cy b n s H locs (enc b cy X S0) → lv_has ls 4 [(2, .int (iI v_1)), (0, .ref (b + 59)), (1, .int (iI a1))] → W p l e (gRm 0 0 0) s m args below meth c H locs 0 0 (gQI D cy b s args below 0 0 (fun r u => r = iI o1 ∧ u = (n, enc b cy X S0))) (F0 m 2 ls []) := by
    clear hM
    intro f
    induction f with
    | zero => intro v_1 H locs ls hM; rw [mX8_compareTurn_2] at hM; cases hM
    | succ f_11 ih_10 =>
      intro v_1 H locs ls hM hG hl
      rw [mX8_compareTurn_2] at hM
      refine lv_iload_n hx hb dX8_compareTurn_2 rfl (lv_at hl 0 rfl) ?_
      refine lv_aload_n hx hb dX8_compareTurn_3 rfl (lv_at hl 1 rfl) ?_
      refine m_get S hG 59 61 2 rfl ec_61 cpX8 wm_472 dX8_compareTurn_4 rfl (Nat.lt_of_lt_of_le (Nat.le_of_ble_eq_true rfl) hn) (by decide) ?_
      obtain ⟨hg_12, hM⟩ := gd_some hM
      refine gi_icmp_ge (tgt := 49) hx hb dX8_compareTurn_7 (by decide) hg_12.1 hg_12.2 (fun c_13 => ?_) (fun c_13 => ?_)
      · replace hM := ifp hM c_13
        cases hM
        exact hK_8 H locs ls rfl hG (lv_sub hl [] rfl)
      · replace hM := ifn hM c_13
        refine lv_aload_n hx hb dX8_compareTurn_10 rfl (lv_at hl 1 rfl) ?_
        refine m_get S hG 59 61 3 rfl ec_61 cpX8 wm_474 dX8_compareTurn_11 rfl (Nat.lt_of_lt_of_le (Nat.le_of_ble_eq_true rfl) hn) (by decide) ?_
        refine lv_iload_n hx hb dX8_compareTurn_14 rfl (lv_at hl 2 rfl) ?_
        refine lv_iload_n hx hb dX8_compareTurn_15 rfl (lv_at hl 0 rfl) ?_
        refine gi_add hx hb dX8_compareTurn_16 ?_
        refine lv_aload_n hx hb dX8_compareTurn_17 rfl (lv_at hl 1 rfl) ?_
        refine m_get S hG 59 61 2 rfl ec_61 cpX8 wm_472 dX8_compareTurn_18 rfl (Nat.lt_of_lt_of_le (Nat.le_of_ble_eq_true rfl) hn) (by decide) ?_
        obtain ⟨hg_14, hM⟩ := gd_some hM
        refine gi_rem hx hb dX8_compareTurn_21 hg_14.1 hg_14.2 ?_
        obtain ⟨hg_15, hM⟩ := gd_some hM
        refine mi_ald S hG 60 62 rfl ec_62 (Nat.lt_of_lt_of_le (Nat.le_of_ble_eq_true rfl) hn) dX8_compareTurn_22 hg_15 (by decide) ?_
        refine gi_nm (fun x_16 ex_16 => ?_)
        replace hM := nx_at hM ex_16
        clear ex_16
        refine lv_istore_n (lv' := [(3, .int (iI x_16)), (2, .int (iI v_1)), (0, .ref (b + 59)), (1, .int (iI a1))]) hx hb dX8_compareTurn_23 rfl hl (by decide) rfl (fun ls hl => ?_)
        refine lv_iload_n hx hb dX8_compareTurn_24 rfl (lv_at hl 0 rfl) ?_
        refine lv_aload_n hx hb dX8_compareTurn_25 rfl (lv_at hl 2 rfl) ?_
        refine m_get S hG 59 61 3 rfl ec_61 cpX8 wm_474 dX8_compareTurn_26 rfl (Nat.lt_of_lt_of_le (Nat.le_of_ble_eq_true rfl) hn) (by decide) ?_
        refine lv_iload_n hx hb dX8_compareTurn_29 rfl (lv_at hl 1 rfl) ?_
        obtain ⟨hg_17, hM⟩ := gd_some hM
        refine mi_ald S hG 60 62 rfl ec_62 (Nat.lt_of_lt_of_le (Nat.le_of_ble_eq_true rfl) hn) dX8_compareTurn_30 hg_17 (by decide) ?_
        obtain ⟨hg_18, hM⟩ := gd_some hM
        refine gi_icmp_eq (tgt := 43) hx hb dX8_compareTurn_31 (by decide) hg_18.1 hg_18.2 (fun c_19 => ?_) (fun c_19 => ?_)
        · replace hM := ifp hM c_19
          refine lv_iinc (v := iI (v_1 + 1)) (lv' := [(2, .int (iI (v_1 + 1))), (3, .int (iI x_16)), (0, .ref (b + 59)), (1, .int (iI a1))]) hx hb dX8_compareTurn_43 hl (k := 1) rfl ((iI_add v_1 (1)).trans (congrArg iI (by omega))) (by decide) rfl (fun ls hl => ?_)
          refine lv_goto (tgt := 2) hx hb dX8_compareTurn_46 (by decide) ?_
          exact ih_10 (v_1 + 1) H locs ls hM hG (lv_sub hl [0, 2, 3] rfl)
        · replace hM := ifn hM c_19
          cases hM
          exact hK_6 H locs ls rfl hG (lv_sub hl [2, 1, 0] rfl)
  exact loop_9 FU 0 H locs ls hc_5 hG (lv_sub hl [0, 1, 2] rfl)
def mX8_isFirstTurn_2 (S0 : St)  : Nat → Int → Option (Int)
  | 0, _ => none
  | f + 1, v_1 => gd ((inI v_1) ∧ (inI (S0 61 2))) <| if (S0 61 2) ≤ v_1 then (some (1)) else (bd1 (mX8_compareTurn S0 v_1) fun r_12 => gd (inI r_12) <| if 0 ≤ r_12 then (mX8_isFirstTurn_2 S0 f (v_1 + 1)) else (some (0)))
def mX8_isFirstTurn (S0 : St)  : Option (Int) := bd1 (mX8_isFirstTurn_2 S0 FU 1) fun t_2 => if t_2 = 0 then (some (0)) else (some (1))
set_option maxHeartbeats 4000000 in
set_option maxRecDepth 100000 in
theorem vX8_isFirstTurn (l : Launch) {D : va_G} {cy : Nat → ClassId} {b n : Nat} (hn : 102 ≤ n) {X : Nat → va_E} {S0 : St}  {o1 : Int} (hM : mX8_isFirstTurn S0  = some o1) : gI l yX8_isFirstTurn cX8_isFirstTurn 2 (some .boolean) 1 0 0 D cy b n (enc b cy X S0) [.ref (b + 59)] (fun r u => r = iI o1 ∧ u = (n, enc b cy X S0)) := by
  refine gI_of (by decide) (Nat.le_of_ble_eq_true rfl) ?_
  intro p e s m args below meth c S hr hlk hin hsz ls hl hG
  have hx := S.1
  have hb := S.2.1
  have hl : lv_has ls 2 [(0, .ref (b + 59))] := hl
  replace hG : gW D cy b n s s.heap [] (enc b cy X S0) := hG
  obtain ⟨H, eH⟩ : ∃ H, H = s.heap := ⟨_, rfl⟩
  obtain ⟨locs, elocs⟩ : ∃ locs : List Loc, locs = [] := ⟨_, rfl⟩
  rw [← eH, ← elocs] at hG
  rw [← eH, ← elocs]
  clear eH elocs
  unfold mX8_isFirstTurn at hM
  refine lv_iconst (v := iI 1) hx hb dX8_isFirstTurn_0 (by decide) ?_
  refine lv_istore_n (lv' := [(1, .int (iI 1)), (0, .ref (b + 59))]) hx hb dX8_isFirstTurn_1 rfl hl (by decide) rfl (fun ls hl => ?_)
  obtain ⟨t_2, hc_3, hM⟩ := bd1_some hM
  have hK_4 : ∀ (H : Heap) (locs : List Loc) (ls : Array Slot), t_2 = 0 → gW D cy b n s H locs (enc b cy X S0) → lv_has ls 2 [] → W p l e (gRm 1 0 0) s m args below meth c H locs 0 0 (gQI D cy b s args below 0 0 (fun r u => r = iI o1 ∧ u = (n, enc b cy X S0))) (F0 m 18 ls []) := by
    intro H locs ls ht hG hl
    subst ht
    replace hM := ifp hM rfl
    refine lv_iconst (v := iI 0) hx hb dX8_isFirstTurn_18 (by decide) ?_
    cases hM
    exact g_zret S hr hlk hG hsz dX8_isFirstTurn_19 ⟨Nat.le_of_ble_eq_true rfl, Nat.le_of_ble_eq_true rfl⟩ (nar_z (by decide)) ⟨rfl, rfl⟩
  have hK_5 : ∀ (H : Heap) (locs : List Loc) (ls : Array Slot), t_2 = 1 → gW D cy b n s H locs (enc b cy X S0) → lv_has ls 2 [] → W p l e (gRm 1 0 0) s m args below meth c H locs 0 0 (gQI D cy b s args below 0 0 (fun r u => r = iI o1 ∧ u = (n, enc b cy X S0))) (F0 m 26 ls []) := by
    intro H locs ls ht hG hl
    subst ht
    replace hM := ifn hM (by decide)
    refine lv_iconst (v := iI 1) hx hb dX8_isFirstTurn_26 (by decide) ?_
    cases hM
    exact g_zret S hr hlk hG hsz dX8_isFirstTurn_27 ⟨Nat.le_of_ble_eq_true rfl, Nat.le_of_ble_eq_true rfl⟩ (nar_z (by decide)) ⟨rfl, rfl⟩
  have loop_6 : ∀ (f : Nat) (v_1 : Int) (H : Heap) (locs : List Loc) (ls : Array Slot), mX8_isFirstTurn_2 S0 f v_1 = some t_2 → gW D cy b n s H locs (enc b cy X S0) → lv_has ls 2 [(1, .int (iI v_1)), (0, .ref (b + 59))] → W p l e (gRm 1 0 0) s m args below meth c H locs 0 0 (gQI D cy b s args below 0 0 (fun r u => r = iI o1 ∧ u = (n, enc b cy X S0))) (F0 m 2 ls []) := by
    clear hM
    intro f
    induction f with
    | zero => intro v_1 H locs ls hM; rw [mX8_isFirstTurn_2] at hM; cases hM
    | succ f_8 ih_7 =>
      intro v_1 H locs ls hM hG hl
      rw [mX8_isFirstTurn_2] at hM
      refine lv_iload_n hx hb dX8_isFirstTurn_2 rfl (lv_at hl 0 rfl) ?_
      refine lv_aload_n hx hb dX8_isFirstTurn_3 rfl (lv_at hl 1 rfl) ?_
      refine m_get S hG 59 61 2 rfl ec_61 cpX8 wm_472 dX8_isFirstTurn_4 rfl (Nat.lt_of_lt_of_le (Nat.le_of_ble_eq_true rfl) hn) (by decide) ?_
      obtain ⟨hg_9, hM⟩ := gd_some hM
      refine gi_icmp_ge (tgt := 26) hx hb dX8_isFirstTurn_7 (by decide) hg_9.1 hg_9.2 (fun c_10 => ?_) (fun c_10 => ?_)
      · replace hM := ifp hM c_10
        cases hM
        exact hK_5 H locs ls rfl hG (lv_sub hl [] rfl)
      · replace hM := ifn hM c_10
        refine lv_aload_n hx hb dX8_isFirstTurn_10 rfl (lv_at hl 1 rfl) ?_
        refine lv_iload_n hx hb dX8_isFirstTurn_11 rfl (lv_at hl 0 rfl) ?_
        obtain ⟨r_12, hc_11, hM⟩ := bd1_some hM
        refine g_vi (As := [.int (iI v_1)]) (rest := []) S hG hsz (vX8_compareTurn l hn v_1 hc_11) wV_8_116 (ec_61 _) cpX8 (Nat.lt_of_lt_of_le (Nat.le_of_ble_eq_true rfl) hn) dX8_isFirstTurn_12 rfl hl.1 (ar := 1) (by decide +kernel) rfl ⟨Nat.le_of_ble_eq_true rfl, Nat.le_of_ble_eq_true rfl, Nat.le_of_ble_eq_true rfl, Nat.le_of_ble_eq_true rfl⟩ (Nat.le_of_ble_eq_true rfl) (fun rv uu H locs hp hG => ?_)
        obtain ⟨rfl, rfl⟩ := hp
        replace hG : gW D cy b n s H locs (enc b cy X S0) := hG
        obtain ⟨hg_13, hM⟩ := gd_some hM
        refine gi_if_ge (tgt := 20) hx hb dX8_isFirstTurn_15 (by decide) hg_13 (fun c_14 => ?_) (fun c_14 => ?_)
        · replace hM := ifp hM c_14
          refine lv_iinc (v := iI (v_1 + 1)) (lv' := [(1, .int (iI (v_1 + 1))), (0, .ref (b + 59))]) hx hb dX8_isFirstTurn_20 hl (k := 0) rfl ((iI_add v_1 (1)).trans (congrArg iI (by omega))) (by decide) rfl (fun ls hl => ?_)
          refine lv_goto (tgt := 2) hx hb dX8_isFirstTurn_23 (by decide) ?_
          exact ih_7 (v_1 + 1) H locs ls hM hG (lv_sub hl [0, 1] rfl)
        · replace hM := ifn hM c_14
          cases hM
          exact hK_4 H locs ls rfl hG (lv_sub hl [] rfl)
  exact loop_6 FU 1 H locs ls hc_3 hG (lv_sub hl [0, 1] rfl)
def mX8_turnsAlike_4 (S0 : St)  : Nat → Int → Int → Option (Int)
  | 0, _, _ => none
  | f + 1, v_1, v_2 => gd ((inI v_1) ∧ (inI (S0 61 2))) <| if (S0 61 2) ≤ v_1 then (some (v_2)) else (bd1 (mX8_compareTurn S0 v_1) fun r_12 => gd (inI r_12) <| if r_12 = 0 then (mX8_turnsAlike_4 S0 f (v_1 + 1) (v_2 + 1)) else (mX8_turnsAlike_4 S0 f (v_1 + 1) v_2))
def mX8_turnsAlike (S0 : St)  : Option (Int) := bd1 (mX8_turnsAlike_4 S0 FU 1 1) fun y_3 => some (y_3)
set_option maxHeartbeats 4000000 in
set_option maxRecDepth 100000 in
theorem vX8_turnsAlike (l : Launch) {D : va_G} {cy : Nat → ClassId} {b n : Nat} (hn : 102 ≤ n) {X : Nat → va_E} {S0 : St}  {o1 : Int} (hM : mX8_turnsAlike S0  = some o1) : gI l yX8_turnsAlike cX8_turnsAlike 3 (some .int) 1 0 0 D cy b n (enc b cy X S0) [.ref (b + 59)] (fun r u => r = iI o1 ∧ u = (n, enc b cy X S0)) := by
  refine gI_of (by decide) (Nat.le_of_ble_eq_true rfl) ?_
  intro p e s m args below meth c S hr hlk hin hsz ls hl hG
  have hx := S.1
  have hb := S.2.1
  have hl : lv_has ls 3 [(0, .ref (b + 59))] := hl
  replace hG : gW D cy b n s s.heap [] (enc b cy X S0) := hG
  obtain ⟨H, eH⟩ : ∃ H, H = s.heap := ⟨_, rfl⟩
  obtain ⟨locs, elocs⟩ : ∃ locs : List Loc, locs = [] := ⟨_, rfl⟩
  rw [← eH, ← elocs] at hG
  rw [← eH, ← elocs]
  clear eH elocs
  unfold mX8_turnsAlike at hM
  refine lv_iconst (v := iI 1) hx hb dX8_turnsAlike_0 (by decide) ?_
  refine lv_istore_n (lv' := [(1, .int (iI 1)), (0, .ref (b + 59))]) hx hb dX8_turnsAlike_1 rfl hl (by decide) rfl (fun ls hl => ?_)
  refine lv_iconst (v := iI 1) hx hb dX8_turnsAlike_2 (by decide) ?_
  refine lv_istore_n (lv' := [(2, .int (iI 1)), (1, .int (iI 1)), (0, .ref (b + 59))]) hx hb dX8_turnsAlike_3 rfl hl (by decide) rfl (fun ls hl => ?_)
  obtain ⟨y_3, hc_4, hM⟩ := bd1_some hM
  have hK_5 : ∀ (H : Heap) (locs : List Loc) (ls : Array Slot), gW D cy b n s H locs (enc b cy X S0) → lv_has ls 3 [(1, .int (iI y_3))] → W p l e (gRm 1 0 0) s m args below meth c H locs 0 0 (gQI D cy b s args below 0 0 (fun r u => r = iI o1 ∧ u = (n, enc b cy X S0))) (F0 m 29 ls []) := by
    intro H locs ls hG hl
    refine lv_iload_n hx hb dX8_turnsAlike_29 rfl (lv_at hl 0 rfl) ?_
    cases hM
    exact g_iret S hr hlk hG hsz dX8_turnsAlike_30 ⟨Nat.le_of_ble_eq_true rfl, Nat.le_of_ble_eq_true rfl⟩ ⟨rfl, rfl⟩
  have loop_6 : ∀ (f : Nat) (v_1 : Int) (v_2 : Int) (H : Heap) (locs : List Loc) (ls : Array Slot), mX8_turnsAlike_4 S0 f v_1 v_2 = some y_3 → gW D cy b n s H locs (enc b cy X S0) → lv_has ls 3 [(2, .int (iI v_1)), (1, .int (iI v_2)), (0, .ref (b + 59))] → W p l e (gRm 1 0 0) s m args below meth c H locs 0 0 (gQI D cy b s args below 0 0 (fun r u => r = iI o1 ∧ u = (n, enc b cy X S0))) (F0 m 4 ls []) := by
    clear hM
    intro f
    induction f with
    | zero => intro v_1 v_2 H locs ls hM; rw [mX8_turnsAlike_4] at hM; cases hM
    | succ f_8 ih_7 =>
      intro v_1 v_2 H locs ls hM hG hl
      rw [mX8_turnsAlike_4] at hM
      refine lv_iload_n hx hb dX8_turnsAlike_4 rfl (lv_at hl 0 rfl) ?_
      refine lv_aload_n hx hb dX8_turnsAlike_5 rfl (lv_at hl 2 rfl) ?_
      refine m_get S hG 59 61 2 rfl ec_61 cpX8 wm_472 dX8_turnsAlike_6 rfl (Nat.lt_of_lt_of_le (Nat.le_of_ble_eq_true rfl) hn) (by decide) ?_
      obtain ⟨hg_9, hM⟩ := gd_some hM
      refine gi_icmp_ge (tgt := 29) hx hb dX8_turnsAlike_9 (by decide) hg_9.1 hg_9.2 (fun c_10 => ?_) (fun c_10 => ?_)
      · replace hM := ifp hM c_10
        cases hM
        exact hK_5 H locs ls hG (lv_sub hl [1] rfl)
      · replace hM := ifn hM c_10
        refine lv_aload_n hx hb dX8_turnsAlike_12 rfl (lv_at hl 2 rfl) ?_
        refine lv_iload_n hx hb dX8_turnsAlike_13 rfl (lv_at hl 0 rfl) ?_
        obtain ⟨r_12, hc_11, hM⟩ := bd1_some hM
        refine g_vi (As := [.int (iI v_1)]) (rest := []) S hG hsz (vX8_compareTurn l hn v_1 hc_11) wV_8_116 (ec_61 _) cpX8 (Nat.lt_of_lt_of_le (Nat.le_of_ble_eq_true rfl) hn) dX8_turnsAlike_14 rfl hl.1 (ar := 1) (by decide +kernel) rfl ⟨Nat.le_of_ble_eq_true rfl, Nat.le_of_ble_eq_true rfl, Nat.le_of_ble_eq_true rfl, Nat.le_of_ble_eq_true rfl⟩ (Nat.le_of_ble_eq_true rfl) (fun rv uu H locs hp hG => ?_)
        obtain ⟨rfl, rfl⟩ := hp
        replace hG : gW D cy b n s H locs (enc b cy X S0) := hG
        obtain ⟨hg_13, hM⟩ := gd_some hM
        refine gi_if_ne (tgt := 23) hx hb dX8_turnsAlike_17 (by decide) hg_13 (fun c_14 => ?_) (fun c_14 => ?_)
        · replace hM := ifn hM c_14
          refine lv_iinc (v := iI (v_1 + 1)) (lv' := [(2, .int (iI (v_1 + 1))), (1, .int (iI v_2)), (0, .ref (b + 59))]) hx hb dX8_turnsAlike_23 hl (k := 0) rfl ((iI_add v_1 (1)).trans (congrArg iI (by omega))) (by decide) rfl (fun ls hl => ?_)
          refine lv_goto (tgt := 4) hx hb dX8_turnsAlike_26 (by decide) ?_
          exact ih_7 (v_1 + 1) v_2 H locs ls hM hG (lv_sub hl [0, 1, 2] rfl)
        · replace hM := ifp hM c_14
          refine lv_iinc (v := iI (v_2 + 1)) (lv' := [(1, .int (iI (v_2 + 1))), (2, .int (iI v_1)), (0, .ref (b + 59))]) hx hb dX8_turnsAlike_20 hl (k := 1) rfl ((iI_add v_2 (1)).trans (congrArg iI (by omega))) (by decide) rfl (fun ls hl => ?_)
          refine lv_iinc (v := iI (v_1 + 1)) (lv' := [(2, .int (iI (v_1 + 1))), (1, .int (iI (v_2 + 1))), (0, .ref (b + 59))]) hx hb dX8_turnsAlike_23 hl (k := 1) rfl ((iI_add v_1 (1)).trans (congrArg iI (by omega))) (by decide) rfl (fun ls hl => ?_)
          refine lv_goto (tgt := 4) hx hb dX8_turnsAlike_26 (by decide) ?_
          exact ih_7 (v_1 + 1) (v_2 + 1) H locs ls hM hG (lv_sub hl [0, 1, 2] rfl)
  exact loop_6 FU 1 1 H locs ls hc_4 hG (lv_sub hl [0, 1, 2] rfl)
def mX8_changesAlike_6 (S0 : St)  : Nat → Int → Int → Int → Option (Int)
  | 0, _, _, _ => none
  | f + 1, v_1, v_2, v_3 => gd ((inI v_1) ∧ (inI (S0 61 2))) <| if (S0 61 2) ≤ v_1 then (some (v_3)) else (gd (0 ≤ v_1 ∧ v_1 < 8) <| gd (0 ≤ (v_1 - 1) ∧ (v_1 - 1) < 8) <| bd1 (gd ((inI (S0 62 v_1)) ∧ (inI (S0 62 (v_1 - 1)))) <| if (S0 62 v_1) = (S0 62 (v_1 - 1)) then (some ((v_2 + 1))) else (some (1))) fun z_14 => nx (v_3 * z_14) fun x_17 => mX8_changesAlike_6 S0 f (v_1 + 1) z_14 x_17)
def mX8_changesAlike (S0 : St)  : Option (Int) := bd1 (mX8_changesAlike_6 S0 FU 1 1 1) fun y_4 => some (y_4)
set_option maxHeartbeats 4000000 in
set_option maxRecDepth 100000 in
theorem vX8_changesAlike (l : Launch) {D : va_G} {cy : Nat → ClassId} {b n : Nat} (hn : 102 ≤ n) {X : Nat → va_E} {S0 : St}  {o1 : Int} (hM : mX8_changesAlike S0  = some o1) : gI l yX8_changesAlike cX8_changesAlike 4 (some .int) 0 0 0 D cy b n (enc b cy X S0) [.ref (b + 59)] (fun r u => r = iI o1 ∧ u = (n, enc b cy X S0)) := by
  refine gI_of (by decide) (Nat.le_of_ble_eq_true rfl) ?_
  intro p e s m args below meth c S hr hlk hin hsz ls hl hG
  have hx := S.1
  have hb := S.2.1
  have hl : lv_has ls 4 [(0, .ref (b + 59))] := hl
  replace hG : gW D cy b n s s.heap [] (enc b cy X S0) := hG
  obtain ⟨H, eH⟩ : ∃ H, H = s.heap := ⟨_, rfl⟩
  obtain ⟨locs, elocs⟩ : ∃ locs : List Loc, locs = [] := ⟨_, rfl⟩
  rw [← eH, ← elocs] at hG
  rw [← eH, ← elocs]
  clear eH elocs
  unfold mX8_changesAlike at hM
  refine lv_iconst (v := iI 1) hx hb dX8_changesAlike_0 (by decide) ?_
  refine lv_istore_n (lv' := [(1, .int (iI 1)), (0, .ref (b + 59))]) hx hb dX8_changesAlike_1 rfl hl (by decide) rfl (fun ls hl => ?_)
  refine lv_iconst (v := iI 1) hx hb dX8_changesAlike_2 (by decide) ?_
  refine lv_istore_n (lv' := [(2, .int (iI 1)), (1, .int (iI 1)), (0, .ref (b + 59))]) hx hb dX8_changesAlike_3 rfl hl (by decide) rfl (fun ls hl => ?_)
  refine lv_iconst (v := iI 1) hx hb dX8_changesAlike_4 (by decide) ?_
  refine lv_istore_n (lv' := [(3, .int (iI 1)), (2, .int (iI 1)), (1, .int (iI 1)), (0, .ref (b + 59))]) hx hb dX8_changesAlike_5 rfl hl (by decide) rfl (fun ls hl => ?_)
  obtain ⟨y_4, hc_5, hM⟩ := bd1_some hM
  have hK_6 : ∀ (H : Heap) (locs : List Loc) (ls : Array Slot), gW D cy b n s H locs (enc b cy X S0) → lv_has ls 4 [(1, .int (iI y_4))] → W p l e (gRm 0 0 0) s m args below meth c H locs 0 0 (gQI D cy b s args below 0 0 (fun r u => r = iI o1 ∧ u = (n, enc b cy X S0))) (F0 m 49 ls []) := by
    intro H locs ls hG hl
    refine lv_iload_n hx hb dX8_changesAlike_49 rfl (lv_at hl 0 rfl) ?_
    cases hM
    exact g_iret S hr hlk hG hsz dX8_changesAlike_50 ⟨Nat.le_of_ble_eq_true rfl, Nat.le_of_ble_eq_true rfl⟩ ⟨rfl, rfl⟩
  have loop_7 : ∀ (f : Nat) (v_1 : Int) (v_2 : Int) (v_3 : Int) (H : Heap) (locs : List Loc) (ls : Array Slot), mX8_changesAlike_6 S0 f v_1 v_2 v_3 = some y_4 → gW D cy b n s H locs (enc b cy X S0) → lv_has ls 4 [(3, .int (iI v_1)), (2, .int (iI v_2)), (1, .int (iI v_3)), (0, .ref (b + 59))] → W p l e (gRm 0 0 0) s m args below meth c H locs 0 0 (gQI D cy b s args below 0 0 (fun r u => r = iI o1 ∧ u = (n, enc b cy X S0))) (F0 m 6 ls []) := by
    clear hM
    intro f
    induction f with
    | zero => intro v_1 v_2 v_3 H locs ls hM; rw [mX8_changesAlike_6] at hM; cases hM
    | succ f_9 ih_8 =>
      intro v_1 v_2 v_3 H locs ls hM hG hl
      rw [mX8_changesAlike_6] at hM
      refine lv_iload_n hx hb dX8_changesAlike_6 rfl (lv_at hl 0 rfl) ?_
      refine lv_aload_n hx hb dX8_changesAlike_7 rfl (lv_at hl 3 rfl) ?_
      refine m_get S hG 59 61 2 rfl ec_61 cpX8 wm_472 dX8_changesAlike_8 rfl (Nat.lt_of_lt_of_le (Nat.le_of_ble_eq_true rfl) hn) (by decide) ?_
      obtain ⟨hg_10, hM⟩ := gd_some hM
      refine gi_icmp_ge (tgt := 49) hx hb dX8_changesAlike_11 (by decide) hg_10.1 hg_10.2 (fun c_11 => ?_) (fun c_11 => ?_)
      · replace hM := ifp hM c_11
        cases hM
        exact hK_6 H locs ls hG (lv_sub hl [2] rfl)
      · replace hM := ifn hM c_11
        refine lv_aload_n hx hb dX8_changesAlike_14 rfl (lv_at hl 3 rfl) ?_
        refine m_get S hG 59 61 3 rfl ec_61 cpX8 wm_474 dX8_changesAlike_15 rfl (Nat.lt_of_lt_of_le (Nat.le_of_ble_eq_true rfl) hn) (by decide) ?_
        refine lv_iload_n hx hb dX8_changesAlike_18 rfl (lv_at hl 0 rfl) ?_
        obtain ⟨hg_12, hM⟩ := gd_some hM
        refine mi_ald S hG 60 62 rfl ec_62 (Nat.lt_of_lt_of_le (Nat.le_of_ble_eq_true rfl) hn) dX8_changesAlike_19 hg_12 (by decide) ?_
        refine lv_aload_n hx hb dX8_changesAlike_20 rfl (lv_at hl 3 rfl) ?_
        refine m_get S hG 59 61 3 rfl ec_61 cpX8 wm_474 dX8_changesAlike_21 rfl (Nat.lt_of_lt_of_le (Nat.le_of_ble_eq_true rfl) hn) (by decide) ?_
        refine lv_iload_n hx hb dX8_changesAlike_24 rfl (lv_at hl 0 rfl) ?_
        refine lv_iconst (v := iI 1) hx hb dX8_changesAlike_25 (by decide) ?_
        refine gi_sub hx hb dX8_changesAlike_26 ?_
        obtain ⟨hg_13, hM⟩ := gd_some hM
        refine mi_ald S hG 60 62 rfl ec_62 (Nat.lt_of_lt_of_le (Nat.le_of_ble_eq_true rfl) hn) dX8_changesAlike_27 hg_13 (by decide) ?_
        obtain ⟨z_14, hc_15, hM⟩ := bd1_some hM
        have hK_16 : ∀ (H : Heap) (locs : List Loc) (ls : Array Slot), gW D cy b n s H locs (enc b cy X S0) → lv_has ls 4 [(3, .int (iI v_1)), (1, .int (iI v_3)), (0, .ref (b + 59))] → W p l e (gRm 0 0 0) s m args below meth c H locs 0 0 (gQI D cy b s args below 0 0 (fun r u => r = iI o1 ∧ u = (n, enc b cy X S0))) (F0 m 38 ls [.int (iI z_14)]) := by
          intro H locs ls hG hl
          refine lv_istore_n (lv' := [(2, .int (iI z_14)), (3, .int (iI v_1)), (1, .int (iI v_3)), (0, .ref (b + 59))]) hx hb dX8_changesAlike_38 rfl hl (by decide) rfl (fun ls hl => ?_)
          refine lv_iload_n hx hb dX8_changesAlike_39 rfl (lv_at hl 2 rfl) ?_
          refine lv_iload_n hx hb dX8_changesAlike_40 rfl (lv_at hl 0 rfl) ?_
          refine gi_mul hx hb dX8_changesAlike_41 ?_
          refine gi_nm (fun x_17 ex_17 => ?_)
          replace hM := nx_at hM ex_17
          clear ex_17
          refine lv_istore_n (lv' := [(1, .int (iI x_17)), (2, .int (iI z_14)), (3, .int (iI v_1)), (0, .ref (b + 59))]) hx hb dX8_changesAlike_42 rfl hl (by decide) rfl (fun ls hl => ?_)
          refine lv_iinc (v := iI (v_1 + 1)) (lv' := [(3, .int (iI (v_1 + 1))), (1, .int (iI x_17)), (2, .int (iI z_14)), (0, .ref (b + 59))]) hx hb dX8_changesAlike_43 hl (k := 2) rfl ((iI_add v_1 (1)).trans (congrArg iI (by omega))) (by decide) rfl (fun ls hl => ?_)
          refine lv_goto (tgt := 6) hx hb dX8_changesAlike_46 (by decide) ?_
          exact ih_8 (v_1 + 1) z_14 x_17 H locs ls hM hG (lv_sub hl [0, 2, 1, 3] rfl)
        clear hM
        replace hM := hc_15
        obtain ⟨hg_18, hM⟩ := gd_some hM
        refine gi_icmp_ne (tgt := 37) hx hb dX8_changesAlike_28 (by decide) hg_18.1 hg_18.2 (fun c_19 => ?_) (fun c_19 => ?_)
        · replace hM := ifn hM c_19
          refine lv_iconst (v := iI 1) hx hb dX8_changesAlike_37 (by decide) ?_
          cases hM
          exact hK_16 H locs ls hG (lv_sub hl [0, 2, 3] rfl)
        · replace hM := ifp hM c_19
          refine lv_iload_n hx hb dX8_changesAlike_31 rfl (lv_at hl 1 rfl) ?_
          refine lv_iconst (v := iI 1) hx hb dX8_changesAlike_32 (by decide) ?_
          refine gi_add hx hb dX8_changesAlike_33 ?_
          refine lv_goto (tgt := 38) hx hb dX8_changesAlike_34 (by decide) ?_
          cases hM
          exact hK_16 H locs ls hG (lv_sub hl [0, 2, 3] rfl)
  exact loop_7 FU 1 1 1 H locs ls hc_5 hG (lv_sub hl [0, 1, 2, 3] rfl)
theorem wV_10_61 : gWV "GrownKinds$ThingReader" 61 yX10_readExpr cX10_readExpr 6 none := ⟨wm_1459, wm_1461, wm_69, wm_185, wm_1462, by decide +kernel, by decide +kernel⟩
theorem wV_10_72 : gWV "GrownKinds$ThingReader" 72 yX10_peek cX10_peek 1 (some .int) := ⟨wm_1463, wm_1465, wm_70, wm_185, wm_1466, by decide +kernel, by decide +kernel⟩
def mX10_peek (S0 : St)  : Option (Int) := gd ((inI (S0 67 4)) ∧ (inI (S0 67 3))) <| if (S0 67 3) ≤ (S0 67 4) then (some (0)) else (gd (0 ≤ (S0 67 4) ∧ (S0 67 4) < 40) <| some ((S0 68 (S0 67 4))))
set_option maxHeartbeats 4000000 in
set_option maxRecDepth 100000 in
theorem vX10_peek (l : Launch) {D : va_G} {cy : Nat → ClassId} {b n : Nat} (hn : 102 ≤ n) {X : Nat → va_E} {S0 : St}  {o1 : Int} (hM : mX10_peek S0  = some o1) : gI l yX10_peek cX10_peek 1 (some .int) 0 0 0 D cy b n (enc b cy X S0) [.ref (b + 65)] (fun r u => r = iI o1 ∧ u = (n, enc b cy X S0)) := by
  refine gI_of (by decide) (Nat.le_of_ble_eq_true rfl) ?_
  intro p e s m args below meth c S hr hlk hin hsz ls hl hG
  have hx := S.1
  have hb := S.2.1
  have hl : lv_has ls 1 [(0, .ref (b + 65))] := hl
  replace hG : gW D cy b n s s.heap [] (enc b cy X S0) := hG
  obtain ⟨H, eH⟩ : ∃ H, H = s.heap := ⟨_, rfl⟩
  obtain ⟨locs, elocs⟩ : ∃ locs : List Loc, locs = [] := ⟨_, rfl⟩
  rw [← eH, ← elocs] at hG
  rw [← eH, ← elocs]
  clear eH elocs
  unfold mX10_peek at hM
  refine lv_aload_n hx hb dX10_peek_0 rfl (lv_at hl 0 rfl) ?_
  refine m_get S hG 65 67 4 rfl ec_67 cpX10 wm_562 dX10_peek_1 rfl (Nat.lt_of_lt_of_le (Nat.le_of_ble_eq_true rfl) hn) (by decide) ?_
  refine lv_aload_n hx hb dX10_peek_4 rfl (lv_at hl 0 rfl) ?_
  refine m_get S hG 65 67 3 rfl ec_67 cpX10 wm_561 dX10_peek_5 rfl (Nat.lt_of_lt_of_le (Nat.le_of_ble_eq_true rfl) hn) (by decide) ?_
  obtain ⟨hg_1, hM⟩ := gd_some hM
  refine gi_icmp_ge (tgt := 23) hx hb dX10_peek_8 (by decide) hg_1.1 hg_1.2 (fun c_2 => ?_) (fun c_2 => ?_)
  · replace hM := ifp hM c_2
    refine lv_iconst (v := iI 0) hx hb dX10_peek_23 (by decide) ?_
    cases hM
    exact g_iret S hr hlk hG hsz dX10_peek_24 ⟨Nat.le_of_ble_eq_true rfl, Nat.le_of_ble_eq_true rfl⟩ ⟨rfl, rfl⟩
  · replace hM := ifn hM c_2
    refine lv_aload_n hx hb dX10_peek_11 rfl (lv_at hl 0 rfl) ?_
    refine m_get S hG 65 67 1 rfl ec_67 cpX10 wm_558 dX10_peek_12 rfl (Nat.lt_of_lt_of_le (Nat.le_of_ble_eq_true rfl) hn) (by decide) ?_
    refine lv_aload_n hx hb dX10_peek_15 rfl (lv_at hl 0 rfl) ?_
    refine m_get S hG 65 67 4 rfl ec_67 cpX10 wm_562 dX10_peek_16 rfl (Nat.lt_of_lt_of_le (Nat.le_of_ble_eq_true rfl) hn) (by decide) ?_
    obtain ⟨hg_3, hM⟩ := gd_some hM
    refine mb_ald S hG 66 68 rfl ec_68 (Nat.lt_of_lt_of_le (Nat.le_of_ble_eq_true rfl) hn) dX10_peek_19 hg_3 (by decide) ?_
    refine lv_goto (tgt := 24) hx hb dX10_peek_20 (by decide) ?_
    cases hM
    exact g_iret S hr hlk hG hsz dX10_peek_24 ⟨Nat.le_of_ble_eq_true rfl, Nat.le_of_ble_eq_true rfl⟩ ⟨rfl, rfl⟩
theorem wV_10_81 : gWV "GrownKinds$ThingReader" 81 yX2_isOff cX2_isOff 3 (some .boolean) := ⟨wm_1467, wm_906, wm_907, wm_178, wm_908, by decide +kernel, by decide +kernel⟩
theorem wV_10_85 : gWV "GrownKinds$ThingReader" 85 yX2_start cX2_start 3 (some .int) := ⟨wm_1468, wm_910, wm_911, wm_178, wm_912, by decide +kernel, by decide +kernel⟩
theorem wV_10_92 : gWV "GrownKinds$ThingReader" 92 yX10_mayAwait cX10_mayAwait 2 (some .boolean) := ⟨wm_1469, wm_1471, wm_71, wm_185, wm_1472, by decide +kernel, by decide +kernel⟩
def mX10_mayAwait (S0 : St) (a1 : Int) : Option (Int × St) := gd ((inI ((S0 67 8) + a1)) ∧ (inI ((S0 67 3) - (S0 67 4)))) <| if ((S0 67 8) + a1) ≤ ((S0 67 3) - (S0 67 4)) then (gd ((S0 67 6) = 0 ∨ (S0 67 6) = 1) <| some ((S0 67 6), S0)) else (nx (up S0 67 6 0) fun S_4 => gd ((S_4 67 6) = 0 ∨ (S_4 67 6) = 1) <| some ((S_4 67 6), S_4))
set_option maxHeartbeats 4000000 in
set_option maxRecDepth 100000 in
theorem vX10_mayAwait (l : Launch) {D : va_G} {cy : Nat → ClassId} {b n : Nat} (hn : 102 ≤ n) {X : Nat → va_E} {S0 : St} (a1 : Int) {o1 : Int} {o2 : St} (hM : mX10_mayAwait S0 a1 = some (o1, o2)) : gI l yX10_mayAwait cX10_mayAwait 2 (some .boolean) 0 0 0 D cy b n (enc b cy X S0) [.ref (b + 65), .int (iI a1)] (fun r u => r = iI o1 ∧ u = (n, enc b cy X o2)) := by
  refine gI_of (by decide) (Nat.le_of_ble_eq_true rfl) ?_
  intro p e s m args below meth c S hr hlk hin hsz ls hl hG
  have hx := S.1
  have hb := S.2.1
  have hl : lv_has ls 2 [(0, .ref (b + 65)), (1, .int (iI a1))] := hl
  replace hG : gW D cy b n s s.heap [] (enc b cy X S0) := hG
  obtain ⟨H, eH⟩ : ∃ H, H = s.heap := ⟨_, rfl⟩
  obtain ⟨locs, elocs⟩ : ∃ locs : List Loc, locs = [] := ⟨_, rfl⟩
  rw [← eH, ← elocs] at hG
  rw [← eH, ← elocs]
  clear eH elocs
  unfold mX10_mayAwait at hM
  refine lv_aload_n hx hb dX10_mayAwait_0 rfl (lv_at hl 0 rfl) ?_
  refine m_get S hG 65 67 8 rfl ec_67 cpX10 wm_566 dX10_mayAwait_1 rfl (Nat.lt_of_lt_of_le (Nat.le_of_ble_eq_true rfl) hn) (by decide) ?_
  refine lv_iload_n hx hb dX10_mayAwait_4 rfl (lv_at hl 1 rfl) ?_
  refine gi_add hx hb dX10_mayAwait_5 ?_
  refine lv_aload_n hx hb dX10_mayAwait_6 rfl (lv_at hl 0 rfl) ?_
  refine m_get S hG 65 67 3 rfl ec_67 cpX10 wm_561 dX10_mayAwait_7 rfl (Nat.lt_of_lt_of_le (Nat.le_of_ble_eq_true rfl) hn) (by decide) ?_
  refine lv_aload_n hx hb dX10_mayAwait_10 rfl (lv_at hl 0 rfl) ?_
  refine m_get S hG 65 67 4 rfl ec_67 cpX10 wm_562 dX10_mayAwait_11 rfl (Nat.lt_of_lt_of_le (Nat.le_of_ble_eq_true rfl) hn) (by decide) ?_
  refine gi_sub hx hb dX10_mayAwait_14 ?_
  obtain ⟨hg_1, hM⟩ := gd_some hM
  refine gi_icmp_le (tgt := 23) hx hb dX10_mayAwait_15 (by decide) hg_1.1 hg_1.2 (fun c_2 => ?_) (fun c_2 => ?_)
  · replace hM := ifp hM c_2
    refine lv_aload_n hx hb dX10_mayAwait_23 rfl (lv_at hl 0 rfl) ?_
    refine m_get S hG 65 67 6 rfl ec_67 cpX10 wm_564 dX10_mayAwait_24 rfl (Nat.lt_of_lt_of_le (Nat.le_of_ble_eq_true rfl) hn) (by decide) ?_
    obtain ⟨hg_3, hM⟩ := gd_some hM
    cases hM
    exact g_zret S hr hlk hG hsz dX10_mayAwait_27 ⟨Nat.le_of_ble_eq_true rfl, Nat.le_of_ble_eq_true rfl⟩ (nar_z hg_3) ⟨rfl, rfl⟩
  · replace hM := ifn hM c_2
    refine lv_aload_n hx hb dX10_mayAwait_18 rfl (lv_at hl 0 rfl) ?_
    refine lv_iconst (v := iI 0) hx hb dX10_mayAwait_19 (by decide) ?_
    refine m_put S hG 65 67 6 rfl 6 0 ec_67 cpX10 wm_564 dX10_mayAwait_20 (pf_67_6) (Nat.lt_of_lt_of_le (Nat.le_of_ble_eq_true rfl) hn) (by decide) (Nat.le_of_ble_eq_true rfl) rfl rfl rfl (fun H locs S_4 eS_4 hG => ?_)
    replace hM := nx_at hM eS_4
    clear eS_4
    refine lv_aload_n hx hb dX10_mayAwait_23 rfl (lv_at hl 0 rfl) ?_
    refine m_get S hG 65 67 6 rfl ec_67 cpX10 wm_564 dX10_mayAwait_24 rfl (Nat.lt_of_lt_of_le (Nat.le_of_ble_eq_true rfl) hn) (by decide) ?_
    obtain ⟨hg_5, hM⟩ := gd_some hM
    cases hM
    exact g_zret S hr hlk hG hsz dX10_mayAwait_27 ⟨Nat.le_of_ble_eq_true rfl, Nat.le_of_ble_eq_true rfl⟩ (nar_z hg_5) ⟨rfl, rfl⟩
def mX10_readExpr_136 (y_20 : Int) : Nat → Int → Int → St → Option (St)
  | 0, _, _, _ => none
  | f + 1, v_31, v_32, S_33 => gd (inI v_31) <| if v_31 < 0 then (some (S_33)) else (gd (inI v_32) <| if v_32 = (-1) then (some (S_33)) else (gd (0 ≤ ((S_33 67 8) + v_31) ∧ ((S_33 67 8) + v_31) < 40) <| nx (up S_33 70 ((S_33 67 8) + v_31) v_32) fun S_46 => gd (0 ≤ v_32 ∧ v_32 < 24) <| nx (S_46 6 v_32) fun x_48 => mX10_readExpr_136 y_20 f (v_31 - 1) x_48 S_46))
def mX10_readExpr_81 (S_3 : St) (a1 : Int) (y_2 : Int) : Nat → Int → Int → Option (Int)
  | 0, _, _ => none
  | f + 1, v_18, v_19 => gd (inI v_18) <| if v_18 = (-1) then (some (v_19)) else (gd (inI v_19) <| if 24 ≤ v_19 then (some (v_19)) else (gd (0 ≤ v_18 ∧ v_18 < 24) <| nx (S_3 6 v_18) fun x_57 => mX10_readExpr_81 S_3 a1 y_2 f x_57 (v_19 + 1)))
def mX10_readExpr (S0 : St) (a1 : Int) : Option (St) := gd (0 ≤ a1 ∧ a1 < 30) <| bd2 (gd (inI (S0 8 a1)) <| if (S0 8 a1) ≤ 1 then (some (0, S0)) else (bd1 (mX10_peek S0) fun r_62 => nx (r_62 - 48) fun x_63 => nx (up S0 67 4 ((S0 67 4) + 1)) fun S_64 => some (x_63, S_64))) fun y_2 S_3 => gd (inI y_2) <| if y_2 < 0 then (nx (up S_3 67 6 0) fun S_8 => some (S_8)) else (gd (inI (S_3 8 a1)) <| if (S_3 8 a1) ≤ y_2 then (nx (up S_3 67 6 0) fun S_11 => some (S_11)) else (bd1 (mX2_isOff_2 S_3 a1 y_2) fun r_13 => gd (inI r_13) <| if r_13 = 0 then (bd1 (mX2_start_2 S_3 a1 y_2) fun r_17 => bd1 (mX10_readExpr_81 S_3 a1 y_2 FU r_17 0) fun y_20 => bd2 (mX10_mayAwait S_3 y_20) fun r_24 S_25 => gd (inI r_24) <| if r_24 = 0 then (some (S_25)) else (bd1 (mX2_start_2 S_25 a1 y_2) fun r_29 => nx (y_20 - 1) fun x_30 => bd1 (mX10_readExpr_136 y_20 FU x_30 r_29 S_25) fun S_34 => nx (up S_34 67 8 ((S_34 67 8) + y_20)) fun S_37 => some (S_37))) else (nx (up S_3 67 6 0) fun S_58 => some (S_58))))
set_option maxHeartbeats 4000000 in
set_option maxRecDepth 100000 in
theorem vX10_readExpr (l : Launch) {D : va_G} {cy : Nat → ClassId} {b n : Nat} (hn : 102 ≤ n) {X : Nat → va_E} {S0 : St} (a1 : Int) {o1 : St} (hM : mX10_readExpr S0 a1 = some o1) : gV l yX10_readExpr cX10_readExpr 6 1 0 0 D cy b n (enc b cy X S0) [.ref (b + 65), .int (iI a1)] (fun u => u = (n, enc b cy X o1)) := by
  refine gV_of (by decide) (Nat.le_of_ble_eq_true rfl) ?_
  intro p e s m args below meth c S hr hlk hin hsz ls hl hG
  have hx := S.1
  have hb := S.2.1
  have hl : lv_has ls 6 [(0, .ref (b + 65)), (1, .int (iI a1))] := hl
  replace hG : gW D cy b n s s.heap [] (enc b cy X S0) := hG
  obtain ⟨H, eH⟩ : ∃ H, H = s.heap := ⟨_, rfl⟩
  obtain ⟨locs, elocs⟩ : ∃ locs : List Loc, locs = [] := ⟨_, rfl⟩
  rw [← eH, ← elocs] at hG
  rw [← eH, ← elocs]
  clear eH elocs
  unfold mX10_readExpr at hM
  refine lv_iconst (v := iI 0) hx hb dX10_readExpr_0 (by decide) ?_
  refine lv_istore_n (lv' := [(2, .int (iI 0)), (0, .ref (b + 65)), (1, .int (iI a1))]) hx hb dX10_readExpr_1 rfl hl (by decide) rfl (fun ls hl => ?_)
  refine lv_aload_n hx hb dX10_readExpr_2 rfl (lv_at hl 1 rfl) ?_
  refine m_get S hG 65 67 0 rfl ec_67 cpX10 wm_557 dX10_readExpr_3 rfl (Nat.lt_of_lt_of_le (Nat.le_of_ble_eq_true rfl) hn) (by decide) ?_
  refine m_get S hG 2 2 10 rfl ec_2 cpX2 wm_263 dX10_readExpr_6 rfl (Nat.lt_of_lt_of_le (Nat.le_of_ble_eq_true rfl) hn) (by decide) ?_
  refine lv_iload_n hx hb dX10_readExpr_9 rfl (lv_at hl 2 rfl) ?_
  obtain ⟨hg_1, hM⟩ := gd_some hM
  refine mi_ald S hG 8 8 rfl ec_8 (Nat.lt_of_lt_of_le (Nat.le_of_ble_eq_true rfl) hn) dX10_readExpr_10 hg_1 (by decide) ?_
  refine lv_iconst (v := iI 1) hx hb dX10_readExpr_11 (by decide) ?_
  obtain ⟨y_2, S_3, hc_4, hM⟩ := bd2_some hM
  have hK_5 : ∀ (H : Heap) (locs : List Loc) (ls : Array Slot), gW D cy b n s H locs (enc b cy X S_3) → lv_has ls 6 [(0, .ref (b + 65)), (1, .int (iI a1)), (2, .int (iI y_2))] → W p l e (gRm 1 0 0) s m args below meth c H locs 0 0 (gQV D cy b s args below 0 0 (fun u => u = (n, enc b cy X o1))) (F0 m 33 ls []) := by
    intro H locs ls hG hl
    refine lv_iload_n hx hb dX10_readExpr_33 rfl (lv_at hl 2 rfl) ?_
    obtain ⟨hg_6, hM⟩ := gd_some hM
    refine gi_if_lt (tgt := 62) hx hb dX10_readExpr_34 (by decide) hg_6 (fun c_7 => ?_) (fun c_7 => ?_)
    · replace hM := ifp hM c_7
      refine lv_aload_n hx hb dX10_readExpr_62 rfl (lv_at hl 0 rfl) ?_
      refine lv_iconst (v := iI 0) hx hb dX10_readExpr_63 (by decide) ?_
      refine m_put S hG 65 67 6 rfl 6 0 ec_67 cpX10 wm_564 dX10_readExpr_64 (pf_67_6) (Nat.lt_of_lt_of_le (Nat.le_of_ble_eq_true rfl) hn) (by decide) (Nat.le_of_ble_eq_true rfl) rfl rfl rfl (fun H locs S_8 eS_8 hG => ?_)
      replace hM := nx_at hM eS_8
      clear eS_8
      cases hM
      exact g_vret S hr hlk hG hsz dX10_readExpr_67 ⟨Nat.le_of_ble_eq_true rfl, Nat.le_of_ble_eq_true rfl⟩ rfl
    · replace hM := ifn hM c_7
      refine lv_iload_n hx hb dX10_readExpr_37 rfl (lv_at hl 2 rfl) ?_
      refine lv_aload_n hx hb dX10_readExpr_38 rfl (lv_at hl 0 rfl) ?_
      refine m_get S hG 65 67 0 rfl ec_67 cpX10 wm_557 dX10_readExpr_39 rfl (Nat.lt_of_lt_of_le (Nat.le_of_ble_eq_true rfl) hn) (by decide) ?_
      refine m_get S hG 2 2 10 rfl ec_2 cpX2 wm_263 dX10_readExpr_42 rfl (Nat.lt_of_lt_of_le (Nat.le_of_ble_eq_true rfl) hn) (by decide) ?_
      refine lv_iload_n hx hb dX10_readExpr_45 rfl (lv_at hl 1 rfl) ?_
      refine mi_ald S hG 8 8 rfl ec_8 (Nat.lt_of_lt_of_le (Nat.le_of_ble_eq_true rfl) hn) dX10_readExpr_46 hg_1 (by decide) ?_
      obtain ⟨hg_9, hM⟩ := gd_some hM
      refine gi_icmp_ge (tgt := 62) hx hb dX10_readExpr_47 (by decide) hg_6 hg_9 (fun c_10 => ?_) (fun c_10 => ?_)
      · replace hM := ifp hM c_10
        refine lv_aload_n hx hb dX10_readExpr_62 rfl (lv_at hl 0 rfl) ?_
        refine lv_iconst (v := iI 0) hx hb dX10_readExpr_63 (by decide) ?_
        refine m_put S hG 65 67 6 rfl 6 0 ec_67 cpX10 wm_564 dX10_readExpr_64 (pf_67_6) (Nat.lt_of_lt_of_le (Nat.le_of_ble_eq_true rfl) hn) (by decide) (Nat.le_of_ble_eq_true rfl) rfl rfl rfl (fun H locs S_11 eS_11 hG => ?_)
        replace hM := nx_at hM eS_11
        clear eS_11
        cases hM
        exact g_vret S hr hlk hG hsz dX10_readExpr_67 ⟨Nat.le_of_ble_eq_true rfl, Nat.le_of_ble_eq_true rfl⟩ rfl
      · replace hM := ifn hM c_10
        refine lv_aload_n hx hb dX10_readExpr_50 rfl (lv_at hl 0 rfl) ?_
        refine m_get S hG 65 67 0 rfl ec_67 cpX10 wm_557 dX10_readExpr_51 rfl (Nat.lt_of_lt_of_le (Nat.le_of_ble_eq_true rfl) hn) (by decide) ?_
        refine lv_iload_n hx hb dX10_readExpr_54 rfl (lv_at hl 1 rfl) ?_
        refine lv_iload_n hx hb dX10_readExpr_55 rfl (lv_at hl 2 rfl) ?_
        obtain ⟨r_13, hc_12, hM⟩ := bd1_some hM
        refine g_vi (As := [.int (iI a1), .int (iI y_2)]) (rest := []) S hG hsz (vX2_isOff_2 l hn a1 y_2 hc_12) wV_10_81 (ec_2 _) cpX2 (Nat.lt_of_lt_of_le (Nat.le_of_ble_eq_true rfl) hn) dX10_readExpr_56 rfl hl.1 (ar := 2) (by decide +kernel) rfl ⟨Nat.le_of_ble_eq_true rfl, Nat.le_of_ble_eq_true rfl, Nat.le_of_ble_eq_true rfl, Nat.le_of_ble_eq_true rfl⟩ (Nat.le_of_ble_eq_true rfl) (fun rv uu H locs hp hG => ?_)
        obtain ⟨rfl, rfl⟩ := hp
        replace hG : gW D cy b n s H locs (enc b cy X S_3) := hG
        obtain ⟨hg_14, hM⟩ := gd_some hM
        refine gi_if_eq (tgt := 68) hx hb dX10_readExpr_59 (by decide) hg_14 (fun c_15 => ?_) (fun c_15 => ?_)
        · replace hM := ifp hM c_15
          refine lv_iconst (v := iI 0) hx hb dX10_readExpr_68 (by decide) ?_
          refine lv_istore_n (lv' := [(3, .int (iI 0)), (0, .ref (b + 65)), (1, .int (iI a1)), (2, .int (iI y_2))]) hx hb dX10_readExpr_69 rfl hl (by decide) rfl (fun ls hl => ?_)
          refine lv_aload_n hx hb dX10_readExpr_70 rfl (lv_at hl 1 rfl) ?_
          refine m_get S hG 65 67 0 rfl ec_67 cpX10 wm_557 dX10_readExpr_71 rfl (Nat.lt_of_lt_of_le (Nat.le_of_ble_eq_true rfl) hn) (by decide) ?_
          refine lv_iload_n hx hb dX10_readExpr_74 rfl (lv_at hl 2 rfl) ?_
          refine lv_iload_n hx hb dX10_readExpr_75 rfl (lv_at hl 3 rfl) ?_
          obtain ⟨r_17, hc_16, hM⟩ := bd1_some hM
          refine g_vi (As := [.int (iI a1), .int (iI y_2)]) (rest := []) S hG hsz (vX2_start_2 l hn a1 y_2 hc_16) wV_10_85 (ec_2 _) cpX2 (Nat.lt_of_lt_of_le (Nat.le_of_ble_eq_true rfl) hn) dX10_readExpr_76 rfl hl.1 (ar := 2) (by decide +kernel) rfl ⟨Nat.le_of_ble_eq_true rfl, Nat.le_of_ble_eq_true rfl, Nat.le_of_ble_eq_true rfl, Nat.le_of_ble_eq_true rfl⟩ (Nat.le_of_ble_eq_true rfl) (fun rv uu H locs hp hG => ?_)
          obtain ⟨rfl, rfl⟩ := hp
          replace hG : gW D cy b n s H locs (enc b cy X S_3) := hG
          refine lv_istore (lv' := [(4, .int (iI r_17)), (3, .int (iI 0)), (0, .ref (b + 65)), (1, .int (iI a1)), (2, .int (iI y_2))]) hx hb dX10_readExpr_79 hl (by decide) rfl (fun ls hl => ?_)
          obtain ⟨y_20, hc_21, hM⟩ := bd1_some hM
          have hK_22 : ∀ (H : Heap) (locs : List Loc) (ls : Array Slot), gW D cy b n s H locs (enc b cy X S_3) → lv_has ls 6 [(0, .ref (b + 65)), (1, .int (iI a1)), (2, .int (iI y_2)), (3, .int (iI y_20))] → W p l e (gRm 1 0 0) s m args below meth c H locs 0 0 (gQV D cy b s args below 0 0 (fun u => u = (n, enc b cy X o1))) (F0 m 111 ls []) := by
            intro H locs ls hG hl
            refine lv_aload_n hx hb dX10_readExpr_111 rfl (lv_at hl 0 rfl) ?_
            refine lv_iload_n hx hb dX10_readExpr_112 rfl (lv_at hl 3 rfl) ?_
            obtain ⟨r_24, S_25, hc_23, hM⟩ := bd2_some hM
            refine g_vi (As := [.int (iI y_20)]) (rest := []) S hG hsz (vX10_mayAwait l hn y_20 hc_23) wV_10_92 (ec_67 _) cpX10 (Nat.lt_of_lt_of_le (Nat.le_of_ble_eq_true rfl) hn) dX10_readExpr_113 rfl hl.1 (ar := 1) (by decide +kernel) rfl ⟨Nat.le_of_ble_eq_true rfl, Nat.le_of_ble_eq_true rfl, Nat.le_of_ble_eq_true rfl, Nat.le_of_ble_eq_true rfl⟩ (Nat.le_of_ble_eq_true rfl) (fun rv uu H locs hp hG => ?_)
            obtain ⟨rfl, rfl⟩ := hp
            replace hG : gW D cy b n s H locs (enc b cy X S_25) := hG
            obtain ⟨hg_26, hM⟩ := gd_some hM
            refine gi_if_ne (tgt := 120) hx hb dX10_readExpr_116 (by decide) hg_26 (fun c_27 => ?_) (fun c_27 => ?_)
            · replace hM := ifn hM c_27
              refine lv_aload_n hx hb dX10_readExpr_120 rfl (lv_at hl 0 rfl) ?_
              refine m_get S hG 65 67 0 rfl ec_67 cpX10 wm_557 dX10_readExpr_121 rfl (Nat.lt_of_lt_of_le (Nat.le_of_ble_eq_true rfl) hn) (by decide) ?_
              refine lv_iload_n hx hb dX10_readExpr_124 rfl (lv_at hl 1 rfl) ?_
              refine lv_iload_n hx hb dX10_readExpr_125 rfl (lv_at hl 2 rfl) ?_
              obtain ⟨r_29, hc_28, hM⟩ := bd1_some hM
              refine g_vi (As := [.int (iI a1), .int (iI y_2)]) (rest := []) S hG hsz (vX2_start_2 l hn a1 y_2 hc_28) wV_10_85 (ec_2 _) cpX2 (Nat.lt_of_lt_of_le (Nat.le_of_ble_eq_true rfl) hn) dX10_readExpr_126 rfl hl.1 (ar := 2) (by decide +kernel) rfl ⟨Nat.le_of_ble_eq_true rfl, Nat.le_of_ble_eq_true rfl, Nat.le_of_ble_eq_true rfl, Nat.le_of_ble_eq_true rfl⟩ (Nat.le_of_ble_eq_true rfl) (fun rv uu H locs hp hG => ?_)
              obtain ⟨rfl, rfl⟩ := hp
              replace hG : gW D cy b n s H locs (enc b cy X S_25) := hG
              refine lv_istore (lv' := [(4, .int (iI r_29)), (0, .ref (b + 65)), (1, .int (iI a1)), (2, .int (iI y_2)), (3, .int (iI y_20))]) hx hb dX10_readExpr_129 hl (by decide) rfl (fun ls hl => ?_)
              refine lv_iload_n hx hb dX10_readExpr_131 rfl (lv_at hl 4 rfl) ?_
              refine lv_iconst (v := iI 1) hx hb dX10_readExpr_132 (by decide) ?_
              refine gi_sub hx hb dX10_readExpr_133 ?_
              refine gi_nm (fun x_30 ex_30 => ?_)
              replace hM := nx_at hM ex_30
              clear ex_30
              refine lv_istore (lv' := [(5, .int (iI x_30)), (4, .int (iI r_29)), (0, .ref (b + 65)), (1, .int (iI a1)), (2, .int (iI y_2)), (3, .int (iI y_20))]) hx hb dX10_readExpr_134 hl (by decide) rfl (fun ls hl => ?_)
              obtain ⟨S_34, hc_35, hM⟩ := bd1_some hM
              have hK_36 : ∀ (H : Heap) (locs : List Loc) (ls : Array Slot), gW D cy b n s H locs (enc b cy X S_34) → lv_has ls 6 [(0, .ref (b + 65)), (3, .int (iI y_20))] → W p l e (gRm 1 0 0) s m args below meth c H locs 0 0 (gQV D cy b s args below 0 0 (fun u => u = (n, enc b cy X o1))) (F0 m 179 ls []) := by
                intro H locs ls hG hl
                refine lv_aload_n hx hb dX10_readExpr_179 rfl (lv_at hl 0 rfl) ?_
                refine lv_dup hx hb dX10_readExpr_180 rfl ?_
                refine m_get S hG 65 67 8 rfl ec_67 cpX10 wm_566 dX10_readExpr_181 rfl (Nat.lt_of_lt_of_le (Nat.le_of_ble_eq_true rfl) hn) (by decide) ?_
                refine lv_iload_n hx hb dX10_readExpr_184 rfl (lv_at hl 1 rfl) ?_
                refine gi_add hx hb dX10_readExpr_185 ?_
                refine m_put S hG 65 67 8 rfl 8 ((S_34 67 8) + y_20) ec_67 cpX10 wm_566 dX10_readExpr_186 (pf_67_8) (Nat.lt_of_lt_of_le (Nat.le_of_ble_eq_true rfl) hn) (by decide) (Nat.le_of_ble_eq_true rfl) rfl rfl rfl (fun H locs S_37 eS_37 hG => ?_)
                replace hM := nx_at hM eS_37
                clear eS_37
                cases hM
                exact g_vret S hr hlk hG hsz dX10_readExpr_189 ⟨Nat.le_of_ble_eq_true rfl, Nat.le_of_ble_eq_true rfl⟩ rfl
              have loop_38 : ∀ (f : Nat) (v_31 : Int) (v_32 : Int) (S_33 : St) (H : Heap) (locs : List Loc) (ls : Array Slot), mX10_readExpr_136 y_20 f v_31 v_32 S_33 = some S_34 → gW D cy b n s H locs (enc b cy X S_33) → lv_has ls 6 [(5, .int (iI v_31)), (4, .int (iI v_32)), (0, .ref (b + 65)), (3, .int (iI y_20))] → W p l e (gRm 1 0 0) s m args below meth c H locs 0 0 (gQV D cy b s args below 0 0 (fun u => u = (n, enc b cy X o1))) (F0 m 136 ls []) := by
                clear hM
                intro f
                induction f with
                | zero => intro v_31 v_32 S_33 H locs ls hM; rw [mX10_readExpr_136] at hM; cases hM
                | succ f_40 ih_39 =>
                  intro v_31 v_32 S_33 H locs ls hM hG hl
                  rw [mX10_readExpr_136] at hM
                  refine lv_iload hx hb dX10_readExpr_136 (lv_at hl 0 rfl) ?_
                  obtain ⟨hg_41, hM⟩ := gd_some hM
                  refine gi_if_lt (tgt := 179) hx hb dX10_readExpr_138 (by decide) hg_41 (fun c_42 => ?_) (fun c_42 => ?_)
                  · replace hM := ifp hM c_42
                    cases hM
                    exact hK_36 H locs ls hG (lv_sub hl [2, 3] rfl)
                  · replace hM := ifn hM c_42
                    refine lv_iload hx hb dX10_readExpr_141 (lv_at hl 1 rfl) ?_
                    refine lv_iconst (v := iI (-1)) hx hb dX10_readExpr_143 (by decide) ?_
                    obtain ⟨hg_43, hM⟩ := gd_some hM
                    refine gi_icmp_eq (tgt := 179) hx hb dX10_readExpr_144 (by decide) hg_43 (by decide) (fun c_44 => ?_) (fun c_44 => ?_)
                    · replace hM := ifp hM c_44
                      cases hM
                      exact hK_36 H locs ls hG (lv_sub hl [2, 3] rfl)
                    · replace hM := ifn hM c_44
                      refine lv_aload_n hx hb dX10_readExpr_147 rfl (lv_at hl 2 rfl) ?_
                      refine m_get S hG 65 67 7 rfl ec_67 cpX10 wm_565 dX10_readExpr_148 rfl (Nat.lt_of_lt_of_le (Nat.le_of_ble_eq_true rfl) hn) (by decide) ?_
                      refine lv_aload_n hx hb dX10_readExpr_151 rfl (lv_at hl 2 rfl) ?_
                      refine m_get S hG 65 67 8 rfl ec_67 cpX10 wm_566 dX10_readExpr_152 rfl (Nat.lt_of_lt_of_le (Nat.le_of_ble_eq_true rfl) hn) (by decide) ?_
                      refine lv_iload hx hb dX10_readExpr_155 (lv_at hl 0 rfl) ?_
                      refine gi_add hx hb dX10_readExpr_157 ?_
                      refine lv_iload hx hb dX10_readExpr_158 (lv_at hl 1 rfl) ?_
                      obtain ⟨hg_45, hM⟩ := gd_some hM
                      refine mi_ast S hG 68 70 rfl ec_70 (Nat.lt_of_lt_of_le (Nat.le_of_ble_eq_true rfl) hn) dX10_readExpr_160 hg_45 (by decide) (fun H locs S_46 eS_46 hG => ?_)
                      replace hM := nx_at hM eS_46
                      clear eS_46
                      refine lv_aload_n hx hb dX10_readExpr_161 rfl (lv_at hl 2 rfl) ?_
                      refine m_get S hG 65 67 0 rfl ec_67 cpX10 wm_557 dX10_readExpr_162 rfl (Nat.lt_of_lt_of_le (Nat.le_of_ble_eq_true rfl) hn) (by decide) ?_
                      refine m_get S hG 2 2 8 rfl ec_2 cpX2 wm_255 dX10_readExpr_165 rfl (Nat.lt_of_lt_of_le (Nat.le_of_ble_eq_true rfl) hn) (by decide) ?_
                      refine lv_iload hx hb dX10_readExpr_168 (lv_at hl 1 rfl) ?_
                      obtain ⟨hg_47, hM⟩ := gd_some hM
                      refine mi_ald S hG 6 6 rfl ec_6 (Nat.lt_of_lt_of_le (Nat.le_of_ble_eq_true rfl) hn) dX10_readExpr_170 hg_47 (by decide) ?_
                      refine gi_nm (fun x_48 ex_48 => ?_)
                      replace hM := nx_at hM ex_48
                      clear ex_48
                      refine lv_istore (lv' := [(4, .int (iI x_48)), (5, .int (iI v_31)), (0, .ref (b + 65)), (3, .int (iI y_20))]) hx hb dX10_readExpr_171 hl (by decide) rfl (fun ls hl => ?_)
                      refine lv_iinc (v := iI (v_31 - 1)) (lv' := [(5, .int (iI (v_31 - 1))), (4, .int (iI x_48)), (0, .ref (b + 65)), (3, .int (iI y_20))]) hx hb dX10_readExpr_173 hl (k := 1) rfl ((iI_add v_31 (-1)).trans (congrArg iI (by omega))) (by decide) rfl (fun ls hl => ?_)
                      refine lv_goto (tgt := 136) hx hb dX10_readExpr_176 (by decide) ?_
                      exact ih_39 (v_31 - 1) x_48 S_46 H locs ls hM hG (lv_sub hl [0, 1, 2, 3] rfl)
              exact loop_38 FU x_30 r_29 S_25 H locs ls hc_35 hG (lv_sub hl [0, 1, 2, 5] rfl)
            · replace hM := ifp hM c_27
              cases hM
              exact g_vret S hr hlk hG hsz dX10_readExpr_119 ⟨Nat.le_of_ble_eq_true rfl, Nat.le_of_ble_eq_true rfl⟩ rfl
          have loop_49 : ∀ (f : Nat) (v_18 : Int) (v_19 : Int) (H : Heap) (locs : List Loc) (ls : Array Slot), mX10_readExpr_81 S_3 a1 y_2 f v_18 v_19 = some y_20 → gW D cy b n s H locs (enc b cy X S_3) → lv_has ls 6 [(4, .int (iI v_18)), (3, .int (iI v_19)), (0, .ref (b + 65)), (1, .int (iI a1)), (2, .int (iI y_2))] → W p l e (gRm 1 0 0) s m args below meth c H locs 0 0 (gQV D cy b s args below 0 0 (fun u => u = (n, enc b cy X o1))) (F0 m 81 ls []) := by
            clear hM
            intro f
            induction f with
            | zero => intro v_18 v_19 H locs ls hM; rw [mX10_readExpr_81] at hM; cases hM
            | succ f_51 ih_50 =>
              intro v_18 v_19 H locs ls hM hG hl
              rw [mX10_readExpr_81] at hM
              refine lv_iload hx hb dX10_readExpr_81 (lv_at hl 0 rfl) ?_
              refine lv_iconst (v := iI (-1)) hx hb dX10_readExpr_83 (by decide) ?_
              obtain ⟨hg_52, hM⟩ := gd_some hM
              refine gi_icmp_eq (tgt := 111) hx hb dX10_readExpr_84 (by decide) hg_52 (by decide) (fun c_53 => ?_) (fun c_53 => ?_)
              · replace hM := ifp hM c_53
                cases hM
                exact hK_22 H locs ls hG (lv_sub hl [2, 3, 4, 1] rfl)
              · replace hM := ifn hM c_53
                refine lv_iload_n hx hb dX10_readExpr_87 rfl (lv_at hl 1 rfl) ?_
                refine lv_bipush (v := iI 24) hx hb dX10_readExpr_88 (by decide) ?_
                obtain ⟨hg_54, hM⟩ := gd_some hM
                refine gi_icmp_ge (tgt := 111) hx hb dX10_readExpr_90 (by decide) hg_54 (by decide) (fun c_55 => ?_) (fun c_55 => ?_)
                · replace hM := ifp hM c_55
                  cases hM
                  exact hK_22 H locs ls hG (lv_sub hl [2, 3, 4, 1] rfl)
                · replace hM := ifn hM c_55
                  refine lv_iinc (v := iI (v_19 + 1)) (lv' := [(3, .int (iI (v_19 + 1))), (4, .int (iI v_18)), (0, .ref (b + 65)), (1, .int (iI a1)), (2, .int (iI y_2))]) hx hb dX10_readExpr_93 hl (k := 1) rfl ((iI_add v_19 (1)).trans (congrArg iI (by omega))) (by decide) rfl (fun ls hl => ?_)
                  refine lv_aload_n hx hb dX10_readExpr_96 rfl (lv_at hl 2 rfl) ?_
                  refine m_get S hG 65 67 0 rfl ec_67 cpX10 wm_557 dX10_readExpr_97 rfl (Nat.lt_of_lt_of_le (Nat.le_of_ble_eq_true rfl) hn) (by decide) ?_
                  refine m_get S hG 2 2 8 rfl ec_2 cpX2 wm_255 dX10_readExpr_100 rfl (Nat.lt_of_lt_of_le (Nat.le_of_ble_eq_true rfl) hn) (by decide) ?_
                  refine lv_iload hx hb dX10_readExpr_103 (lv_at hl 1 rfl) ?_
                  obtain ⟨hg_56, hM⟩ := gd_some hM
                  refine mi_ald S hG 6 6 rfl ec_6 (Nat.lt_of_lt_of_le (Nat.le_of_ble_eq_true rfl) hn) dX10_readExpr_105 hg_56 (by decide) ?_
                  refine gi_nm (fun x_57 ex_57 => ?_)
                  replace hM := nx_at hM ex_57
                  clear ex_57
                  refine lv_istore (lv' := [(4, .int (iI x_57)), (3, .int (iI (v_19 + 1))), (0, .ref (b + 65)), (1, .int (iI a1)), (2, .int (iI y_2))]) hx hb dX10_readExpr_106 hl (by decide) rfl (fun ls hl => ?_)
                  refine lv_goto (tgt := 81) hx hb dX10_readExpr_108 (by decide) ?_
                  exact ih_50 x_57 (v_19 + 1) H locs ls hM hG (lv_sub hl [0, 1, 2, 3, 4] rfl)
          exact loop_49 FU r_17 0 H locs ls hc_21 hG (lv_sub hl [0, 1, 2, 3, 4] rfl)
        · replace hM := ifn hM c_15
          refine lv_aload_n hx hb dX10_readExpr_62 rfl (lv_at hl 0 rfl) ?_
          refine lv_iconst (v := iI 0) hx hb dX10_readExpr_63 (by decide) ?_
          refine m_put S hG 65 67 6 rfl 6 0 ec_67 cpX10 wm_564 dX10_readExpr_64 (pf_67_6) (Nat.lt_of_lt_of_le (Nat.le_of_ble_eq_true rfl) hn) (by decide) (Nat.le_of_ble_eq_true rfl) rfl rfl rfl (fun H locs S_58 eS_58 hG => ?_)
          replace hM := nx_at hM eS_58
          clear eS_58
          cases hM
          exact g_vret S hr hlk hG hsz dX10_readExpr_67 ⟨Nat.le_of_ble_eq_true rfl, Nat.le_of_ble_eq_true rfl⟩ rfl
  clear hM
  replace hM := hc_4
  obtain ⟨hg_59, hM⟩ := gd_some hM
  refine gi_icmp_le (tgt := 33) hx hb dX10_readExpr_12 (by decide) hg_59 (by decide) (fun c_60 => ?_) (fun c_60 => ?_)
  · replace hM := ifp hM c_60
    cases hM
    exact hK_5 H locs ls hG (lv_sub hl [1, 2, 0] rfl)
  · replace hM := ifn hM c_60
    refine lv_aload_n hx hb dX10_readExpr_15 rfl (lv_at hl 1 rfl) ?_
    obtain ⟨r_62, hc_61, hM⟩ := bd1_some hM
    refine g_vi (As := []) (rest := []) S hG hsz (vX10_peek l hn  hc_61) wV_10_72 (ec_67 _) cpX10 (Nat.lt_of_lt_of_le (Nat.le_of_ble_eq_true rfl) hn) dX10_readExpr_16 rfl hl.1 (ar := 0) (by decide +kernel) rfl ⟨Nat.le_of_ble_eq_true rfl, Nat.le_of_ble_eq_true rfl, Nat.le_of_ble_eq_true rfl, Nat.le_of_ble_eq_true rfl⟩ (Nat.le_of_ble_eq_true rfl) (fun rv uu H locs hp hG => ?_)
    obtain ⟨rfl, rfl⟩ := hp
    replace hG : gW D cy b n s H locs (enc b cy X S0) := hG
    refine lv_bipush (v := iI 48) hx hb dX10_readExpr_19 (by decide) ?_
    refine gi_sub hx hb dX10_readExpr_21 ?_
    refine gi_nm (fun x_63 ex_63 => ?_)
    replace hM := nx_at hM ex_63
    clear ex_63
    refine lv_istore_n (lv' := [(2, .int (iI x_63)), (0, .ref (b + 65)), (1, .int (iI a1))]) hx hb dX10_readExpr_22 rfl hl (by decide) rfl (fun ls hl => ?_)
    refine lv_aload_n hx hb dX10_readExpr_23 rfl (lv_at hl 1 rfl) ?_
    refine lv_dup hx hb dX10_readExpr_24 rfl ?_
    refine m_get S hG 65 67 4 rfl ec_67 cpX10 wm_562 dX10_readExpr_25 rfl (Nat.lt_of_lt_of_le (Nat.le_of_ble_eq_true rfl) hn) (by decide) ?_
    refine lv_iconst (v := iI 1) hx hb dX10_readExpr_28 (by decide) ?_
    refine gi_add hx hb dX10_readExpr_29 ?_
    refine m_put S hG 65 67 4 rfl 4 ((S0 67 4) + 1) ec_67 cpX10 wm_562 dX10_readExpr_30 (pf_67_4) (Nat.lt_of_lt_of_le (Nat.le_of_ble_eq_true rfl) hn) (by decide) (Nat.le_of_ble_eq_true rfl) rfl rfl rfl (fun H locs S_64 eS_64 hG => ?_)
    replace hM := nx_at hM eS_64
    clear eS_64
    cases hM
    exact hK_5 H locs ls hG (lv_sub hl [1, 2, 0] rfl)
theorem wV_10_69 : gWV "GrownKinds$ThingReader" 69 yX10_readPart cX10_readPart 3 none := ⟨wm_1507, wm_1509, wm_80, wm_185, wm_1510, by decide +kernel, by decide +kernel⟩
theorem wV_10_108 : gWV "GrownKinds$ThingReader" 108 yX2_exprOf cX2_exprOf 2 (some .int) := ⟨wm_1515, wm_1418, wm_1419, wm_178, wm_1420, by decide +kernel, by decide +kernel⟩
def mX2_exprOf_2 (S0 : St) (a1 : Int) : Option (Int) := gd (0 ≤ a1 ∧ a1 < 24) <| gd (inI (S0 3 a1)) <| if (S0 3 a1) = 2 then (some ((S0 4 a1))) else (some ((6 + a1)))
set_option maxHeartbeats 4000000 in
set_option maxRecDepth 100000 in
theorem vX2_exprOf_2 (l : Launch) {D : va_G} {cy : Nat → ClassId} {b n : Nat} (hn : 102 ≤ n) {X : Nat → va_E} {S0 : St} (a1 : Int) {o1 : Int} (hM : mX2_exprOf_2 S0 a1 = some o1) : gI l yX2_exprOf cX2_exprOf 2 (some .int) 0 0 0 D cy b n (enc b cy X S0) [.ref (b + 2), .int (iI a1)] (fun r u => r = iI o1 ∧ u = (n, enc b cy X S0)) := by
  refine gI_of (by decide) (Nat.le_of_ble_eq_true rfl) ?_
  intro p e s m args below meth c S hr hlk hin hsz ls hl hG
  have hx := S.1
  have hb := S.2.1
  have hl : lv_has ls 2 [(0, .ref (b + 2)), (1, .int (iI a1))] := hl
  replace hG : gW D cy b n s s.heap [] (enc b cy X S0) := hG
  obtain ⟨H, eH⟩ : ∃ H, H = s.heap := ⟨_, rfl⟩
  obtain ⟨locs, elocs⟩ : ∃ locs : List Loc, locs = [] := ⟨_, rfl⟩
  rw [← eH, ← elocs] at hG
  rw [← eH, ← elocs]
  clear eH elocs
  unfold mX2_exprOf_2 at hM
  refine lv_aload_n hx hb dX2_exprOf_0 rfl (lv_at hl 0 rfl) ?_
  refine m_get S hG 2 2 5 rfl ec_2 cpX2 wm_234 dX2_exprOf_1 rfl (Nat.lt_of_lt_of_le (Nat.le_of_ble_eq_true rfl) hn) (by decide) ?_
  refine lv_iload_n hx hb dX2_exprOf_4 rfl (lv_at hl 1 rfl) ?_
  obtain ⟨hg_1, hM⟩ := gd_some hM
  refine mi_ald S hG 3 3 rfl ec_3 (Nat.lt_of_lt_of_le (Nat.le_of_ble_eq_true rfl) hn) dX2_exprOf_5 hg_1 (by decide) ?_
  refine lv_iconst (v := iI 2) hx hb dX2_exprOf_6 (by decide) ?_
  obtain ⟨hg_2, hM⟩ := gd_some hM
  refine gi_icmp_ne (tgt := 19) hx hb dX2_exprOf_7 (by decide) hg_2 (by decide) (fun c_3 => ?_) (fun c_3 => ?_)
  · replace hM := ifn hM c_3
    refine lv_bipush (v := iI 6) hx hb dX2_exprOf_19 (by decide) ?_
    refine lv_iload_n hx hb dX2_exprOf_21 rfl (lv_at hl 1 rfl) ?_
    refine gi_add hx hb dX2_exprOf_22 ?_
    cases hM
    exact g_iret S hr hlk hG hsz dX2_exprOf_23 ⟨Nat.le_of_ble_eq_true rfl, Nat.le_of_ble_eq_true rfl⟩ ⟨rfl, rfl⟩
  · replace hM := ifp hM c_3
    refine lv_aload_n hx hb dX2_exprOf_10 rfl (lv_at hl 0 rfl) ?_
    refine m_get S hG 2 2 6 rfl ec_2 cpX2 wm_240 dX2_exprOf_11 rfl (Nat.lt_of_lt_of_le (Nat.le_of_ble_eq_true rfl) hn) (by decide) ?_
    refine lv_iload_n hx hb dX2_exprOf_14 rfl (lv_at hl 1 rfl) ?_
    refine mi_ald S hG 4 4 rfl ec_4 (Nat.lt_of_lt_of_le (Nat.le_of_ble_eq_true rfl) hn) dX2_exprOf_15 hg_1 (by decide) ?_
    refine lv_goto (tgt := 23) hx hb dX2_exprOf_16 (by decide) ?_
    cases hM
    exact g_iret S hr hlk hG hsz dX2_exprOf_23 ⟨Nat.le_of_ble_eq_true rfl, Nat.le_of_ble_eq_true rfl⟩ ⟨rfl, rfl⟩
def mX11_openSign (a1 : Int) : Option (Int) := gd (inI a1) <| if a1 = 3 then (some (91)) else (if a1 = 4 then (some (123)) else (if a1 = 5 then (some (60)) else (some (40))))
set_option maxHeartbeats 4000000 in
set_option maxRecDepth 100000 in
theorem vX11_openSign (l : Launch) {D : va_G} {cy : Nat → ClassId} {b n : Nat} (hn : 102 ≤ n) {X : Nat → va_E} {S0 : St} (a1 : Int) {o1 : Int} (hM : mX11_openSign a1 = some o1) : gI l yX11_openSign cX11_openSign 1 (some .int) 0 0 0 D cy b n (enc b cy X S0) [.int (iI a1)] (fun r u => r = iI o1 ∧ u = (n, enc b cy X S0)) := by
  refine gI_of (by decide) (Nat.le_of_ble_eq_true rfl) ?_
  intro p e s m args below meth c S hr hlk hin hsz ls hl hG
  have hx := S.1
  have hb := S.2.1
  have hl : lv_has ls 1 [(0, .int (iI a1))] := hl
  replace hG : gW D cy b n s s.heap [] (enc b cy X S0) := hG
  obtain ⟨H, eH⟩ : ∃ H, H = s.heap := ⟨_, rfl⟩
  obtain ⟨locs, elocs⟩ : ∃ locs : List Loc, locs = [] := ⟨_, rfl⟩
  rw [← eH, ← elocs] at hG
  rw [← eH, ← elocs]
  clear eH elocs
  unfold mX11_openSign at hM
  refine lv_iload_n hx hb dX11_openSign_0 rfl (lv_at hl 0 rfl) ?_
  refine lv_iconst (v := iI 3) hx hb dX11_openSign_1 (by decide) ?_
  obtain ⟨hg_1, hM⟩ := gd_some hM
  refine gi_icmp_ne (tgt := 10) hx hb dX11_openSign_2 (by decide) hg_1 (by decide) (fun c_2 => ?_) (fun c_2 => ?_)
  · replace hM := ifn hM c_2
    refine lv_iload_n hx hb dX11_openSign_10 rfl (lv_at hl 0 rfl) ?_
    refine lv_iconst (v := iI 4) hx hb dX11_openSign_11 (by decide) ?_
    refine gi_icmp_ne (tgt := 20) hx hb dX11_openSign_12 (by decide) hg_1 (by decide) (fun c_3 => ?_) (fun c_3 => ?_)
    · replace hM := ifn hM c_3
      refine lv_iload_n hx hb dX11_openSign_20 rfl (lv_at hl 0 rfl) ?_
      refine lv_iconst (v := iI 5) hx hb dX11_openSign_21 (by decide) ?_
      refine gi_icmp_ne (tgt := 30) hx hb dX11_openSign_22 (by decide) hg_1 (by decide) (fun c_4 => ?_) (fun c_4 => ?_)
      · replace hM := ifn hM c_4
        refine lv_bipush (v := iI 40) hx hb dX11_openSign_30 (by decide) ?_
        cases hM
        exact g_iret S hr hlk hG hsz dX11_openSign_32 ⟨Nat.le_of_ble_eq_true rfl, Nat.le_of_ble_eq_true rfl⟩ ⟨rfl, rfl⟩
      · replace hM := ifp hM c_4
        refine lv_bipush (v := iI 60) hx hb dX11_openSign_25 (by decide) ?_
        refine lv_goto (tgt := 32) hx hb dX11_openSign_27 (by decide) ?_
        cases hM
        exact g_iret S hr hlk hG hsz dX11_openSign_32 ⟨Nat.le_of_ble_eq_true rfl, Nat.le_of_ble_eq_true rfl⟩ ⟨rfl, rfl⟩
    · replace hM := ifp hM c_3
      refine lv_bipush (v := iI 123) hx hb dX11_openSign_15 (by decide) ?_
      refine lv_goto (tgt := 32) hx hb dX11_openSign_17 (by decide) ?_
      cases hM
      exact g_iret S hr hlk hG hsz dX11_openSign_32 ⟨Nat.le_of_ble_eq_true rfl, Nat.le_of_ble_eq_true rfl⟩ ⟨rfl, rfl⟩
  · replace hM := ifp hM c_2
    refine lv_bipush (v := iI 91) hx hb dX11_openSign_5 (by decide) ?_
    refine lv_goto (tgt := 32) hx hb dX11_openSign_7 (by decide) ?_
    cases hM
    exact g_iret S hr hlk hG hsz dX11_openSign_32 ⟨Nat.le_of_ble_eq_true rfl, Nat.le_of_ble_eq_true rfl⟩ ⟨rfl, rfl⟩
theorem wV_10_102 : gWV "GrownKinds$ThingReader" 102 yX10_take cX10_take 2 none := ⟨wm_1511, wm_1513, wm_81, wm_185, wm_1514, by decide +kernel, by decide +kernel⟩
def mX10_take (S0 : St) (a1 : Int) : Option (St) := bd1 (mX10_peek S0) fun r_2 => gd ((inI r_2) ∧ (inI a1)) <| if r_2 = a1 then (nx (up S0 67 4 ((S0 67 4) + 1)) fun S_6 => some (S_6)) else (nx (up S0 67 6 0) fun S_5 => some (S_5))
set_option maxHeartbeats 4000000 in
set_option maxRecDepth 100000 in
theorem vX10_take (l : Launch) {D : va_G} {cy : Nat → ClassId} {b n : Nat} (hn : 102 ≤ n) {X : Nat → va_E} {S0 : St} (a1 : Int) {o1 : St} (hM : mX10_take S0 a1 = some o1) : gV l yX10_take cX10_take 2 1 0 0 D cy b n (enc b cy X S0) [.ref (b + 65), .int (iI a1)] (fun u => u = (n, enc b cy X o1)) := by
  refine gV_of (by decide) (Nat.le_of_ble_eq_true rfl) ?_
  intro p e s m args below meth c S hr hlk hin hsz ls hl hG
  have hx := S.1
  have hb := S.2.1
  have hl : lv_has ls 2 [(0, .ref (b + 65)), (1, .int (iI a1))] := hl
  replace hG : gW D cy b n s s.heap [] (enc b cy X S0) := hG
  obtain ⟨H, eH⟩ : ∃ H, H = s.heap := ⟨_, rfl⟩
  obtain ⟨locs, elocs⟩ : ∃ locs : List Loc, locs = [] := ⟨_, rfl⟩
  rw [← eH, ← elocs] at hG
  rw [← eH, ← elocs]
  clear eH elocs
  unfold mX10_take at hM
  refine lv_aload_n hx hb dX10_take_0 rfl (lv_at hl 0 rfl) ?_
  obtain ⟨r_2, hc_1, hM⟩ := bd1_some hM
  refine g_vi (As := []) (rest := []) S hG hsz (vX10_peek l hn  hc_1) wV_10_72 (ec_67 _) cpX10 (Nat.lt_of_lt_of_le (Nat.le_of_ble_eq_true rfl) hn) dX10_take_1 rfl hl.1 (ar := 0) (by decide +kernel) rfl ⟨Nat.le_of_ble_eq_true rfl, Nat.le_of_ble_eq_true rfl, Nat.le_of_ble_eq_true rfl, Nat.le_of_ble_eq_true rfl⟩ (Nat.le_of_ble_eq_true rfl) (fun rv uu H locs hp hG => ?_)
  obtain ⟨rfl, rfl⟩ := hp
  replace hG : gW D cy b n s H locs (enc b cy X S0) := hG
  refine lv_iload_n hx hb dX10_take_4 rfl (lv_at hl 1 rfl) ?_
  obtain ⟨hg_3, hM⟩ := gd_some hM
  refine gi_icmp_ne (tgt := 21) hx hb dX10_take_5 (by decide) hg_3.1 hg_3.2 (fun c_4 => ?_) (fun c_4 => ?_)
  · replace hM := ifn hM c_4
    refine lv_aload_n hx hb dX10_take_21 rfl (lv_at hl 0 rfl) ?_
    refine lv_iconst (v := iI 0) hx hb dX10_take_22 (by decide) ?_
    refine m_put S hG 65 67 6 rfl 6 0 ec_67 cpX10 wm_564 dX10_take_23 (pf_67_6) (Nat.lt_of_lt_of_le (Nat.le_of_ble_eq_true rfl) hn) (by decide) (Nat.le_of_ble_eq_true rfl) rfl rfl rfl (fun H locs S_5 eS_5 hG => ?_)
    replace hM := nx_at hM eS_5
    clear eS_5
    cases hM
    exact g_vret S hr hlk hG hsz dX10_take_26 ⟨Nat.le_of_ble_eq_true rfl, Nat.le_of_ble_eq_true rfl⟩ rfl
  · replace hM := ifp hM c_4
    refine lv_aload_n hx hb dX10_take_8 rfl (lv_at hl 0 rfl) ?_
    refine lv_dup hx hb dX10_take_9 rfl ?_
    refine m_get S hG 65 67 4 rfl ec_67 cpX10 wm_562 dX10_take_10 rfl (Nat.lt_of_lt_of_le (Nat.le_of_ble_eq_true rfl) hn) (by decide) ?_
    refine lv_iconst (v := iI 1) hx hb dX10_take_13 (by decide) ?_
    refine gi_add hx hb dX10_take_14 ?_
    refine m_put S hG 65 67 4 rfl 4 ((S0 67 4) + 1) ec_67 cpX10 wm_562 dX10_take_15 (pf_67_4) (Nat.lt_of_lt_of_le (Nat.le_of_ble_eq_true rfl) hn) (by decide) (Nat.le_of_ble_eq_true rfl) rfl rfl rfl (fun H locs S_6 eS_6 hG => ?_)
    replace hM := nx_at hM eS_6
    clear eS_6
    refine lv_goto (tgt := 26) hx hb dX10_take_18 (by decide) ?_
    cases hM
    exact g_vret S hr hlk hG hsz dX10_take_26 ⟨Nat.le_of_ble_eq_true rfl, Nat.le_of_ble_eq_true rfl⟩ rfl
def mX10_readPart (S0 : St) (a1 : Int) : Option (St) := gd (0 ≤ a1 ∧ a1 < 24) <| nx (S0 3 a1) fun x_2 => gd (inI x_2) <| if x_2 = 0 then (bd1 (mX10_take S0 (97 + (S0 4 a1))) fun S_36 => nx (up S_36 67 5 ((S_36 67 5) + 1)) fun S_37 => gd (inI (S_37 67 6)) <| if (S_37 67 6) = 0 then (nx (up S_37 67 6 0) fun S_40 => some (S_40)) else (gd ((inI (S_37 67 5)) ∧ (inI (S_37 2 0))) <| if (S_37 2 0) < (S_37 67 5) then (nx (up S_37 67 6 0) fun S_43 => some (S_43)) else (nx (up S_37 67 6 1) fun S_44 => some (S_44)))) else (if x_2 = 1 then (bd1 (mX10_take S0 45) fun S_34 => some (S_34)) else (bd1 (if x_2 = 2 then (some (0)) else (if x_2 = 7 then (some (0)) else (some (1)))) fun t_6 => if t_6 = 0 then (bd1 (mX2_exprOf_2 S0 a1) fun r_10 => bd1 (mX10_readExpr S0 r_10) fun S_12 => some (S_12)) else (bd1 (mX11_openSign x_2) fun r_15 => bd1 (mX10_take S0 r_15) fun S_17 => gd (inI (S_17 67 6)) <| if (S_17 67 6) = 0 then (some (S_17)) else (bd2 (mX10_mayAwait S_17 1) fun r_21 S_22 => gd (inI r_21) <| if r_21 = 0 then (some (S_22)) else (gd (0 ≤ (S_22 67 8) ∧ (S_22 67 8) < 40) <| nx (up S_22 70 (S_22 67 8) ((-a1) - 1)) fun S_26 => nx (up S_26 67 8 ((S_26 67 8) + 1)) fun S_27 => gd (0 ≤ (S_27 67 12) ∧ (S_27 67 12) < 40) <| nx (up S_27 72 (S_27 67 12) (S_27 67 10)) fun S_29 => nx (up S_29 67 12 ((S_29 67 12) + 1)) fun S_30 => some (S_30))))))
set_option maxHeartbeats 4000000 in
set_option maxRecDepth 100000 in
theorem vX10_readPart (l : Launch) {D : va_G} {cy : Nat → ClassId} {b n : Nat} (hn : 102 ≤ n) {X : Nat → va_E} {S0 : St} (a1 : Int) {o1 : St} (hM : mX10_readPart S0 a1 = some o1) : gV l yX10_readPart cX10_readPart 3 2 0 0 D cy b n (enc b cy X S0) [.ref (b + 65), .int (iI a1)] (fun u => u = (n, enc b cy X o1)) := by
  refine gV_of (by decide) (Nat.le_of_ble_eq_true rfl) ?_
  intro p e s m args below meth c S hr hlk hin hsz ls hl hG
  have hx := S.1
  have hb := S.2.1
  have hl : lv_has ls 3 [(0, .ref (b + 65)), (1, .int (iI a1))] := hl
  replace hG : gW D cy b n s s.heap [] (enc b cy X S0) := hG
  obtain ⟨H, eH⟩ : ∃ H, H = s.heap := ⟨_, rfl⟩
  obtain ⟨locs, elocs⟩ : ∃ locs : List Loc, locs = [] := ⟨_, rfl⟩
  rw [← eH, ← elocs] at hG
  rw [← eH, ← elocs]
  clear eH elocs
  unfold mX10_readPart at hM
  refine lv_aload_n hx hb dX10_readPart_0 rfl (lv_at hl 0 rfl) ?_
  refine m_get S hG 65 67 0 rfl ec_67 cpX10 wm_557 dX10_readPart_1 rfl (Nat.lt_of_lt_of_le (Nat.le_of_ble_eq_true rfl) hn) (by decide) ?_
  refine m_get S hG 2 2 5 rfl ec_2 cpX2 wm_237 dX10_readPart_4 rfl (Nat.lt_of_lt_of_le (Nat.le_of_ble_eq_true rfl) hn) (by decide) ?_
  refine lv_iload_n hx hb dX10_readPart_7 rfl (lv_at hl 1 rfl) ?_
  obtain ⟨hg_1, hM⟩ := gd_some hM
  refine mi_ald S hG 3 3 rfl ec_3 (Nat.lt_of_lt_of_le (Nat.le_of_ble_eq_true rfl) hn) dX10_readPart_8 hg_1 (by decide) ?_
  refine gi_nm (fun x_2 ex_2 => ?_)
  replace hM := nx_at hM ex_2
  clear ex_2
  refine lv_istore_n (lv' := [(2, .int (iI x_2)), (0, .ref (b + 65)), (1, .int (iI a1))]) hx hb dX10_readPart_9 rfl hl (by decide) rfl (fun ls hl => ?_)
  refine lv_iload_n hx hb dX10_readPart_10 rfl (lv_at hl 0 rfl) ?_
  obtain ⟨hg_3, hM⟩ := gd_some hM
  refine gi_if_ne (tgt := 73) hx hb dX10_readPart_11 (by decide) hg_3 (fun c_4 => ?_) (fun c_4 => ?_)
  · replace hM := ifn hM c_4
    refine lv_iload_n hx hb dX10_readPart_73 rfl (lv_at hl 0 rfl) ?_
    refine lv_iconst (v := iI 1) hx hb dX10_readPart_74 (by decide) ?_
    refine gi_icmp_ne (tgt := 87) hx hb dX10_readPart_75 (by decide) hg_3 (by decide) (fun c_5 => ?_) (fun c_5 => ?_)
    · replace hM := ifn hM c_5
      refine lv_iload_n hx hb dX10_readPart_87 rfl (lv_at hl 0 rfl) ?_
      refine lv_iconst (v := iI 2) hx hb dX10_readPart_88 (by decide) ?_
      obtain ⟨t_6, hc_7, hM⟩ := bd1_some hM
      have hK_8 : ∀ (H : Heap) (locs : List Loc) (ls : Array Slot), t_6 = 0 → gW D cy b n s H locs (enc b cy X S0) → lv_has ls 3 [(0, .ref (b + 65)), (1, .int (iI a1))] → W p l e (gRm 2 0 0) s m args below meth c H locs 0 0 (gQV D cy b s args below 0 0 (fun u => u = (n, enc b cy X o1))) (F0 m 98 ls []) := by
        intro H locs ls ht hG hl
        subst ht
        replace hM := ifp hM rfl
        refine lv_aload_n hx hb dX10_readPart_98 rfl (lv_at hl 0 rfl) ?_
        refine lv_aload_n hx hb dX10_readPart_99 rfl (lv_at hl 0 rfl) ?_
        refine m_get S hG 65 67 0 rfl ec_67 cpX10 wm_557 dX10_readPart_100 rfl (Nat.lt_of_lt_of_le (Nat.le_of_ble_eq_true rfl) hn) (by decide) ?_
        refine lv_iload_n hx hb dX10_readPart_103 rfl (lv_at hl 1 rfl) ?_
        obtain ⟨r_10, hc_9, hM⟩ := bd1_some hM
        refine g_vi (As := [.int (iI a1)]) (rest := [.ref (b + 65)]) S hG hsz (vX2_exprOf_2 l hn a1 hc_9) wV_10_108 (ec_2 _) cpX2 (Nat.lt_of_lt_of_le (Nat.le_of_ble_eq_true rfl) hn) dX10_readPart_104 rfl hl.1 (ar := 1) (by decide +kernel) rfl ⟨Nat.le_of_ble_eq_true rfl, Nat.le_of_ble_eq_true rfl, Nat.le_of_ble_eq_true rfl, Nat.le_of_ble_eq_true rfl⟩ (Nat.le_of_ble_eq_true rfl) (fun rv uu H locs hp hG => ?_)
        obtain ⟨rfl, rfl⟩ := hp
        replace hG : gW D cy b n s H locs (enc b cy X S0) := hG
        obtain ⟨S_12, hc_11, hM⟩ := bd1_some hM
        refine g_vv (As := [.int (iI r_10)]) (rest := []) S hG hsz (vX10_readExpr l hn r_10 hc_11) wV_10_61 (ec_67 _) cpX10 (Nat.lt_of_lt_of_le (Nat.le_of_ble_eq_true rfl) hn) dX10_readPart_107 rfl hl.1 (ar := 1) (by decide +kernel) rfl ⟨Nat.le_of_ble_eq_true rfl, Nat.le_of_ble_eq_true rfl, Nat.le_of_ble_eq_true rfl, Nat.le_of_ble_eq_true rfl⟩ (Nat.le_of_ble_eq_true rfl) (fun uu H locs hp hG => ?_)
        obtain rfl := hp
        replace hG : gW D cy b n s H locs (enc b cy X S_12) := hG
        refine lv_goto (tgt := 182) hx hb dX10_readPart_110 (by decide) ?_
        cases hM
        exact g_vret S hr hlk hG hsz dX10_readPart_182 ⟨Nat.le_of_ble_eq_true rfl, Nat.le_of_ble_eq_true rfl⟩ rfl
      have hK_13 : ∀ (H : Heap) (locs : List Loc) (ls : Array Slot), t_6 = 1 → gW D cy b n s H locs (enc b cy X S0) → lv_has ls 3 [(2, .int (iI x_2)), (0, .ref (b + 65)), (1, .int (iI a1))] → W p l e (gRm 2 0 0) s m args below meth c H locs 0 0 (gQV D cy b s args below 0 0 (fun u => u = (n, enc b cy X o1))) (F0 m 113 ls []) := by
        intro H locs ls ht hG hl
        subst ht
        replace hM := ifn hM (by decide)
        refine lv_aload_n hx hb dX10_readPart_113 rfl (lv_at hl 1 rfl) ?_
        refine lv_iload_n hx hb dX10_readPart_114 rfl (lv_at hl 0 rfl) ?_
        obtain ⟨r_15, hc_14, hM⟩ := bd1_some hM
        refine g_siN (As := [.int (iI x_2)]) (rest := [.ref (b + 65)]) S hG hsz (vX11_openSign l hn x_2 hc_14) (y := yX11_openSign) (host := "GrownKinds") (by decide +kernel) ⟨wm_1341, wm_177, wm_1342, by decide +kernel, by decide +kernel⟩ dX10_readPart_115 rfl hl.1 (ar := 1) (by decide +kernel) rfl ⟨Nat.le_of_ble_eq_true rfl, Nat.le_of_ble_eq_true rfl, Nat.le_of_ble_eq_true rfl, Nat.le_of_ble_eq_true rfl⟩ (Nat.le_of_ble_eq_true rfl) (fun rv uu H locs hp hG => ?_)
        obtain ⟨rfl, rfl⟩ := hp
        replace hG : gW D cy b n s H locs (enc b cy X S0) := hG
        obtain ⟨S_17, hc_16, hM⟩ := bd1_some hM
        refine g_vv (As := [.int (iI r_15)]) (rest := []) S hG hsz (vX10_take l hn r_15 hc_16) wV_10_102 (ec_67 _) cpX10 (Nat.lt_of_lt_of_le (Nat.le_of_ble_eq_true rfl) hn) dX10_readPart_118 rfl hl.1 (ar := 1) (by decide +kernel) rfl ⟨Nat.le_of_ble_eq_true rfl, Nat.le_of_ble_eq_true rfl, Nat.le_of_ble_eq_true rfl, Nat.le_of_ble_eq_true rfl⟩ (Nat.le_of_ble_eq_true rfl) (fun uu H locs hp hG => ?_)
        obtain rfl := hp
        replace hG : gW D cy b n s H locs (enc b cy X S_17) := hG
        refine lv_aload_n hx hb dX10_readPart_121 rfl (lv_at hl 1 rfl) ?_
        refine m_get S hG 65 67 6 rfl ec_67 cpX10 wm_564 dX10_readPart_122 rfl (Nat.lt_of_lt_of_le (Nat.le_of_ble_eq_true rfl) hn) (by decide) ?_
        obtain ⟨hg_18, hM⟩ := gd_some hM
        refine gi_if_eq (tgt := 182) hx hb dX10_readPart_125 (by decide) hg_18 (fun c_19 => ?_) (fun c_19 => ?_)
        · replace hM := ifp hM c_19
          cases hM
          exact g_vret S hr hlk hG hsz dX10_readPart_182 ⟨Nat.le_of_ble_eq_true rfl, Nat.le_of_ble_eq_true rfl⟩ rfl
        · replace hM := ifn hM c_19
          refine lv_aload_n hx hb dX10_readPart_128 rfl (lv_at hl 1 rfl) ?_
          refine lv_iconst (v := iI 1) hx hb dX10_readPart_129 (by decide) ?_
          obtain ⟨r_21, S_22, hc_20, hM⟩ := bd2_some hM
          refine g_vi (As := [.int (iI 1)]) (rest := []) S hG hsz (vX10_mayAwait l hn 1 hc_20) wV_10_92 (ec_67 _) cpX10 (Nat.lt_of_lt_of_le (Nat.le_of_ble_eq_true rfl) hn) dX10_readPart_130 rfl hl.1 (ar := 1) (by decide +kernel) rfl ⟨Nat.le_of_ble_eq_true rfl, Nat.le_of_ble_eq_true rfl, Nat.le_of_ble_eq_true rfl, Nat.le_of_ble_eq_true rfl⟩ (Nat.le_of_ble_eq_true rfl) (fun rv uu H locs hp hG => ?_)
          obtain ⟨rfl, rfl⟩ := hp
          replace hG : gW D cy b n s H locs (enc b cy X S_22) := hG
          obtain ⟨hg_23, hM⟩ := gd_some hM
          refine gi_if_eq (tgt := 182) hx hb dX10_readPart_133 (by decide) hg_23 (fun c_24 => ?_) (fun c_24 => ?_)
          · replace hM := ifp hM c_24
            cases hM
            exact g_vret S hr hlk hG hsz dX10_readPart_182 ⟨Nat.le_of_ble_eq_true rfl, Nat.le_of_ble_eq_true rfl⟩ rfl
          · replace hM := ifn hM c_24
            refine lv_aload_n hx hb dX10_readPart_136 rfl (lv_at hl 1 rfl) ?_
            refine m_get S hG 65 67 7 rfl ec_67 cpX10 wm_565 dX10_readPart_137 rfl (Nat.lt_of_lt_of_le (Nat.le_of_ble_eq_true rfl) hn) (by decide) ?_
            refine lv_aload_n hx hb dX10_readPart_140 rfl (lv_at hl 1 rfl) ?_
            refine m_get S hG 65 67 8 rfl ec_67 cpX10 wm_566 dX10_readPart_141 rfl (Nat.lt_of_lt_of_le (Nat.le_of_ble_eq_true rfl) hn) (by decide) ?_
            refine lv_iload_n hx hb dX10_readPart_144 rfl (lv_at hl 2 rfl) ?_
            refine gi_neg hx hb dX10_readPart_145 ?_
            refine lv_iconst (v := iI 1) hx hb dX10_readPart_146 (by decide) ?_
            refine gi_sub hx hb dX10_readPart_147 ?_
            obtain ⟨hg_25, hM⟩ := gd_some hM
            refine mi_ast S hG 68 70 rfl ec_70 (Nat.lt_of_lt_of_le (Nat.le_of_ble_eq_true rfl) hn) dX10_readPart_148 hg_25 (by decide) (fun H locs S_26 eS_26 hG => ?_)
            replace hM := nx_at hM eS_26
            clear eS_26
            refine lv_aload_n hx hb dX10_readPart_149 rfl (lv_at hl 1 rfl) ?_
            refine lv_dup hx hb dX10_readPart_150 rfl ?_
            refine m_get S hG 65 67 8 rfl ec_67 cpX10 wm_566 dX10_readPart_151 rfl (Nat.lt_of_lt_of_le (Nat.le_of_ble_eq_true rfl) hn) (by decide) ?_
            refine lv_iconst (v := iI 1) hx hb dX10_readPart_154 (by decide) ?_
            refine gi_add hx hb dX10_readPart_155 ?_
            refine m_put S hG 65 67 8 rfl 8 ((S_26 67 8) + 1) ec_67 cpX10 wm_566 dX10_readPart_156 (pf_67_8) (Nat.lt_of_lt_of_le (Nat.le_of_ble_eq_true rfl) hn) (by decide) (Nat.le_of_ble_eq_true rfl) rfl rfl rfl (fun H locs S_27 eS_27 hG => ?_)
            replace hM := nx_at hM eS_27
            clear eS_27
            refine lv_aload_n hx hb dX10_readPart_159 rfl (lv_at hl 1 rfl) ?_
            refine m_get S hG 65 67 11 rfl ec_67 cpX10 wm_569 dX10_readPart_160 rfl (Nat.lt_of_lt_of_le (Nat.le_of_ble_eq_true rfl) hn) (by decide) ?_
            refine lv_aload_n hx hb dX10_readPart_163 rfl (lv_at hl 1 rfl) ?_
            refine m_get S hG 65 67 12 rfl ec_67 cpX10 wm_570 dX10_readPart_164 rfl (Nat.lt_of_lt_of_le (Nat.le_of_ble_eq_true rfl) hn) (by decide) ?_
            refine lv_aload_n hx hb dX10_readPart_167 rfl (lv_at hl 1 rfl) ?_
            refine m_get S hG 65 67 10 rfl ec_67 cpX10 wm_568 dX10_readPart_168 rfl (Nat.lt_of_lt_of_le (Nat.le_of_ble_eq_true rfl) hn) (by decide) ?_
            obtain ⟨hg_28, hM⟩ := gd_some hM
            refine mi_ast S hG 70 72 rfl ec_72 (Nat.lt_of_lt_of_le (Nat.le_of_ble_eq_true rfl) hn) dX10_readPart_171 hg_28 (by decide) (fun H locs S_29 eS_29 hG => ?_)
            replace hM := nx_at hM eS_29
            clear eS_29
            refine lv_aload_n hx hb dX10_readPart_172 rfl (lv_at hl 1 rfl) ?_
            refine lv_dup hx hb dX10_readPart_173 rfl ?_
            refine m_get S hG 65 67 12 rfl ec_67 cpX10 wm_570 dX10_readPart_174 rfl (Nat.lt_of_lt_of_le (Nat.le_of_ble_eq_true rfl) hn) (by decide) ?_
            refine lv_iconst (v := iI 1) hx hb dX10_readPart_177 (by decide) ?_
            refine gi_add hx hb dX10_readPart_178 ?_
            refine m_put S hG 65 67 12 rfl 12 ((S_29 67 12) + 1) ec_67 cpX10 wm_570 dX10_readPart_179 (pf_67_12) (Nat.lt_of_lt_of_le (Nat.le_of_ble_eq_true rfl) hn) (by decide) (Nat.le_of_ble_eq_true rfl) rfl rfl rfl (fun H locs S_30 eS_30 hG => ?_)
            replace hM := nx_at hM eS_30
            clear eS_30
            cases hM
            exact g_vret S hr hlk hG hsz dX10_readPart_182 ⟨Nat.le_of_ble_eq_true rfl, Nat.le_of_ble_eq_true rfl⟩ rfl
      clear hM
      replace hM := hc_7
      refine gi_icmp_eq (tgt := 98) hx hb dX10_readPart_89 (by decide) hg_3 (by decide) (fun c_31 => ?_) (fun c_31 => ?_)
      · replace hM := ifp hM c_31
        cases hM
        exact hK_8 H locs ls rfl hG (lv_sub hl [1, 2] rfl)
      · replace hM := ifn hM c_31
        refine lv_iload_n hx hb dX10_readPart_92 rfl (lv_at hl 0 rfl) ?_
        refine lv_bipush (v := iI 7) hx hb dX10_readPart_93 (by decide) ?_
        refine gi_icmp_ne (tgt := 113) hx hb dX10_readPart_95 (by decide) hg_3 (by decide) (fun c_32 => ?_) (fun c_32 => ?_)
        · replace hM := ifn hM c_32
          cases hM
          exact hK_13 H locs ls rfl hG (lv_sub hl [0, 1, 2] rfl)
        · replace hM := ifp hM c_32
          cases hM
          exact hK_8 H locs ls rfl hG (lv_sub hl [1, 2] rfl)
    · replace hM := ifp hM c_5
      refine lv_aload_n hx hb dX10_readPart_78 rfl (lv_at hl 1 rfl) ?_
      refine lv_bipush (v := iI 45) hx hb dX10_readPart_79 (by decide) ?_
      obtain ⟨S_34, hc_33, hM⟩ := bd1_some hM
      refine g_vv (As := [.int (iI 45)]) (rest := []) S hG hsz (vX10_take l hn 45 hc_33) wV_10_102 (ec_67 _) cpX10 (Nat.lt_of_lt_of_le (Nat.le_of_ble_eq_true rfl) hn) dX10_readPart_81 rfl hl.1 (ar := 1) (by decide +kernel) rfl ⟨Nat.le_of_ble_eq_true rfl, Nat.le_of_ble_eq_true rfl, Nat.le_of_ble_eq_true rfl, Nat.le_of_ble_eq_true rfl⟩ (Nat.le_of_ble_eq_true rfl) (fun uu H locs hp hG => ?_)
      obtain rfl := hp
      replace hG : gW D cy b n s H locs (enc b cy X S_34) := hG
      refine lv_goto (tgt := 182) hx hb dX10_readPart_84 (by decide) ?_
      cases hM
      exact g_vret S hr hlk hG hsz dX10_readPart_182 ⟨Nat.le_of_ble_eq_true rfl, Nat.le_of_ble_eq_true rfl⟩ rfl
  · replace hM := ifp hM c_4
    refine lv_aload_n hx hb dX10_readPart_14 rfl (lv_at hl 1 rfl) ?_
    refine lv_bipush (v := iI 97) hx hb dX10_readPart_15 (by decide) ?_
    refine lv_aload_n hx hb dX10_readPart_17 rfl (lv_at hl 1 rfl) ?_
    refine m_get S hG 65 67 0 rfl ec_67 cpX10 wm_557 dX10_readPart_18 rfl (Nat.lt_of_lt_of_le (Nat.le_of_ble_eq_true rfl) hn) (by decide) ?_
    refine m_get S hG 2 2 6 rfl ec_2 cpX2 wm_243 dX10_readPart_21 rfl (Nat.lt_of_lt_of_le (Nat.le_of_ble_eq_true rfl) hn) (by decide) ?_
    refine lv_iload_n hx hb dX10_readPart_24 rfl (lv_at hl 2 rfl) ?_
    refine mi_ald S hG 4 4 rfl ec_4 (Nat.lt_of_lt_of_le (Nat.le_of_ble_eq_true rfl) hn) dX10_readPart_25 hg_1 (by decide) ?_
    refine gi_add hx hb dX10_readPart_26 ?_
    obtain ⟨S_36, hc_35, hM⟩ := bd1_some hM
    refine g_vv (As := [.int (iI (97 + (S0 4 a1)))]) (rest := []) S hG hsz (vX10_take l hn (97 + (S0 4 a1)) hc_35) wV_10_102 (ec_67 _) cpX10 (Nat.lt_of_lt_of_le (Nat.le_of_ble_eq_true rfl) hn) dX10_readPart_27 rfl hl.1 (ar := 1) (by decide +kernel) rfl ⟨Nat.le_of_ble_eq_true rfl, Nat.le_of_ble_eq_true rfl, Nat.le_of_ble_eq_true rfl, Nat.le_of_ble_eq_true rfl⟩ (Nat.le_of_ble_eq_true rfl) (fun uu H locs hp hG => ?_)
    obtain rfl := hp
    replace hG : gW D cy b n s H locs (enc b cy X S_36) := hG
    refine lv_aload_n hx hb dX10_readPart_30 rfl (lv_at hl 1 rfl) ?_
    refine lv_dup hx hb dX10_readPart_31 rfl ?_
    refine m_get S hG 65 67 5 rfl ec_67 cpX10 wm_563 dX10_readPart_32 rfl (Nat.lt_of_lt_of_le (Nat.le_of_ble_eq_true rfl) hn) (by decide) ?_
    refine lv_iconst (v := iI 1) hx hb dX10_readPart_35 (by decide) ?_
    refine gi_add hx hb dX10_readPart_36 ?_
    refine m_put S hG 65 67 5 rfl 5 ((S_36 67 5) + 1) ec_67 cpX10 wm_563 dX10_readPart_37 (pf_67_5) (Nat.lt_of_lt_of_le (Nat.le_of_ble_eq_true rfl) hn) (by decide) (Nat.le_of_ble_eq_true rfl) rfl rfl rfl (fun H locs S_37 eS_37 hG => ?_)
    replace hM := nx_at hM eS_37
    clear eS_37
    refine lv_aload_n hx hb dX10_readPart_40 rfl (lv_at hl 1 rfl) ?_
    refine lv_aload_n hx hb dX10_readPart_41 rfl (lv_at hl 1 rfl) ?_
    refine m_get S hG 65 67 6 rfl ec_67 cpX10 wm_564 dX10_readPart_42 rfl (Nat.lt_of_lt_of_le (Nat.le_of_ble_eq_true rfl) hn) (by decide) ?_
    obtain ⟨hg_38, hM⟩ := gd_some hM
    refine gi_if_eq (tgt := 66) hx hb dX10_readPart_45 (by decide) hg_38 (fun c_39 => ?_) (fun c_39 => ?_)
    · replace hM := ifp hM c_39
      refine lv_iconst (v := iI 0) hx hb dX10_readPart_66 (by decide) ?_
      refine m_put S hG 65 67 6 rfl 6 0 ec_67 cpX10 wm_564 dX10_readPart_67 (pf_67_6) (Nat.lt_of_lt_of_le (Nat.le_of_ble_eq_true rfl) hn) (by decide) (Nat.le_of_ble_eq_true rfl) rfl rfl rfl (fun H locs S_40 eS_40 hG => ?_)
      replace hM := nx_at hM eS_40
      clear eS_40
      refine lv_goto (tgt := 182) hx hb dX10_readPart_70 (by decide) ?_
      cases hM
      exact g_vret S hr hlk hG hsz dX10_readPart_182 ⟨Nat.le_of_ble_eq_true rfl, Nat.le_of_ble_eq_true rfl⟩ rfl
    · replace hM := ifn hM c_39
      refine lv_aload_n hx hb dX10_readPart_48 rfl (lv_at hl 1 rfl) ?_
      refine m_get S hG 65 67 5 rfl ec_67 cpX10 wm_563 dX10_readPart_49 rfl (Nat.lt_of_lt_of_le (Nat.le_of_ble_eq_true rfl) hn) (by decide) ?_
      refine lv_aload_n hx hb dX10_readPart_52 rfl (lv_at hl 1 rfl) ?_
      refine m_get S hG 65 67 0 rfl ec_67 cpX10 wm_557 dX10_readPart_53 rfl (Nat.lt_of_lt_of_le (Nat.le_of_ble_eq_true rfl) hn) (by decide) ?_
      refine m_get S hG 2 2 0 rfl ec_2 cpX2 wm_216 dX10_readPart_56 rfl (Nat.lt_of_lt_of_le (Nat.le_of_ble_eq_true rfl) hn) (by decide) ?_
      obtain ⟨hg_41, hM⟩ := gd_some hM
      refine gi_icmp_gt (tgt := 66) hx hb dX10_readPart_59 (by decide) hg_41.1 hg_41.2 (fun c_42 => ?_) (fun c_42 => ?_)
      · replace hM := ifp hM c_42
        refine lv_iconst (v := iI 0) hx hb dX10_readPart_66 (by decide) ?_
        refine m_put S hG 65 67 6 rfl 6 0 ec_67 cpX10 wm_564 dX10_readPart_67 (pf_67_6) (Nat.lt_of_lt_of_le (Nat.le_of_ble_eq_true rfl) hn) (by decide) (Nat.le_of_ble_eq_true rfl) rfl rfl rfl (fun H locs S_43 eS_43 hG => ?_)
        replace hM := nx_at hM eS_43
        clear eS_43
        refine lv_goto (tgt := 182) hx hb dX10_readPart_70 (by decide) ?_
        cases hM
        exact g_vret S hr hlk hG hsz dX10_readPart_182 ⟨Nat.le_of_ble_eq_true rfl, Nat.le_of_ble_eq_true rfl⟩ rfl
      · replace hM := ifn hM c_42
        refine lv_iconst (v := iI 1) hx hb dX10_readPart_62 (by decide) ?_
        refine lv_goto (tgt := 67) hx hb dX10_readPart_63 (by decide) ?_
        refine m_put S hG 65 67 6 rfl 6 1 ec_67 cpX10 wm_564 dX10_readPart_67 (pf_67_6) (Nat.lt_of_lt_of_le (Nat.le_of_ble_eq_true rfl) hn) (by decide) (Nat.le_of_ble_eq_true rfl) rfl rfl rfl (fun H locs S_44 eS_44 hG => ?_)
        replace hM := nx_at hM eS_44
        clear eS_44
        refine lv_goto (tgt := 182) hx hb dX10_readPart_70 (by decide) ?_
        cases hM
        exact g_vret S hr hlk hG hsz dX10_readPart_182 ⟨Nat.le_of_ble_eq_true rfl, Nat.le_of_ble_eq_true rfl⟩ rfl
theorem wV_10_66 : gWV "GrownKinds$ThingReader" 66 yX10_goOn cX10_goOn 2 none := ⟨wm_1474, wm_1476, wm_72, wm_185, wm_1477, by decide +kernel, by decide +kernel⟩
def mX11_closeSign (a1 : Int) : Option (Int) := gd (inI a1) <| if a1 = 3 then (some (93)) else (if a1 = 4 then (some (125)) else (if a1 = 5 then (some (62)) else (some (41))))
set_option maxHeartbeats 4000000 in
set_option maxRecDepth 100000 in
theorem vX11_closeSign (l : Launch) {D : va_G} {cy : Nat → ClassId} {b n : Nat} (hn : 102 ≤ n) {X : Nat → va_E} {S0 : St} (a1 : Int) {o1 : Int} (hM : mX11_closeSign a1 = some o1) : gI l yX11_closeSign cX11_closeSign 1 (some .int) 0 0 0 D cy b n (enc b cy X S0) [.int (iI a1)] (fun r u => r = iI o1 ∧ u = (n, enc b cy X S0)) := by
  refine gI_of (by decide) (Nat.le_of_ble_eq_true rfl) ?_
  intro p e s m args below meth c S hr hlk hin hsz ls hl hG
  have hx := S.1
  have hb := S.2.1
  have hl : lv_has ls 1 [(0, .int (iI a1))] := hl
  replace hG : gW D cy b n s s.heap [] (enc b cy X S0) := hG
  obtain ⟨H, eH⟩ : ∃ H, H = s.heap := ⟨_, rfl⟩
  obtain ⟨locs, elocs⟩ : ∃ locs : List Loc, locs = [] := ⟨_, rfl⟩
  rw [← eH, ← elocs] at hG
  rw [← eH, ← elocs]
  clear eH elocs
  unfold mX11_closeSign at hM
  refine lv_iload_n hx hb dX11_closeSign_0 rfl (lv_at hl 0 rfl) ?_
  refine lv_iconst (v := iI 3) hx hb dX11_closeSign_1 (by decide) ?_
  obtain ⟨hg_1, hM⟩ := gd_some hM
  refine gi_icmp_ne (tgt := 10) hx hb dX11_closeSign_2 (by decide) hg_1 (by decide) (fun c_2 => ?_) (fun c_2 => ?_)
  · replace hM := ifn hM c_2
    refine lv_iload_n hx hb dX11_closeSign_10 rfl (lv_at hl 0 rfl) ?_
    refine lv_iconst (v := iI 4) hx hb dX11_closeSign_11 (by decide) ?_
    refine gi_icmp_ne (tgt := 20) hx hb dX11_closeSign_12 (by decide) hg_1 (by decide) (fun c_3 => ?_) (fun c_3 => ?_)
    · replace hM := ifn hM c_3
      refine lv_iload_n hx hb dX11_closeSign_20 rfl (lv_at hl 0 rfl) ?_
      refine lv_iconst (v := iI 5) hx hb dX11_closeSign_21 (by decide) ?_
      refine gi_icmp_ne (tgt := 30) hx hb dX11_closeSign_22 (by decide) hg_1 (by decide) (fun c_4 => ?_) (fun c_4 => ?_)
      · replace hM := ifn hM c_4
        refine lv_bipush (v := iI 41) hx hb dX11_closeSign_30 (by decide) ?_
        cases hM
        exact g_iret S hr hlk hG hsz dX11_closeSign_32 ⟨Nat.le_of_ble_eq_true rfl, Nat.le_of_ble_eq_true rfl⟩ ⟨rfl, rfl⟩
      · replace hM := ifp hM c_4
        refine lv_bipush (v := iI 62) hx hb dX11_closeSign_25 (by decide) ?_
        refine lv_goto (tgt := 32) hx hb dX11_closeSign_27 (by decide) ?_
        cases hM
        exact g_iret S hr hlk hG hsz dX11_closeSign_32 ⟨Nat.le_of_ble_eq_true rfl, Nat.le_of_ble_eq_true rfl⟩ ⟨rfl, rfl⟩
    · replace hM := ifp hM c_3
      refine lv_bipush (v := iI 125) hx hb dX11_closeSign_15 (by decide) ?_
      refine lv_goto (tgt := 32) hx hb dX11_closeSign_17 (by decide) ?_
      cases hM
      exact g_iret S hr hlk hG hsz dX11_closeSign_32 ⟨Nat.le_of_ble_eq_true rfl, Nat.le_of_ble_eq_true rfl⟩ ⟨rfl, rfl⟩
  · replace hM := ifp hM c_2
    refine lv_bipush (v := iI 93) hx hb dX11_closeSign_5 (by decide) ?_
    refine lv_goto (tgt := 32) hx hb dX11_closeSign_7 (by decide) ?_
    cases hM
    exact g_iret S hr hlk hG hsz dX11_closeSign_32 ⟨Nat.le_of_ble_eq_true rfl, Nat.le_of_ble_eq_true rfl⟩ ⟨rfl, rfl⟩
theorem wV_10_118 : gWV "GrownKinds$ThingReader" 118 yX10_close cX10_close 6 none := ⟨wm_1479, wm_1481, wm_73, wm_185, wm_1482, by decide +kernel, by decide +kernel⟩
theorem wV_10_124 : gWV "GrownKinds$ThingReader" 124 yX10_sort cX10_sort 8 none := ⟨wm_1483, wm_1485, wm_74, wm_185, wm_1486, by decide +kernel, by decide +kernel⟩
theorem wV_10_132 : gWV "GrownKinds$ThingReader" 132 yX10_placeOf cX10_placeOf 8 (some .int) := ⟨wm_1487, wm_1489, wm_75, wm_185, wm_1490, by decide +kernel, by decide +kernel⟩
theorem wV_10_139 : gWV "GrownKinds$ThingReader" 139 yX10_compare cX10_compare 5 (some .int) := ⟨wm_1491, wm_1493, wm_76, wm_185, wm_1494, by decide +kernel, by decide +kernel⟩
def mX10_compare_15 (S0 : St) (a1 : Int) (a2 : Int) : Nat → Int → Int → Option (Int × Int × Int)
  | 0, _, _ => none
  | f + 1, v_5, v_6 => gd (0 ≤ (a1 + 1) ∧ (a1 + 1) < 41) <| gd ((inI v_6) ∧ (inI (S0 71 (a1 + 1)))) <| if (S0 71 (a1 + 1)) ≤ v_6 then (some (1, v_6, v_5)) else (gd (0 ≤ (a2 + 1) ∧ (a2 + 1) < 41) <| gd ((inI v_5) ∧ (inI (S0 71 (a2 + 1)))) <| if (S0 71 (a2 + 1)) ≤ v_5 then (some (1, v_6, v_5)) else (gd (0 ≤ v_6 ∧ v_6 < 40) <| gd (0 ≤ v_5 ∧ v_5 < 40) <| gd ((inI (S0 68 v_6)) ∧ (inI (S0 68 v_5))) <| if (S0 68 v_6) = (S0 68 v_5) then (mX10_compare_15 S0 a1 a2 f (v_5 + 1) (v_6 + 1)) else (some (0, v_6, v_5))))
def mX10_compare (S0 : St) (a1 : Int) (a2 : Int) : Option (Int) := gd (0 ≤ a1 ∧ a1 < 41) <| nx (S0 71 a1) fun x_2 => gd (0 ≤ a2 ∧ a2 < 41) <| nx (S0 71 a2) fun x_4 => bd3 (mX10_compare_15 S0 a1 a2 FU x_4 x_2) fun t_7 y_8 y_9 => if t_7 = 0 then (gd (0 ≤ y_8 ∧ y_8 < 40) <| gd (0 ≤ y_9 ∧ y_9 < 40) <| some (((S0 68 y_8) - (S0 68 y_9)))) else (gd (0 ≤ (a1 + 1) ∧ (a1 + 1) < 41) <| gd (0 ≤ (a2 + 1) ∧ (a2 + 1) < 41) <| some ((((S0 71 (a1 + 1)) - y_8) - ((S0 71 (a2 + 1)) - y_9))))
set_option maxHeartbeats 4000000 in
set_option maxRecDepth 100000 in
theorem vX10_compare (l : Launch) {D : va_G} {cy : Nat → ClassId} {b n : Nat} (hn : 102 ≤ n) {X : Nat → va_E} {S0 : St} (a1 : Int) (a2 : Int) {o1 : Int} (hM : mX10_compare S0 a1 a2 = some o1) : gI l yX10_compare cX10_compare 5 (some .int) 0 0 0 D cy b n (enc b cy X S0) [.ref (b + 65), .int (iI a1), .int (iI a2)] (fun r u => r = iI o1 ∧ u = (n, enc b cy X S0)) := by
  refine gI_of (by decide) (Nat.le_of_ble_eq_true rfl) ?_
  intro p e s m args below meth c S hr hlk hin hsz ls hl hG
  have hx := S.1
  have hb := S.2.1
  have hl : lv_has ls 5 [(0, .ref (b + 65)), (1, .int (iI a1)), (2, .int (iI a2))] := hl
  replace hG : gW D cy b n s s.heap [] (enc b cy X S0) := hG
  obtain ⟨H, eH⟩ : ∃ H, H = s.heap := ⟨_, rfl⟩
  obtain ⟨locs, elocs⟩ : ∃ locs : List Loc, locs = [] := ⟨_, rfl⟩
  rw [← eH, ← elocs] at hG
  rw [← eH, ← elocs]
  clear eH elocs
  unfold mX10_compare at hM
  refine lv_aload_n hx hb dX10_compare_0 rfl (lv_at hl 0 rfl) ?_
  refine m_get S hG 65 67 9 rfl ec_67 cpX10 wm_567 dX10_compare_1 rfl (Nat.lt_of_lt_of_le (Nat.le_of_ble_eq_true rfl) hn) (by decide) ?_
  refine lv_iload_n hx hb dX10_compare_4 rfl (lv_at hl 1 rfl) ?_
  obtain ⟨hg_1, hM⟩ := gd_some hM
  refine mi_ald S hG 69 71 rfl ec_71 (Nat.lt_of_lt_of_le (Nat.le_of_ble_eq_true rfl) hn) dX10_compare_5 hg_1 (by decide) ?_
  refine gi_nm (fun x_2 ex_2 => ?_)
  replace hM := nx_at hM ex_2
  clear ex_2
  refine lv_istore_n (lv' := [(3, .int (iI x_2)), (0, .ref (b + 65)), (1, .int (iI a1)), (2, .int (iI a2))]) hx hb dX10_compare_6 rfl hl (by decide) rfl (fun ls hl => ?_)
  refine lv_aload_n hx hb dX10_compare_7 rfl (lv_at hl 1 rfl) ?_
  refine m_get S hG 65 67 9 rfl ec_67 cpX10 wm_567 dX10_compare_8 rfl (Nat.lt_of_lt_of_le (Nat.le_of_ble_eq_true rfl) hn) (by decide) ?_
  refine lv_iload_n hx hb dX10_compare_11 rfl (lv_at hl 3 rfl) ?_
  obtain ⟨hg_3, hM⟩ := gd_some hM
  refine mi_ald S hG 69 71 rfl ec_71 (Nat.lt_of_lt_of_le (Nat.le_of_ble_eq_true rfl) hn) dX10_compare_12 hg_3 (by decide) ?_
  refine gi_nm (fun x_4 ex_4 => ?_)
  replace hM := nx_at hM ex_4
  clear ex_4
  refine lv_istore (lv' := [(4, .int (iI x_4)), (3, .int (iI x_2)), (0, .ref (b + 65)), (1, .int (iI a1)), (2, .int (iI a2))]) hx hb dX10_compare_13 hl (by decide) rfl (fun ls hl => ?_)
  obtain ⟨t_7, y_8, y_9, hc_10, hM⟩ := bd3_some hM
  have hK_11 : ∀ (H : Heap) (locs : List Loc) (ls : Array Slot), t_7 = 0 → gW D cy b n s H locs (enc b cy X S0) → lv_has ls 5 [(0, .ref (b + 65)), (3, .int (iI y_8)), (4, .int (iI y_9))] → W p l e (gRm 0 0 0) s m args below meth c H locs 0 0 (gQI D cy b s args below 0 0 (fun r u => r = iI o1 ∧ u = (n, enc b cy X S0))) (F0 m 56 ls []) := by
    intro H locs ls ht hG hl
    subst ht
    replace hM := ifp hM rfl
    refine lv_aload_n hx hb dX10_compare_56 rfl (lv_at hl 0 rfl) ?_
    refine m_get S hG 65 67 1 rfl ec_67 cpX10 wm_558 dX10_compare_57 rfl (Nat.lt_of_lt_of_le (Nat.le_of_ble_eq_true rfl) hn) (by decide) ?_
    refine lv_iload_n hx hb dX10_compare_60 rfl (lv_at hl 1 rfl) ?_
    obtain ⟨hg_12, hM⟩ := gd_some hM
    refine mb_ald S hG 66 68 rfl ec_68 (Nat.lt_of_lt_of_le (Nat.le_of_ble_eq_true rfl) hn) dX10_compare_61 hg_12 (by decide) ?_
    refine lv_aload_n hx hb dX10_compare_62 rfl (lv_at hl 0 rfl) ?_
    refine m_get S hG 65 67 1 rfl ec_67 cpX10 wm_558 dX10_compare_63 rfl (Nat.lt_of_lt_of_le (Nat.le_of_ble_eq_true rfl) hn) (by decide) ?_
    refine lv_iload hx hb dX10_compare_66 (lv_at hl 2 rfl) ?_
    obtain ⟨hg_13, hM⟩ := gd_some hM
    refine mb_ald S hG 66 68 rfl ec_68 (Nat.lt_of_lt_of_le (Nat.le_of_ble_eq_true rfl) hn) dX10_compare_68 hg_13 (by decide) ?_
    refine gi_sub hx hb dX10_compare_69 ?_
    cases hM
    exact g_iret S hr hlk hG hsz dX10_compare_70 ⟨Nat.le_of_ble_eq_true rfl, Nat.le_of_ble_eq_true rfl⟩ ⟨rfl, rfl⟩
  have hK_14 : ∀ (H : Heap) (locs : List Loc) (ls : Array Slot), t_7 = 1 → gW D cy b n s H locs (enc b cy X S0) → lv_has ls 5 [(0, .ref (b + 65)), (1, .int (iI a1)), (2, .int (iI a2)), (3, .int (iI y_8)), (4, .int (iI y_9))] → W p l e (gRm 0 0 0) s m args below meth c H locs 0 0 (gQI D cy b s args below 0 0 (fun r u => r = iI o1 ∧ u = (n, enc b cy X S0))) (F0 m 80 ls []) := by
    intro H locs ls ht hG hl
    subst ht
    replace hM := ifn hM (by decide)
    refine lv_aload_n hx hb dX10_compare_80 rfl (lv_at hl 0 rfl) ?_
    refine m_get S hG 65 67 9 rfl ec_67 cpX10 wm_567 dX10_compare_81 rfl (Nat.lt_of_lt_of_le (Nat.le_of_ble_eq_true rfl) hn) (by decide) ?_
    refine lv_iload_n hx hb dX10_compare_84 rfl (lv_at hl 1 rfl) ?_
    refine lv_iconst (v := iI 1) hx hb dX10_compare_85 (by decide) ?_
    refine gi_add hx hb dX10_compare_86 ?_
    obtain ⟨hg_15, hM⟩ := gd_some hM
    refine mi_ald S hG 69 71 rfl ec_71 (Nat.lt_of_lt_of_le (Nat.le_of_ble_eq_true rfl) hn) dX10_compare_87 hg_15 (by decide) ?_
    refine lv_iload_n hx hb dX10_compare_88 rfl (lv_at hl 3 rfl) ?_
    refine gi_sub hx hb dX10_compare_89 ?_
    refine lv_aload_n hx hb dX10_compare_90 rfl (lv_at hl 0 rfl) ?_
    refine m_get S hG 65 67 9 rfl ec_67 cpX10 wm_567 dX10_compare_91 rfl (Nat.lt_of_lt_of_le (Nat.le_of_ble_eq_true rfl) hn) (by decide) ?_
    refine lv_iload_n hx hb dX10_compare_94 rfl (lv_at hl 2 rfl) ?_
    refine lv_iconst (v := iI 1) hx hb dX10_compare_95 (by decide) ?_
    refine gi_add hx hb dX10_compare_96 ?_
    obtain ⟨hg_16, hM⟩ := gd_some hM
    refine mi_ald S hG 69 71 rfl ec_71 (Nat.lt_of_lt_of_le (Nat.le_of_ble_eq_true rfl) hn) dX10_compare_97 hg_16 (by decide) ?_
    refine lv_iload hx hb dX10_compare_98 (lv_at hl 4 rfl) ?_
    refine gi_sub hx hb dX10_compare_100 ?_
    refine gi_sub hx hb dX10_compare_101 ?_
    cases hM
    exact g_iret S hr hlk hG hsz dX10_compare_102 ⟨Nat.le_of_ble_eq_true rfl, Nat.le_of_ble_eq_true rfl⟩ ⟨rfl, rfl⟩
  have loop_17 : ∀ (f : Nat) (v_5 : Int) (v_6 : Int) (H : Heap) (locs : List Loc) (ls : Array Slot), mX10_compare_15 S0 a1 a2 f v_5 v_6 = some (t_7, y_8, y_9) → gW D cy b n s H locs (enc b cy X S0) → lv_has ls 5 [(4, .int (iI v_5)), (3, .int (iI v_6)), (0, .ref (b + 65)), (1, .int (iI a1)), (2, .int (iI a2))] → W p l e (gRm 0 0 0) s m args below meth c H locs 0 0 (gQI D cy b s args below 0 0 (fun r u => r = iI o1 ∧ u = (n, enc b cy X S0))) (F0 m 15 ls []) := by
    clear hM
    intro f
    induction f with
    | zero => intro v_5 v_6 H locs ls hM; rw [mX10_compare_15] at hM; cases hM
    | succ f_19 ih_18 =>
      intro v_5 v_6 H locs ls hM hG hl
      rw [mX10_compare_15] at hM
      refine lv_iload_n hx hb dX10_compare_15 rfl (lv_at hl 1 rfl) ?_
      refine lv_aload_n hx hb dX10_compare_16 rfl (lv_at hl 2 rfl) ?_
      refine m_get S hG 65 67 9 rfl ec_67 cpX10 wm_567 dX10_compare_17 rfl (Nat.lt_of_lt_of_le (Nat.le_of_ble_eq_true rfl) hn) (by decide) ?_
      refine lv_iload_n hx hb dX10_compare_20 rfl (lv_at hl 3 rfl) ?_
      refine lv_iconst (v := iI 1) hx hb dX10_compare_21 (by decide) ?_
      refine gi_add hx hb dX10_compare_22 ?_
      obtain ⟨hg_20, hM⟩ := gd_some hM
      refine mi_ald S hG 69 71 rfl ec_71 (Nat.lt_of_lt_of_le (Nat.le_of_ble_eq_true rfl) hn) dX10_compare_23 hg_20 (by decide) ?_
      obtain ⟨hg_21, hM⟩ := gd_some hM
      refine gi_icmp_ge (tgt := 80) hx hb dX10_compare_24 (by decide) hg_21.1 hg_21.2 (fun c_22 => ?_) (fun c_22 => ?_)
      · replace hM := ifp hM c_22
        cases hM
        exact hK_14 H locs ls rfl hG (lv_sub hl [2, 3, 4, 1, 0] rfl)
      · replace hM := ifn hM c_22
        refine lv_iload hx hb dX10_compare_27 (lv_at hl 0 rfl) ?_
        refine lv_aload_n hx hb dX10_compare_29 rfl (lv_at hl 2 rfl) ?_
        refine m_get S hG 65 67 9 rfl ec_67 cpX10 wm_567 dX10_compare_30 rfl (Nat.lt_of_lt_of_le (Nat.le_of_ble_eq_true rfl) hn) (by decide) ?_
        refine lv_iload_n hx hb dX10_compare_33 rfl (lv_at hl 4 rfl) ?_
        refine lv_iconst (v := iI 1) hx hb dX10_compare_34 (by decide) ?_
        refine gi_add hx hb dX10_compare_35 ?_
        obtain ⟨hg_23, hM⟩ := gd_some hM
        refine mi_ald S hG 69 71 rfl ec_71 (Nat.lt_of_lt_of_le (Nat.le_of_ble_eq_true rfl) hn) dX10_compare_36 hg_23 (by decide) ?_
        obtain ⟨hg_24, hM⟩ := gd_some hM
        refine gi_icmp_ge (tgt := 80) hx hb dX10_compare_37 (by decide) hg_24.1 hg_24.2 (fun c_25 => ?_) (fun c_25 => ?_)
        · replace hM := ifp hM c_25
          cases hM
          exact hK_14 H locs ls rfl hG (lv_sub hl [2, 3, 4, 1, 0] rfl)
        · replace hM := ifn hM c_25
          refine lv_aload_n hx hb dX10_compare_40 rfl (lv_at hl 2 rfl) ?_
          refine m_get S hG 65 67 1 rfl ec_67 cpX10 wm_558 dX10_compare_41 rfl (Nat.lt_of_lt_of_le (Nat.le_of_ble_eq_true rfl) hn) (by decide) ?_
          refine lv_iload_n hx hb dX10_compare_44 rfl (lv_at hl 1 rfl) ?_
          obtain ⟨hg_26, hM⟩ := gd_some hM
          refine mb_ald S hG 66 68 rfl ec_68 (Nat.lt_of_lt_of_le (Nat.le_of_ble_eq_true rfl) hn) dX10_compare_45 hg_26 (by decide) ?_
          refine lv_aload_n hx hb dX10_compare_46 rfl (lv_at hl 2 rfl) ?_
          refine m_get S hG 65 67 1 rfl ec_67 cpX10 wm_558 dX10_compare_47 rfl (Nat.lt_of_lt_of_le (Nat.le_of_ble_eq_true rfl) hn) (by decide) ?_
          refine lv_iload hx hb dX10_compare_50 (lv_at hl 0 rfl) ?_
          obtain ⟨hg_27, hM⟩ := gd_some hM
          refine mb_ald S hG 66 68 rfl ec_68 (Nat.lt_of_lt_of_le (Nat.le_of_ble_eq_true rfl) hn) dX10_compare_52 hg_27 (by decide) ?_
          obtain ⟨hg_28, hM⟩ := gd_some hM
          refine gi_icmp_eq (tgt := 71) hx hb dX10_compare_53 (by decide) hg_28.1 hg_28.2 (fun c_29 => ?_) (fun c_29 => ?_)
          · replace hM := ifp hM c_29
            refine lv_iinc (v := iI (v_6 + 1)) (lv' := [(3, .int (iI (v_6 + 1))), (4, .int (iI v_5)), (0, .ref (b + 65)), (1, .int (iI a1)), (2, .int (iI a2))]) hx hb dX10_compare_71 hl (k := 1) rfl ((iI_add v_6 (1)).trans (congrArg iI (by omega))) (by decide) rfl (fun ls hl => ?_)
            refine lv_iinc (v := iI (v_5 + 1)) (lv' := [(4, .int (iI (v_5 + 1))), (3, .int (iI (v_6 + 1))), (0, .ref (b + 65)), (1, .int (iI a1)), (2, .int (iI a2))]) hx hb dX10_compare_74 hl (k := 1) rfl ((iI_add v_5 (1)).trans (congrArg iI (by omega))) (by decide) rfl (fun ls hl => ?_)
            refine lv_goto (tgt := 15) hx hb dX10_compare_77 (by decide) ?_
            exact ih_18 (v_5 + 1) (v_6 + 1) H locs ls hM hG (lv_sub hl [0, 1, 2, 3, 4] rfl)
          · replace hM := ifn hM c_29
            cases hM
            exact hK_11 H locs ls rfl hG (lv_sub hl [2, 1, 0] rfl)
  exact loop_17 FU x_4 x_2 H locs ls hc_10 hG (lv_sub hl [0, 1, 2, 3, 4] rfl)
def mX10_placeOf_6 (a1 : Int) (a2 : Int) (a3 : Int) (a4 : Int) : Nat → Int → Int → St → Option (Int × St)
  | 0, _, _, _ => none
  | f + 1, v_1, v_2, S_3 => gd ((inI v_1) ∧ (inI (a2 + a3))) <| if (a2 + a3) ≤ v_1 then (some (v_2, S_3)) else (bd1 (gd (inI a1) <| if v_1 = a1 then (some (1)) else (bd1 (mX10_compare S_3 v_1 a1) fun r_32 => some (r_32))) fun z_13 => bd1 (gd (inI z_13) <| if z_13 = 0 then (gd (inI a4) <| if a4 = 0 then (some (S_3)) else (nx (up S_3 67 6 0) fun S_28 => some (S_28))) else (some (S_3))) fun S_16 => gd (inI z_13) <| if z_13 < 0 then (mX10_placeOf_6 a1 a2 a3 a4 f (v_1 + 1) (v_2 + 1) S_16) else (if z_13 = 0 then (gd (inI a1) <| if a1 ≤ v_1 then (mX10_placeOf_6 a1 a2 a3 a4 f (v_1 + 1) v_2 S_16) else (mX10_placeOf_6 a1 a2 a3 a4 f (v_1 + 1) (v_2 + 1) S_16)) else (mX10_placeOf_6 a1 a2 a3 a4 f (v_1 + 1) v_2 S_16)))
def mX10_placeOf (S0 : St) (a1 : Int) (a2 : Int) (a3 : Int) (a4 : Int) : Option (Int × St) := bd2 (mX10_placeOf_6 a1 a2 a3 a4 FU a2 0 S0) fun y_4 S_5 => some (y_4, S_5)
set_option maxHeartbeats 4000000 in
set_option maxRecDepth 100000 in
theorem vX10_placeOf (l : Launch) {D : va_G} {cy : Nat → ClassId} {b n : Nat} (hn : 102 ≤ n) {X : Nat → va_E} {S0 : St} (a1 : Int) (a2 : Int) (a3 : Int) (a4 : Int) {o1 : Int} {o2 : St} (hM : mX10_placeOf S0 a1 a2 a3 a4 = some (o1, o2)) : gI l yX10_placeOf cX10_placeOf 8 (some .int) 1 0 0 D cy b n (enc b cy X S0) [.ref (b + 65), .int (iI a1), .int (iI a2), .int (iI a3), .int (iI a4)] (fun r u => r = iI o1 ∧ u = (n, enc b cy X o2)) := by
  refine gI_of (by decide) (Nat.le_of_ble_eq_true rfl) ?_
  intro p e s m args below meth c S hr hlk hin hsz ls hl hG
  have hx := S.1
  have hb := S.2.1
  have hl : lv_has ls 8 [(0, .ref (b + 65)), (1, .int (iI a1)), (2, .int (iI a2)), (3, .int (iI a3)), (4, .int (iI a4))] := hl
  replace hG : gW D cy b n s s.heap [] (enc b cy X S0) := hG
  obtain ⟨H, eH⟩ : ∃ H, H = s.heap := ⟨_, rfl⟩
  obtain ⟨locs, elocs⟩ : ∃ locs : List Loc, locs = [] := ⟨_, rfl⟩
  rw [← eH, ← elocs] at hG
  rw [← eH, ← elocs]
  clear eH elocs
  unfold mX10_placeOf at hM
  refine lv_iconst (v := iI 0) hx hb dX10_placeOf_0 (by decide) ?_
  refine lv_istore (lv' := [(5, .int (iI 0)), (0, .ref (b + 65)), (1, .int (iI a1)), (2, .int (iI a2)), (3, .int (iI a3)), (4, .int (iI a4))]) hx hb dX10_placeOf_1 hl (by decide) rfl (fun ls hl => ?_)
  refine lv_iload_n hx hb dX10_placeOf_3 rfl (lv_at hl 3 rfl) ?_
  refine lv_istore (lv' := [(6, .int (iI a2)), (5, .int (iI 0)), (0, .ref (b + 65)), (1, .int (iI a1)), (2, .int (iI a2)), (3, .int (iI a3)), (4, .int (iI a4))]) hx hb dX10_placeOf_4 hl (by decide) rfl (fun ls hl => ?_)
  obtain ⟨y_4, S_5, hc_6, hM⟩ := bd2_some hM
  have hK_7 : ∀ (H : Heap) (locs : List Loc) (ls : Array Slot), gW D cy b n s H locs (enc b cy X S_5) → lv_has ls 8 [(5, .int (iI y_4))] → W p l e (gRm 1 0 0) s m args below meth c H locs 0 0 (gQI D cy b s args below 0 0 (fun r u => r = iI o1 ∧ u = (n, enc b cy X o2))) (F0 m 73 ls []) := by
    intro H locs ls hG hl
    refine lv_iload hx hb dX10_placeOf_73 (lv_at hl 0 rfl) ?_
    cases hM
    exact g_iret S hr hlk hG hsz dX10_placeOf_75 ⟨Nat.le_of_ble_eq_true rfl, Nat.le_of_ble_eq_true rfl⟩ ⟨rfl, rfl⟩
  have loop_8 : ∀ (f : Nat) (v_1 : Int) (v_2 : Int) (S_3 : St) (H : Heap) (locs : List Loc) (ls : Array Slot), mX10_placeOf_6 a1 a2 a3 a4 f v_1 v_2 S_3 = some (y_4, S_5) → gW D cy b n s H locs (enc b cy X S_3) → lv_has ls 8 [(6, .int (iI v_1)), (5, .int (iI v_2)), (0, .ref (b + 65)), (1, .int (iI a1)), (2, .int (iI a2)), (3, .int (iI a3)), (4, .int (iI a4))] → W p l e (gRm 1 0 0) s m args below meth c H locs 0 0 (gQI D cy b s args below 0 0 (fun r u => r = iI o1 ∧ u = (n, enc b cy X o2))) (F0 m 6 ls []) := by
    clear hM
    intro f
    induction f with
    | zero => intro v_1 v_2 S_3 H locs ls hM; rw [mX10_placeOf_6] at hM; cases hM
    | succ f_10 ih_9 =>
      intro v_1 v_2 S_3 H locs ls hM hG hl
      rw [mX10_placeOf_6] at hM
      refine lv_iload hx hb dX10_placeOf_6 (lv_at hl 0 rfl) ?_
      refine lv_iload_n hx hb dX10_placeOf_8 rfl (lv_at hl 4 rfl) ?_
      refine lv_iload_n hx hb dX10_placeOf_9 rfl (lv_at hl 5 rfl) ?_
      refine gi_add hx hb dX10_placeOf_10 ?_
      obtain ⟨hg_11, hM⟩ := gd_some hM
      refine gi_icmp_ge (tgt := 73) hx hb dX10_placeOf_11 (by decide) hg_11.1 hg_11.2 (fun c_12 => ?_) (fun c_12 => ?_)
      · replace hM := ifp hM c_12
        cases hM
        exact hK_7 H locs ls hG (lv_sub hl [1] rfl)
      · replace hM := ifn hM c_12
        refine lv_iload hx hb dX10_placeOf_14 (lv_at hl 0 rfl) ?_
        refine lv_iload_n hx hb dX10_placeOf_16 rfl (lv_at hl 3 rfl) ?_
        obtain ⟨z_13, hc_14, hM⟩ := bd1_some hM
        have hK_15 : ∀ (H : Heap) (locs : List Loc) (ls : Array Slot), gW D cy b n s H locs (enc b cy X S_3) → lv_has ls 8 [(6, .int (iI v_1)), (5, .int (iI v_2)), (0, .ref (b + 65)), (1, .int (iI a1)), (2, .int (iI a2)), (3, .int (iI a3)), (4, .int (iI a4))] → W p l e (gRm 1 0 0) s m args below meth c H locs 0 0 (gQI D cy b s args below 0 0 (fun r u => r = iI o1 ∧ u = (n, enc b cy X o2))) (F0 m 31 ls [.int (iI z_13)]) := by
          intro H locs ls hG hl
          refine lv_istore (lv' := [(7, .int (iI z_13)), (6, .int (iI v_1)), (5, .int (iI v_2)), (0, .ref (b + 65)), (1, .int (iI a1)), (2, .int (iI a2)), (3, .int (iI a3)), (4, .int (iI a4))]) hx hb dX10_placeOf_31 hl (by decide) rfl (fun ls hl => ?_)
          refine lv_iload hx hb dX10_placeOf_33 (lv_at hl 0 rfl) ?_
          obtain ⟨S_16, hc_17, hM⟩ := bd1_some hM
          have hK_18 : ∀ (H : Heap) (locs : List Loc) (ls : Array Slot), gW D cy b n s H locs (enc b cy X S_16) → lv_has ls 8 [(7, .int (iI z_13)), (6, .int (iI v_1)), (5, .int (iI v_2)), (0, .ref (b + 65)), (1, .int (iI a1)), (2, .int (iI a2)), (3, .int (iI a3)), (4, .int (iI a4))] → W p l e (gRm 1 0 0) s m args below meth c H locs 0 0 (gQI D cy b s args below 0 0 (fun r u => r = iI o1 ∧ u = (n, enc b cy X o2))) (F0 m 48 ls []) := by
            intro H locs ls hG hl
            refine lv_iload hx hb dX10_placeOf_48 (lv_at hl 0 rfl) ?_
            obtain ⟨hg_19, hM⟩ := gd_some hM
            refine gi_if_lt (tgt := 64) hx hb dX10_placeOf_50 (by decide) hg_19 (fun c_20 => ?_) (fun c_20 => ?_)
            · replace hM := ifp hM c_20
              refine lv_iinc (v := iI (v_2 + 1)) (lv' := [(5, .int (iI (v_2 + 1))), (7, .int (iI z_13)), (6, .int (iI v_1)), (0, .ref (b + 65)), (1, .int (iI a1)), (2, .int (iI a2)), (3, .int (iI a3)), (4, .int (iI a4))]) hx hb dX10_placeOf_64 hl (k := 2) rfl ((iI_add v_2 (1)).trans (congrArg iI (by omega))) (by decide) rfl (fun ls hl => ?_)
              refine lv_iinc (v := iI (v_1 + 1)) (lv' := [(6, .int (iI (v_1 + 1))), (5, .int (iI (v_2 + 1))), (7, .int (iI z_13)), (0, .ref (b + 65)), (1, .int (iI a1)), (2, .int (iI a2)), (3, .int (iI a3)), (4, .int (iI a4))]) hx hb dX10_placeOf_67 hl (k := 2) rfl ((iI_add v_1 (1)).trans (congrArg iI (by omega))) (by decide) rfl (fun ls hl => ?_)
              refine lv_goto (tgt := 6) hx hb dX10_placeOf_70 (by decide) ?_
              exact ih_9 (v_1 + 1) (v_2 + 1) S_16 H locs ls hM hG (lv_sub hl [0, 1, 3, 4, 5, 6, 7] rfl)
            · replace hM := ifn hM c_20
              refine lv_iload hx hb dX10_placeOf_53 (lv_at hl 0 rfl) ?_
              refine gi_if_ne (tgt := 67) hx hb dX10_placeOf_55 (by decide) hg_19 (fun c_21 => ?_) (fun c_21 => ?_)
              · replace hM := ifn hM c_21
                refine lv_iinc (v := iI (v_1 + 1)) (lv' := [(6, .int (iI (v_1 + 1))), (7, .int (iI z_13)), (5, .int (iI v_2)), (0, .ref (b + 65)), (1, .int (iI a1)), (2, .int (iI a2)), (3, .int (iI a3)), (4, .int (iI a4))]) hx hb dX10_placeOf_67 hl (k := 1) rfl ((iI_add v_1 (1)).trans (congrArg iI (by omega))) (by decide) rfl (fun ls hl => ?_)
                refine lv_goto (tgt := 6) hx hb dX10_placeOf_70 (by decide) ?_
                exact ih_9 (v_1 + 1) v_2 S_16 H locs ls hM hG (lv_sub hl [0, 2, 3, 4, 5, 6, 7] rfl)
              · replace hM := ifp hM c_21
                refine lv_iload hx hb dX10_placeOf_58 (lv_at hl 1 rfl) ?_
                refine lv_iload_n hx hb dX10_placeOf_60 rfl (lv_at hl 4 rfl) ?_
                obtain ⟨hg_22, hM⟩ := gd_some hM
                refine gi_icmp_ge (tgt := 67) hx hb dX10_placeOf_61 (by decide) hg_11.1 hg_22 (fun c_23 => ?_) (fun c_23 => ?_)
                · replace hM := ifp hM c_23
                  refine lv_iinc (v := iI (v_1 + 1)) (lv' := [(6, .int (iI (v_1 + 1))), (7, .int (iI z_13)), (5, .int (iI v_2)), (0, .ref (b + 65)), (1, .int (iI a1)), (2, .int (iI a2)), (3, .int (iI a3)), (4, .int (iI a4))]) hx hb dX10_placeOf_67 hl (k := 1) rfl ((iI_add v_1 (1)).trans (congrArg iI (by omega))) (by decide) rfl (fun ls hl => ?_)
                  refine lv_goto (tgt := 6) hx hb dX10_placeOf_70 (by decide) ?_
                  exact ih_9 (v_1 + 1) v_2 S_16 H locs ls hM hG (lv_sub hl [0, 2, 3, 4, 5, 6, 7] rfl)
                · replace hM := ifn hM c_23
                  refine lv_iinc (v := iI (v_2 + 1)) (lv' := [(5, .int (iI (v_2 + 1))), (7, .int (iI z_13)), (6, .int (iI v_1)), (0, .ref (b + 65)), (1, .int (iI a1)), (2, .int (iI a2)), (3, .int (iI a3)), (4, .int (iI a4))]) hx hb dX10_placeOf_64 hl (k := 2) rfl ((iI_add v_2 (1)).trans (congrArg iI (by omega))) (by decide) rfl (fun ls hl => ?_)
                  refine lv_iinc (v := iI (v_1 + 1)) (lv' := [(6, .int (iI (v_1 + 1))), (5, .int (iI (v_2 + 1))), (7, .int (iI z_13)), (0, .ref (b + 65)), (1, .int (iI a1)), (2, .int (iI a2)), (3, .int (iI a3)), (4, .int (iI a4))]) hx hb dX10_placeOf_67 hl (k := 2) rfl ((iI_add v_1 (1)).trans (congrArg iI (by omega))) (by decide) rfl (fun ls hl => ?_)
                  refine lv_goto (tgt := 6) hx hb dX10_placeOf_70 (by decide) ?_
                  exact ih_9 (v_1 + 1) (v_2 + 1) S_16 H locs ls hM hG (lv_sub hl [0, 1, 3, 4, 5, 6, 7] rfl)
          clear hM
          replace hM := hc_17
          obtain ⟨hg_24, hM⟩ := gd_some hM
          refine gi_if_ne (tgt := 48) hx hb dX10_placeOf_35 (by decide) hg_24 (fun c_25 => ?_) (fun c_25 => ?_)
          · replace hM := ifn hM c_25
            cases hM
            exact hK_18 H locs ls hG (lv_sub hl [0, 1, 2, 3, 4, 5, 6, 7] rfl)
          · replace hM := ifp hM c_25
            refine lv_iload hx hb dX10_placeOf_38 (lv_at hl 7 rfl) ?_
            obtain ⟨hg_26, hM⟩ := gd_some hM
            refine gi_if_eq (tgt := 48) hx hb dX10_placeOf_40 (by decide) hg_26 (fun c_27 => ?_) (fun c_27 => ?_)
            · replace hM := ifp hM c_27
              cases hM
              exact hK_18 H locs ls hG (lv_sub hl [0, 1, 2, 3, 4, 5, 6, 7] rfl)
            · replace hM := ifn hM c_27
              refine lv_aload_n hx hb dX10_placeOf_43 rfl (lv_at hl 3 rfl) ?_
              refine lv_iconst (v := iI 0) hx hb dX10_placeOf_44 (by decide) ?_
              refine m_put S hG 65 67 6 rfl 6 0 ec_67 cpX10 wm_564 dX10_placeOf_45 (pf_67_6) (Nat.lt_of_lt_of_le (Nat.le_of_ble_eq_true rfl) hn) (by decide) (Nat.le_of_ble_eq_true rfl) rfl rfl rfl (fun H locs S_28 eS_28 hG => ?_)
              replace hM := nx_at hM eS_28
              clear eS_28
              cases hM
              exact hK_18 H locs ls hG (lv_sub hl [0, 1, 2, 3, 4, 5, 6, 7] rfl)
        clear hM
        replace hM := hc_14
        obtain ⟨hg_29, hM⟩ := gd_some hM
        refine gi_icmp_ne (tgt := 24) hx hb dX10_placeOf_17 (by decide) hg_11.1 hg_29 (fun c_30 => ?_) (fun c_30 => ?_)
        · replace hM := ifn hM c_30
          refine lv_aload_n hx hb dX10_placeOf_24 rfl (lv_at hl 2 rfl) ?_
          refine lv_iload hx hb dX10_placeOf_25 (lv_at hl 0 rfl) ?_
          refine lv_iload_n hx hb dX10_placeOf_27 rfl (lv_at hl 3 rfl) ?_
          obtain ⟨r_32, hc_31, hM⟩ := bd1_some hM
          refine g_vi (As := [.int (iI v_1), .int (iI a1)]) (rest := []) S hG hsz (vX10_compare l hn v_1 a1 hc_31) wV_10_139 (ec_67 _) cpX10 (Nat.lt_of_lt_of_le (Nat.le_of_ble_eq_true rfl) hn) dX10_placeOf_28 rfl hl.1 (ar := 2) (by decide +kernel) rfl ⟨Nat.le_of_ble_eq_true rfl, Nat.le_of_ble_eq_true rfl, Nat.le_of_ble_eq_true rfl, Nat.le_of_ble_eq_true rfl⟩ (Nat.le_of_ble_eq_true rfl) (fun rv uu H locs hp hG => ?_)
          obtain ⟨rfl, rfl⟩ := hp
          replace hG : gW D cy b n s H locs (enc b cy X S_3) := hG
          cases hM
          exact hK_15 H locs ls hG (lv_sub hl [0, 1, 2, 3, 4, 5, 6] rfl)
        · replace hM := ifp hM c_30
          refine lv_iconst (v := iI 1) hx hb dX10_placeOf_20 (by decide) ?_
          refine lv_goto (tgt := 31) hx hb dX10_placeOf_21 (by decide) ?_
          cases hM
          exact hK_15 H locs ls hG (lv_sub hl [0, 1, 2, 3, 4, 5, 6] rfl)
  exact loop_8 FU a2 0 S0 H locs ls hc_6 hG (lv_sub hl [0, 1, 2, 3, 4, 5, 6] rfl)
theorem wV_10_136 : gWV "GrownKinds$ThingReader" 136 yX10_copyBack cX10_copyBack 5 none := ⟨wm_1495, wm_1497, wm_77, wm_185, wm_1498, by decide +kernel, by decide +kernel⟩
def mX10_copyBack (S0 : St) (a1 : Int) (a2 : Int) : Option (St) := gd (0 ≤ a1 ∧ a1 < 41) <| nx (S0 71 a1) fun x_2 => gd (0 ≤ (a1 + a2) ∧ (a1 + a2) < 41) <| nx ((S0 71 (a1 + a2)) - x_2) fun x_4 => gd (inI (S0 67 6)) <| if (S0 67 6) = 0 then (some (S0)) else (gd (inI x_4) <| if x_4 ≤ 0 then (some (S0)) else (gd (((0 : Int) ≤ x_2 ∧ (0 : Int) ≤ x_2 ∧ 0 ≤ x_4 ∧ x_2 + x_4 ≤ 40 ∧ x_2 + x_4 ≤ 40) ∧ (∀ q : Nat, q < Int.toNat x_4 → -128 ≤ S0 69 (x_2 + q) ∧ S0 69 (x_2 + q) ≤ 127)) <| nx (cpyS S0 69 68 x_2 x_2 x_4) fun S_10 => some (S_10)))
set_option maxHeartbeats 4000000 in
set_option maxRecDepth 100000 in
theorem vX10_copyBack (l : Launch) {D : va_G} {cy : Nat → ClassId} {b n : Nat} (hn : 102 ≤ n) {X : Nat → va_E} {S0 : St} (a1 : Int) (a2 : Int) {o1 : St} (hM : mX10_copyBack S0 a1 a2 = some o1) : gV l yX10_copyBack cX10_copyBack 5 1 0 0 D cy b n (enc b cy X S0) [.ref (b + 65), .int (iI a1), .int (iI a2)] (fun u => u = (n, enc b cy X o1)) := by
  refine gV_of (by decide) (Nat.le_of_ble_eq_true rfl) ?_
  intro p e s m args below meth c S hr hlk hin hsz ls hl hG
  have hx := S.1
  have hb := S.2.1
  have hl : lv_has ls 5 [(0, .ref (b + 65)), (1, .int (iI a1)), (2, .int (iI a2))] := hl
  replace hG : gW D cy b n s s.heap [] (enc b cy X S0) := hG
  obtain ⟨H, eH⟩ : ∃ H, H = s.heap := ⟨_, rfl⟩
  obtain ⟨locs, elocs⟩ : ∃ locs : List Loc, locs = [] := ⟨_, rfl⟩
  rw [← eH, ← elocs] at hG
  rw [← eH, ← elocs]
  clear eH elocs
  unfold mX10_copyBack at hM
  refine lv_aload_n hx hb dX10_copyBack_0 rfl (lv_at hl 0 rfl) ?_
  refine m_get S hG 65 67 9 rfl ec_67 cpX10 wm_567 dX10_copyBack_1 rfl (Nat.lt_of_lt_of_le (Nat.le_of_ble_eq_true rfl) hn) (by decide) ?_
  refine lv_iload_n hx hb dX10_copyBack_4 rfl (lv_at hl 1 rfl) ?_
  obtain ⟨hg_1, hM⟩ := gd_some hM
  refine mi_ald S hG 69 71 rfl ec_71 (Nat.lt_of_lt_of_le (Nat.le_of_ble_eq_true rfl) hn) dX10_copyBack_5 hg_1 (by decide) ?_
  refine gi_nm (fun x_2 ex_2 => ?_)
  replace hM := nx_at hM ex_2
  clear ex_2
  refine lv_istore_n (lv' := [(3, .int (iI x_2)), (0, .ref (b + 65)), (1, .int (iI a1)), (2, .int (iI a2))]) hx hb dX10_copyBack_6 rfl hl (by decide) rfl (fun ls hl => ?_)
  refine lv_aload_n hx hb dX10_copyBack_7 rfl (lv_at hl 1 rfl) ?_
  refine m_get S hG 65 67 9 rfl ec_67 cpX10 wm_567 dX10_copyBack_8 rfl (Nat.lt_of_lt_of_le (Nat.le_of_ble_eq_true rfl) hn) (by decide) ?_
  refine lv_iload_n hx hb dX10_copyBack_11 rfl (lv_at hl 2 rfl) ?_
  refine lv_iload_n hx hb dX10_copyBack_12 rfl (lv_at hl 3 rfl) ?_
  refine gi_add hx hb dX10_copyBack_13 ?_
  obtain ⟨hg_3, hM⟩ := gd_some hM
  refine mi_ald S hG 69 71 rfl ec_71 (Nat.lt_of_lt_of_le (Nat.le_of_ble_eq_true rfl) hn) dX10_copyBack_14 hg_3 (by decide) ?_
  refine lv_iload_n hx hb dX10_copyBack_15 rfl (lv_at hl 0 rfl) ?_
  refine gi_sub hx hb dX10_copyBack_16 ?_
  refine gi_nm (fun x_4 ex_4 => ?_)
  replace hM := nx_at hM ex_4
  clear ex_4
  refine lv_istore (lv' := [(4, .int (iI x_4)), (3, .int (iI x_2)), (0, .ref (b + 65)), (1, .int (iI a1)), (2, .int (iI a2))]) hx hb dX10_copyBack_17 hl (by decide) rfl (fun ls hl => ?_)
  refine lv_aload_n hx hb dX10_copyBack_19 rfl (lv_at hl 2 rfl) ?_
  refine m_get S hG 65 67 6 rfl ec_67 cpX10 wm_564 dX10_copyBack_20 rfl (Nat.lt_of_lt_of_le (Nat.le_of_ble_eq_true rfl) hn) (by decide) ?_
  obtain ⟨hg_5, hM⟩ := gd_some hM
  refine gi_if_eq (tgt := 46) hx hb dX10_copyBack_23 (by decide) hg_5 (fun c_6 => ?_) (fun c_6 => ?_)
  · replace hM := ifp hM c_6
    cases hM
    exact g_vret S hr hlk hG hsz dX10_copyBack_46 ⟨Nat.le_of_ble_eq_true rfl, Nat.le_of_ble_eq_true rfl⟩ rfl
  · replace hM := ifn hM c_6
    refine lv_iload hx hb dX10_copyBack_26 (lv_at hl 0 rfl) ?_
    obtain ⟨hg_7, hM⟩ := gd_some hM
    refine gi_if_le (tgt := 46) hx hb dX10_copyBack_28 (by decide) hg_7 (fun c_8 => ?_) (fun c_8 => ?_)
    · replace hM := ifp hM c_8
      cases hM
      exact g_vret S hr hlk hG hsz dX10_copyBack_46 ⟨Nat.le_of_ble_eq_true rfl, Nat.le_of_ble_eq_true rfl⟩ rfl
    · replace hM := ifn hM c_8
      refine lv_aload_n hx hb dX10_copyBack_31 rfl (lv_at hl 2 rfl) ?_
      refine m_get S hG 65 67 2 rfl ec_67 cpX10 wm_560 dX10_copyBack_32 rfl (Nat.lt_of_lt_of_le (Nat.le_of_ble_eq_true rfl) hn) (by decide) ?_
      refine lv_iload_n hx hb dX10_copyBack_35 rfl (lv_at hl 1 rfl) ?_
      refine lv_aload_n hx hb dX10_copyBack_36 rfl (lv_at hl 2 rfl) ?_
      refine m_get S hG 65 67 1 rfl ec_67 cpX10 wm_558 dX10_copyBack_37 rfl (Nat.lt_of_lt_of_le (Nat.le_of_ble_eq_true rfl) hn) (by decide) ?_
      refine lv_iload_n hx hb dX10_copyBack_40 rfl (lv_at hl 1 rfl) ?_
      refine lv_iload hx hb dX10_copyBack_41 (lv_at hl 0 rfl) ?_
      obtain ⟨hg_9, hM⟩ := gd_some hM
      refine m_copyi (ty := .byte) S hG wm_1458 wm_972 wm_971 wm_195 hl.1 67 69 66 68 0 rfl rfl ec_69 ec_68 rfl rfl (Nat.lt_of_lt_of_le (Nat.le_of_ble_eq_true rfl) hn) (Nat.lt_of_lt_of_le (Nat.le_of_ble_eq_true rfl) hn) hg_9.1 (by decide) (fun q hq => fit_b (hg_9.2 q hq)) dX10_copyBack_43 ⟨Nat.le_of_ble_eq_true rfl, Nat.le_of_ble_eq_true rfl⟩ (fun H locs S_10 eS_10 hG => ?_)
      replace hM := nx_at hM eS_10
      clear eS_10
      cases hM
      exact g_vret S hr hlk hG hsz dX10_copyBack_46 ⟨Nat.le_of_ble_eq_true rfl, Nat.le_of_ble_eq_true rfl⟩ rfl
def mX10_sort_27 (v_3 : Int) (a1 : Int) (a2 : Int) (a3 : Int) : Nat → Int → Int → St → Option (Int × St)
  | 0, _, _, _ => none
  | f + 1, v_18, v_19, S_20 => gd ((inI v_18) ∧ (inI (a1 + a2))) <| if (a1 + a2) ≤ v_18 then (some (v_19, S_20)) else (bd2 (mX10_placeOf S_20 v_18 a1 a2 a3) fun r_31 S_32 => gd (inI r_31) <| if r_31 = v_3 then (gd (0 ≤ (v_18 + 1) ∧ (v_18 + 1) < 41) <| gd (0 ≤ v_18 ∧ v_18 < 41) <| nx ((S_32 71 (v_18 + 1)) - (S_32 71 v_18)) fun x_37 => gd (((0 : Int) ≤ (S_32 71 v_18) ∧ (0 : Int) ≤ v_19 ∧ 0 ≤ x_37 ∧ (S_32 71 v_18) + x_37 ≤ 40 ∧ v_19 + x_37 ≤ 40) ∧ (∀ q : Nat, q < Int.toNat x_37 → -128 ≤ S_32 68 ((S_32 71 v_18) + q) ∧ S_32 68 ((S_32 71 v_18) + q) ≤ 127)) <| nx (cpyS S_32 68 69 (S_32 71 v_18) v_19 x_37) fun S_39 => nx (v_19 + x_37) fun x_40 => mX10_sort_27 v_3 a1 a2 a3 f (v_18 + 1) x_40 S_39) else (mX10_sort_27 v_3 a1 a2 a3 f (v_18 + 1) v_19 S_32))
def mX10_sort_11 (a1 : Int) (a2 : Int) (a3 : Int) : Nat → Int → Int → St → Option (St)
  | 0, _, _, _ => none
  | f + 1, v_3, v_4, S_5 => gd ((inI v_3) ∧ (inI a2)) <| if a2 ≤ v_3 then (some (S_5)) else (gd (inI (S_5 67 6)) <| if (S_5 67 6) = 0 then (some (S_5)) else (bd2 (mX10_sort_27 v_3 a1 a2 a3 FU a1 v_4 S_5) fun y_21 S_22 => mX10_sort_11 a1 a2 a3 f (v_3 + 1) y_21 S_22))
def mX10_sort (S0 : St) (a1 : Int) (a2 : Int) (a3 : Int) : Option (St) := gd (0 ≤ a1 ∧ a1 < 41) <| nx (S0 71 a1) fun x_2 => bd1 (mX10_sort_11 a1 a2 a3 FU 0 x_2 S0) fun S_6 => bd1 (mX10_copyBack S_6 a1 a2) fun S_10 => some (S_10)
set_option maxHeartbeats 4000000 in
set_option maxRecDepth 100000 in
theorem vX10_sort (l : Launch) {D : va_G} {cy : Nat → ClassId} {b n : Nat} (hn : 102 ≤ n) {X : Nat → va_E} {S0 : St} (a1 : Int) (a2 : Int) (a3 : Int) {o1 : St} (hM : mX10_sort S0 a1 a2 a3 = some o1) : gV l yX10_sort cX10_sort 8 2 0 0 D cy b n (enc b cy X S0) [.ref (b + 65), .int (iI a1), .int (iI a2), .int (iI a3)] (fun u => u = (n, enc b cy X o1)) := by
  refine gV_of (by decide) (Nat.le_of_ble_eq_true rfl) ?_
  intro p e s m args below meth c S hr hlk hin hsz ls hl hG
  have hx := S.1
  have hb := S.2.1
  have hl : lv_has ls 8 [(0, .ref (b + 65)), (1, .int (iI a1)), (2, .int (iI a2)), (3, .int (iI a3))] := hl
  replace hG : gW D cy b n s s.heap [] (enc b cy X S0) := hG
  obtain ⟨H, eH⟩ : ∃ H, H = s.heap := ⟨_, rfl⟩
  obtain ⟨locs, elocs⟩ : ∃ locs : List Loc, locs = [] := ⟨_, rfl⟩
  rw [← eH, ← elocs] at hG
  rw [← eH, ← elocs]
  clear eH elocs
  unfold mX10_sort at hM
  refine lv_aload_n hx hb dX10_sort_0 rfl (lv_at hl 0 rfl) ?_
  refine m_get S hG 65 67 9 rfl ec_67 cpX10 wm_567 dX10_sort_1 rfl (Nat.lt_of_lt_of_le (Nat.le_of_ble_eq_true rfl) hn) (by decide) ?_
  refine lv_iload_n hx hb dX10_sort_4 rfl (lv_at hl 1 rfl) ?_
  obtain ⟨hg_1, hM⟩ := gd_some hM
  refine mi_ald S hG 69 71 rfl ec_71 (Nat.lt_of_lt_of_le (Nat.le_of_ble_eq_true rfl) hn) dX10_sort_5 hg_1 (by decide) ?_
  refine gi_nm (fun x_2 ex_2 => ?_)
  replace hM := nx_at hM ex_2
  clear ex_2
  refine lv_istore (lv' := [(4, .int (iI x_2)), (0, .ref (b + 65)), (1, .int (iI a1)), (2, .int (iI a2)), (3, .int (iI a3))]) hx hb dX10_sort_6 hl (by decide) rfl (fun ls hl => ?_)
  refine lv_iconst (v := iI 0) hx hb dX10_sort_8 (by decide) ?_
  refine lv_istore (lv' := [(5, .int (iI 0)), (4, .int (iI x_2)), (0, .ref (b + 65)), (1, .int (iI a1)), (2, .int (iI a2)), (3, .int (iI a3))]) hx hb dX10_sort_9 hl (by decide) rfl (fun ls hl => ?_)
  obtain ⟨S_6, hc_7, hM⟩ := bd1_some hM
  have hK_8 : ∀ (H : Heap) (locs : List Loc) (ls : Array Slot), gW D cy b n s H locs (enc b cy X S_6) → lv_has ls 8 [(0, .ref (b + 65)), (1, .int (iI a1)), (2, .int (iI a2))] → W p l e (gRm 2 0 0) s m args below meth c H locs 0 0 (gQV D cy b s args below 0 0 (fun u => u = (n, enc b cy X o1))) (F0 m 109 ls []) := by
    intro H locs ls hG hl
    refine lv_aload_n hx hb dX10_sort_109 rfl (lv_at hl 0 rfl) ?_
    refine lv_iload_n hx hb dX10_sort_110 rfl (lv_at hl 1 rfl) ?_
    refine lv_iload_n hx hb dX10_sort_111 rfl (lv_at hl 2 rfl) ?_
    obtain ⟨S_10, hc_9, hM⟩ := bd1_some hM
    refine g_vv (As := [.int (iI a1), .int (iI a2)]) (rest := []) S hG hsz (vX10_copyBack l hn a1 a2 hc_9) wV_10_136 (ec_67 _) cpX10 (Nat.lt_of_lt_of_le (Nat.le_of_ble_eq_true rfl) hn) dX10_sort_112 rfl hl.1 (ar := 2) (by decide +kernel) rfl ⟨Nat.le_of_ble_eq_true rfl, Nat.le_of_ble_eq_true rfl, Nat.le_of_ble_eq_true rfl, Nat.le_of_ble_eq_true rfl⟩ (Nat.le_of_ble_eq_true rfl) (fun uu H locs hp hG => ?_)
    obtain rfl := hp
    replace hG : gW D cy b n s H locs (enc b cy X S_10) := hG
    cases hM
    exact g_vret S hr hlk hG hsz dX10_sort_115 ⟨Nat.le_of_ble_eq_true rfl, Nat.le_of_ble_eq_true rfl⟩ rfl
  have loop_11 : ∀ (f : Nat) (v_3 : Int) (v_4 : Int) (S_5 : St) (H : Heap) (locs : List Loc) (ls : Array Slot), mX10_sort_11 a1 a2 a3 f v_3 v_4 S_5 = some S_6 → gW D cy b n s H locs (enc b cy X S_5) → lv_has ls 8 [(5, .int (iI v_3)), (4, .int (iI v_4)), (0, .ref (b + 65)), (1, .int (iI a1)), (2, .int (iI a2)), (3, .int (iI a3))] → W p l e (gRm 2 0 0) s m args below meth c H locs 0 0 (gQV D cy b s args below 0 0 (fun u => u = (n, enc b cy X o1))) (F0 m 11 ls []) := by
    clear hM
    intro f
    induction f with
    | zero => intro v_3 v_4 S_5 H locs ls hM; rw [mX10_sort_11] at hM; cases hM
    | succ f_13 ih_12 =>
      intro v_3 v_4 S_5 H locs ls hM hG hl
      rw [mX10_sort_11] at hM
      refine lv_iload hx hb dX10_sort_11 (lv_at hl 0 rfl) ?_
      refine lv_iload_n hx hb dX10_sort_13 rfl (lv_at hl 4 rfl) ?_
      obtain ⟨hg_14, hM⟩ := gd_some hM
      refine gi_icmp_ge (tgt := 109) hx hb dX10_sort_14 (by decide) hg_14.1 hg_14.2 (fun c_15 => ?_) (fun c_15 => ?_)
      · replace hM := ifp hM c_15
        cases hM
        exact hK_8 H locs ls hG (lv_sub hl [2, 3, 4] rfl)
      · replace hM := ifn hM c_15
        refine lv_aload_n hx hb dX10_sort_17 rfl (lv_at hl 2 rfl) ?_
        refine m_get S hG 65 67 6 rfl ec_67 cpX10 wm_564 dX10_sort_18 rfl (Nat.lt_of_lt_of_le (Nat.le_of_ble_eq_true rfl) hn) (by decide) ?_
        obtain ⟨hg_16, hM⟩ := gd_some hM
        refine gi_if_eq (tgt := 109) hx hb dX10_sort_21 (by decide) hg_16 (fun c_17 => ?_) (fun c_17 => ?_)
        · replace hM := ifp hM c_17
          cases hM
          exact hK_8 H locs ls hG (lv_sub hl [2, 3, 4] rfl)
        · replace hM := ifn hM c_17
          refine lv_iload_n hx hb dX10_sort_24 rfl (lv_at hl 3 rfl) ?_
          refine lv_istore (lv' := [(6, .int (iI a1)), (5, .int (iI v_3)), (4, .int (iI v_4)), (0, .ref (b + 65)), (1, .int (iI a1)), (2, .int (iI a2)), (3, .int (iI a3))]) hx hb dX10_sort_25 hl (by decide) rfl (fun ls hl => ?_)
          obtain ⟨y_21, S_22, hc_23, hM⟩ := bd2_some hM
          have hK_24 : ∀ (H : Heap) (locs : List Loc) (ls : Array Slot), gW D cy b n s H locs (enc b cy X S_22) → lv_has ls 8 [(5, .int (iI v_3)), (0, .ref (b + 65)), (1, .int (iI a1)), (2, .int (iI a2)), (3, .int (iI a3)), (4, .int (iI y_21))] → W p l e (gRm 2 0 0) s m args below meth c H locs 0 0 (gQV D cy b s args below 0 0 (fun u => u = (n, enc b cy X o1))) (F0 m 103 ls []) := by
            intro H locs ls hG hl
            refine lv_iinc (v := iI (v_3 + 1)) (lv' := [(5, .int (iI (v_3 + 1))), (0, .ref (b + 65)), (1, .int (iI a1)), (2, .int (iI a2)), (3, .int (iI a3)), (4, .int (iI y_21))]) hx hb dX10_sort_103 hl (k := 0) rfl ((iI_add v_3 (1)).trans (congrArg iI (by omega))) (by decide) rfl (fun ls hl => ?_)
            refine lv_goto (tgt := 11) hx hb dX10_sort_106 (by decide) ?_
            exact ih_12 (v_3 + 1) y_21 S_22 H locs ls hM hG (lv_sub hl [0, 5, 1, 2, 3, 4] rfl)
          have loop_25 : ∀ (f : Nat) (v_18 : Int) (v_19 : Int) (S_20 : St) (H : Heap) (locs : List Loc) (ls : Array Slot), mX10_sort_27 v_3 a1 a2 a3 f v_18 v_19 S_20 = some (y_21, S_22) → gW D cy b n s H locs (enc b cy X S_20) → lv_has ls 8 [(6, .int (iI v_18)), (5, .int (iI v_3)), (4, .int (iI v_19)), (0, .ref (b + 65)), (1, .int (iI a1)), (2, .int (iI a2)), (3, .int (iI a3))] → W p l e (gRm 2 0 0) s m args below meth c H locs 0 0 (gQV D cy b s args below 0 0 (fun u => u = (n, enc b cy X o1))) (F0 m 27 ls []) := by
            clear hM
            intro f
            induction f with
            | zero => intro v_18 v_19 S_20 H locs ls hM; rw [mX10_sort_27] at hM; cases hM
            | succ f_27 ih_26 =>
              intro v_18 v_19 S_20 H locs ls hM hG hl
              rw [mX10_sort_27] at hM
              refine lv_iload hx hb dX10_sort_27 (lv_at hl 0 rfl) ?_
              refine lv_iload_n hx hb dX10_sort_29 rfl (lv_at hl 4 rfl) ?_
              refine lv_iload_n hx hb dX10_sort_30 rfl (lv_at hl 5 rfl) ?_
              refine gi_add hx hb dX10_sort_31 ?_
              obtain ⟨hg_28, hM⟩ := gd_some hM
              refine gi_icmp_ge (tgt := 103) hx hb dX10_sort_32 (by decide) hg_28.1 hg_28.2 (fun c_29 => ?_) (fun c_29 => ?_)
              · replace hM := ifp hM c_29
                cases hM
                exact hK_24 H locs ls hG (lv_sub hl [1, 3, 4, 5, 6, 2] rfl)
              · replace hM := ifn hM c_29
                refine lv_aload_n hx hb dX10_sort_35 rfl (lv_at hl 3 rfl) ?_
                refine lv_iload hx hb dX10_sort_36 (lv_at hl 0 rfl) ?_
                refine lv_iload_n hx hb dX10_sort_38 rfl (lv_at hl 4 rfl) ?_
                refine lv_iload_n hx hb dX10_sort_39 rfl (lv_at hl 5 rfl) ?_
                refine lv_iload_n hx hb dX10_sort_40 rfl (lv_at hl 6 rfl) ?_
                obtain ⟨r_31, S_32, hc_30, hM⟩ := bd2_some hM
                refine g_vi (As := [.int (iI v_18), .int (iI a1), .int (iI a2), .int (iI a3)]) (rest := []) S hG hsz (vX10_placeOf l hn v_18 a1 a2 a3 hc_30) wV_10_132 (ec_67 _) cpX10 (Nat.lt_of_lt_of_le (Nat.le_of_ble_eq_true rfl) hn) dX10_sort_41 rfl hl.1 (ar := 4) (by decide +kernel) rfl ⟨Nat.le_of_ble_eq_true rfl, Nat.le_of_ble_eq_true rfl, Nat.le_of_ble_eq_true rfl, Nat.le_of_ble_eq_true rfl⟩ (Nat.le_of_ble_eq_true rfl) (fun rv uu H locs hp hG => ?_)
                obtain ⟨rfl, rfl⟩ := hp
                replace hG : gW D cy b n s H locs (enc b cy X S_32) := hG
                refine lv_iload hx hb dX10_sort_44 (lv_at hl 1 rfl) ?_
                obtain ⟨hg_33, hM⟩ := gd_some hM
                refine gi_icmp_ne (tgt := 97) hx hb dX10_sort_46 (by decide) hg_33 hg_14.1 (fun c_34 => ?_) (fun c_34 => ?_)
                · replace hM := ifn hM c_34
                  refine lv_iinc (v := iI (v_18 + 1)) (lv' := [(6, .int (iI (v_18 + 1))), (5, .int (iI v_3)), (4, .int (iI v_19)), (0, .ref (b + 65)), (1, .int (iI a1)), (2, .int (iI a2)), (3, .int (iI a3))]) hx hb dX10_sort_97 hl (k := 0) rfl ((iI_add v_18 (1)).trans (congrArg iI (by omega))) (by decide) rfl (fun ls hl => ?_)
                  refine lv_goto (tgt := 27) hx hb dX10_sort_100 (by decide) ?_
                  exact ih_26 (v_18 + 1) v_19 S_32 H locs ls hM hG (lv_sub hl [0, 1, 2, 3, 4, 5, 6] rfl)
                · replace hM := ifp hM c_34
                  refine lv_aload_n hx hb dX10_sort_49 rfl (lv_at hl 3 rfl) ?_
                  refine m_get S hG 65 67 9 rfl ec_67 cpX10 wm_567 dX10_sort_50 rfl (Nat.lt_of_lt_of_le (Nat.le_of_ble_eq_true rfl) hn) (by decide) ?_
                  refine lv_iload hx hb dX10_sort_53 (lv_at hl 0 rfl) ?_
                  refine lv_iconst (v := iI 1) hx hb dX10_sort_55 (by decide) ?_
                  refine gi_add hx hb dX10_sort_56 ?_
                  obtain ⟨hg_35, hM⟩ := gd_some hM
                  refine mi_ald S hG 69 71 rfl ec_71 (Nat.lt_of_lt_of_le (Nat.le_of_ble_eq_true rfl) hn) dX10_sort_57 hg_35 (by decide) ?_
                  refine lv_aload_n hx hb dX10_sort_58 rfl (lv_at hl 3 rfl) ?_
                  refine m_get S hG 65 67 9 rfl ec_67 cpX10 wm_567 dX10_sort_59 rfl (Nat.lt_of_lt_of_le (Nat.le_of_ble_eq_true rfl) hn) (by decide) ?_
                  refine lv_iload hx hb dX10_sort_62 (lv_at hl 0 rfl) ?_
                  obtain ⟨hg_36, hM⟩ := gd_some hM
                  refine mi_ald S hG 69 71 rfl ec_71 (Nat.lt_of_lt_of_le (Nat.le_of_ble_eq_true rfl) hn) dX10_sort_64 hg_36 (by decide) ?_
                  refine gi_sub hx hb dX10_sort_65 ?_
                  refine gi_nm (fun x_37 ex_37 => ?_)
                  replace hM := nx_at hM ex_37
                  clear ex_37
                  refine lv_istore (lv' := [(7, .int (iI x_37)), (6, .int (iI v_18)), (5, .int (iI v_3)), (4, .int (iI v_19)), (0, .ref (b + 65)), (1, .int (iI a1)), (2, .int (iI a2)), (3, .int (iI a3))]) hx hb dX10_sort_66 hl (by decide) rfl (fun ls hl => ?_)
                  refine lv_aload_n hx hb dX10_sort_68 rfl (lv_at hl 4 rfl) ?_
                  refine m_get S hG 65 67 1 rfl ec_67 cpX10 wm_558 dX10_sort_69 rfl (Nat.lt_of_lt_of_le (Nat.le_of_ble_eq_true rfl) hn) (by decide) ?_
                  refine lv_aload_n hx hb dX10_sort_72 rfl (lv_at hl 4 rfl) ?_
                  refine m_get S hG 65 67 9 rfl ec_67 cpX10 wm_567 dX10_sort_73 rfl (Nat.lt_of_lt_of_le (Nat.le_of_ble_eq_true rfl) hn) (by decide) ?_
                  refine lv_iload hx hb dX10_sort_76 (lv_at hl 1 rfl) ?_
                  refine mi_ald S hG 69 71 rfl ec_71 (Nat.lt_of_lt_of_le (Nat.le_of_ble_eq_true rfl) hn) dX10_sort_78 hg_36 (by decide) ?_
                  refine lv_aload_n hx hb dX10_sort_79 rfl (lv_at hl 4 rfl) ?_
                  refine m_get S hG 65 67 2 rfl ec_67 cpX10 wm_560 dX10_sort_80 rfl (Nat.lt_of_lt_of_le (Nat.le_of_ble_eq_true rfl) hn) (by decide) ?_
                  refine lv_iload hx hb dX10_sort_83 (lv_at hl 3 rfl) ?_
                  refine lv_iload hx hb dX10_sort_85 (lv_at hl 0 rfl) ?_
                  obtain ⟨hg_38, hM⟩ := gd_some hM
                  refine m_copyi (ty := .byte) S hG wm_1458 wm_972 wm_971 wm_195 hl.1 66 68 67 69 0 rfl rfl ec_68 ec_69 rfl rfl (Nat.lt_of_lt_of_le (Nat.le_of_ble_eq_true rfl) hn) (Nat.lt_of_lt_of_le (Nat.le_of_ble_eq_true rfl) hn) hg_38.1 (by decide) (fun q hq => fit_b (hg_38.2 q hq)) dX10_sort_87 ⟨Nat.le_of_ble_eq_true rfl, Nat.le_of_ble_eq_true rfl⟩ (fun H locs S_39 eS_39 hG => ?_)
                  replace hM := nx_at hM eS_39
                  clear eS_39
                  refine lv_iload hx hb dX10_sort_90 (lv_at hl 3 rfl) ?_
                  refine lv_iload hx hb dX10_sort_92 (lv_at hl 0 rfl) ?_
                  refine gi_add hx hb dX10_sort_94 ?_
                  refine gi_nm (fun x_40 ex_40 => ?_)
                  replace hM := nx_at hM ex_40
                  clear ex_40
                  refine lv_istore (lv' := [(4, .int (iI x_40)), (7, .int (iI x_37)), (6, .int (iI v_18)), (5, .int (iI v_3)), (0, .ref (b + 65)), (1, .int (iI a1)), (2, .int (iI a2)), (3, .int (iI a3))]) hx hb dX10_sort_95 hl (by decide) rfl (fun ls hl => ?_)
                  refine lv_iinc (v := iI (v_18 + 1)) (lv' := [(6, .int (iI (v_18 + 1))), (4, .int (iI x_40)), (7, .int (iI x_37)), (5, .int (iI v_3)), (0, .ref (b + 65)), (1, .int (iI a1)), (2, .int (iI a2)), (3, .int (iI a3))]) hx hb dX10_sort_97 hl (k := 2) rfl ((iI_add v_18 (1)).trans (congrArg iI (by omega))) (by decide) rfl (fun ls hl => ?_)
                  refine lv_goto (tgt := 27) hx hb dX10_sort_100 (by decide) ?_
                  exact ih_26 (v_18 + 1) x_40 S_39 H locs ls hM hG (lv_sub hl [0, 3, 1, 4, 5, 6, 7] rfl)
          exact loop_25 FU a1 v_4 S_5 H locs ls hc_23 hG (lv_sub hl [0, 1, 2, 3, 4, 5, 6] rfl)
  exact loop_11 FU 0 x_2 S0 H locs ls hc_7 hG (lv_sub hl [0, 1, 2, 3, 4, 5] rfl)
theorem wV_10_128 : gWV "GrownKinds$ThingReader" 128 yX10_turn cX10_turn 8 none := ⟨wm_1499, wm_1501, wm_78, wm_185, wm_1502, by decide +kernel, by decide +kernel⟩
theorem wV_10_142 : gWV "GrownKinds$ThingReader" 142 yX10_compareTurns cX10_compareTurns 8 (some .int) := ⟨wm_1503, wm_1505, wm_79, wm_185, wm_1506, by decide +kernel, by decide +kernel⟩
def mX10_compareTurns_3 (S0 : St) (a1 : Int) (a2 : Int) (a3 : Int) (a4 : Int) : Nat → Int → Option (Int × Int × Int)
  | 0, _ => none
  | f + 1, v_1 => gd ((inI v_1) ∧ (inI a2)) <| if a2 ≤ v_1 then (some (1, 0, 0)) else (gd ((0 ≤ (a3 + v_1) ∧ (a3 + v_1) ≤ 2147483647) ∧ (0 < a2 ∧ a2 ≤ 2147483647)) <| gd (0 ≤ (a1 + ((a3 + v_1) % a2)) ∧ (a1 + ((a3 + v_1) % a2)) < 40) <| nx (S0 68 (a1 + ((a3 + v_1) % a2))) fun x_15 => gd (0 ≤ (a4 + v_1) ∧ (a4 + v_1) ≤ 2147483647) <| gd (0 ≤ (a1 + ((a4 + v_1) % a2)) ∧ (a1 + ((a4 + v_1) % a2)) < 40) <| nx (S0 68 (a1 + ((a4 + v_1) % a2))) fun x_18 => gd ((inI x_15) ∧ (inI x_18)) <| if x_15 = x_18 then (mX10_compareTurns_3 S0 a1 a2 a3 a4 f (v_1 + 1)) else (some (0, x_15, x_18)))
def mX10_compareTurns (S0 : St) (a1 : Int) (a2 : Int) (a3 : Int) (a4 : Int) : Option (Int) := bd3 (mX10_compareTurns_3 S0 a1 a2 a3 a4 FU 0) fun t_2 y_3 y_4 => if t_2 = 0 then (some ((y_3 - y_4))) else (some (0))
set_option maxHeartbeats 4000000 in
set_option maxRecDepth 100000 in
theorem vX10_compareTurns (l : Launch) {D : va_G} {cy : Nat → ClassId} {b n : Nat} (hn : 102 ≤ n) {X : Nat → va_E} {S0 : St} (a1 : Int) (a2 : Int) (a3 : Int) (a4 : Int) {o1 : Int} (hM : mX10_compareTurns S0 a1 a2 a3 a4 = some o1) : gI l yX10_compareTurns cX10_compareTurns 8 (some .int) 0 0 0 D cy b n (enc b cy X S0) [.ref (b + 65), .int (iI a1), .int (iI a2), .int (iI a3), .int (iI a4)] (fun r u => r = iI o1 ∧ u = (n, enc b cy X S0)) := by
  refine gI_of (by decide) (Nat.le_of_ble_eq_true rfl) ?_
  intro p e s m args below meth c S hr hlk hin hsz ls hl hG
  have hx := S.1
  have hb := S.2.1
  have hl : lv_has ls 8 [(0, .ref (b + 65)), (1, .int (iI a1)), (2, .int (iI a2)), (3, .int (iI a3)), (4, .int (iI a4))] := hl
  replace hG : gW D cy b n s s.heap [] (enc b cy X S0) := hG
  obtain ⟨H, eH⟩ : ∃ H, H = s.heap := ⟨_, rfl⟩
  obtain ⟨locs, elocs⟩ : ∃ locs : List Loc, locs = [] := ⟨_, rfl⟩
  rw [← eH, ← elocs] at hG
  rw [← eH, ← elocs]
  clear eH elocs
  unfold mX10_compareTurns at hM
  refine lv_iconst (v := iI 0) hx hb dX10_compareTurns_0 (by decide) ?_
  refine lv_istore (lv' := [(5, .int (iI 0)), (0, .ref (b + 65)), (1, .int (iI a1)), (2, .int (iI a2)), (3, .int (iI a3)), (4, .int (iI a4))]) hx hb dX10_compareTurns_1 hl (by decide) rfl (fun ls hl => ?_)
  obtain ⟨t_2, y_3, y_4, hc_5, hM⟩ := bd3_some hM
  have hK_6 : ∀ (H : Heap) (locs : List Loc) (ls : Array Slot), t_2 = 0 → gW D cy b n s H locs (enc b cy X S0) → lv_has ls 8 [(6, .int (iI y_3)), (7, .int (iI y_4))] → W p l e (gRm 0 0 0) s m args below meth c H locs 0 0 (gQI D cy b s args below 0 0 (fun r u => r = iI o1 ∧ u = (n, enc b cy X S0))) (F0 m 47 ls []) := by
    intro H locs ls ht hG hl
    subst ht
    replace hM := ifp hM rfl
    refine lv_iload hx hb dX10_compareTurns_47 (lv_at hl 0 rfl) ?_
    refine lv_iload hx hb dX10_compareTurns_49 (lv_at hl 1 rfl) ?_
    refine gi_sub hx hb dX10_compareTurns_51 ?_
    cases hM
    exact g_iret S hr hlk hG hsz dX10_compareTurns_52 ⟨Nat.le_of_ble_eq_true rfl, Nat.le_of_ble_eq_true rfl⟩ ⟨rfl, rfl⟩
  have hK_7 : ∀ (H : Heap) (locs : List Loc) (ls : Array Slot), t_2 = 1 → gW D cy b n s H locs (enc b cy X S0) → lv_has ls 8 [] → W p l e (gRm 0 0 0) s m args below meth c H locs 0 0 (gQI D cy b s args below 0 0 (fun r u => r = iI o1 ∧ u = (n, enc b cy X S0))) (F0 m 59 ls []) := by
    intro H locs ls ht hG hl
    subst ht
    replace hM := ifn hM (by decide)
    refine lv_iconst (v := iI 0) hx hb dX10_compareTurns_59 (by decide) ?_
    cases hM
    exact g_iret S hr hlk hG hsz dX10_compareTurns_60 ⟨Nat.le_of_ble_eq_true rfl, Nat.le_of_ble_eq_true rfl⟩ ⟨rfl, rfl⟩
  have loop_8 : ∀ (f : Nat) (v_1 : Int) (H : Heap) (locs : List Loc) (ls : Array Slot), mX10_compareTurns_3 S0 a1 a2 a3 a4 f v_1 = some (t_2, y_3, y_4) → gW D cy b n s H locs (enc b cy X S0) → lv_has ls 8 [(5, .int (iI v_1)), (0, .ref (b + 65)), (1, .int (iI a1)), (2, .int (iI a2)), (3, .int (iI a3)), (4, .int (iI a4))] → W p l e (gRm 0 0 0) s m args below meth c H locs 0 0 (gQI D cy b s args below 0 0 (fun r u => r = iI o1 ∧ u = (n, enc b cy X S0))) (F0 m 3 ls []) := by
    clear hM
    intro f
    induction f with
    | zero => intro v_1 H locs ls hM; rw [mX10_compareTurns_3] at hM; cases hM
    | succ f_10 ih_9 =>
      intro v_1 H locs ls hM hG hl
      rw [mX10_compareTurns_3] at hM
      refine lv_iload hx hb dX10_compareTurns_3 (lv_at hl 0 rfl) ?_
      refine lv_iload_n hx hb dX10_compareTurns_5 rfl (lv_at hl 3 rfl) ?_
      obtain ⟨hg_11, hM⟩ := gd_some hM
      refine gi_icmp_ge (tgt := 59) hx hb dX10_compareTurns_6 (by decide) hg_11.1 hg_11.2 (fun c_12 => ?_) (fun c_12 => ?_)
      · replace hM := ifp hM c_12
        cases hM
        exact hK_7 H locs ls rfl hG (lv_sub hl [] rfl)
      · replace hM := ifn hM c_12
        refine lv_aload_n hx hb dX10_compareTurns_9 rfl (lv_at hl 1 rfl) ?_
        refine m_get S hG 65 67 1 rfl ec_67 cpX10 wm_558 dX10_compareTurns_10 rfl (Nat.lt_of_lt_of_le (Nat.le_of_ble_eq_true rfl) hn) (by decide) ?_
        refine lv_iload_n hx hb dX10_compareTurns_13 rfl (lv_at hl 2 rfl) ?_
        refine lv_iload_n hx hb dX10_compareTurns_14 rfl (lv_at hl 4 rfl) ?_
        refine lv_iload hx hb dX10_compareTurns_15 (lv_at hl 0 rfl) ?_
        refine gi_add hx hb dX10_compareTurns_17 ?_
        refine lv_iload_n hx hb dX10_compareTurns_18 rfl (lv_at hl 3 rfl) ?_
        obtain ⟨hg_13, hM⟩ := gd_some hM
        refine gi_rem hx hb dX10_compareTurns_19 hg_13.1 hg_13.2 ?_
        refine gi_add hx hb dX10_compareTurns_20 ?_
        obtain ⟨hg_14, hM⟩ := gd_some hM
        refine mb_ald S hG 66 68 rfl ec_68 (Nat.lt_of_lt_of_le (Nat.le_of_ble_eq_true rfl) hn) dX10_compareTurns_21 hg_14 (by decide) ?_
        refine gi_nm (fun x_15 ex_15 => ?_)
        replace hM := nx_at hM ex_15
        clear ex_15
        refine lv_istore (lv' := [(6, .int (iI x_15)), (5, .int (iI v_1)), (0, .ref (b + 65)), (1, .int (iI a1)), (2, .int (iI a2)), (3, .int (iI a3)), (4, .int (iI a4))]) hx hb dX10_compareTurns_22 hl (by decide) rfl (fun ls hl => ?_)
        refine lv_aload_n hx hb dX10_compareTurns_24 rfl (lv_at hl 2 rfl) ?_
        refine m_get S hG 65 67 1 rfl ec_67 cpX10 wm_558 dX10_compareTurns_25 rfl (Nat.lt_of_lt_of_le (Nat.le_of_ble_eq_true rfl) hn) (by decide) ?_
        refine lv_iload_n hx hb dX10_compareTurns_28 rfl (lv_at hl 3 rfl) ?_
        refine lv_iload hx hb dX10_compareTurns_29 (lv_at hl 6 rfl) ?_
        refine lv_iload hx hb dX10_compareTurns_31 (lv_at hl 1 rfl) ?_
        refine gi_add hx hb dX10_compareTurns_33 ?_
        refine lv_iload_n hx hb dX10_compareTurns_34 rfl (lv_at hl 4 rfl) ?_
        obtain ⟨hg_16, hM⟩ := gd_some hM
        refine gi_rem hx hb dX10_compareTurns_35 hg_16 hg_13.2 ?_
        refine gi_add hx hb dX10_compareTurns_36 ?_
        obtain ⟨hg_17, hM⟩ := gd_some hM
        refine mb_ald S hG 66 68 rfl ec_68 (Nat.lt_of_lt_of_le (Nat.le_of_ble_eq_true rfl) hn) dX10_compareTurns_37 hg_17 (by decide) ?_
        refine gi_nm (fun x_18 ex_18 => ?_)
        replace hM := nx_at hM ex_18
        clear ex_18
        refine lv_istore (lv' := [(7, .int (iI x_18)), (6, .int (iI x_15)), (5, .int (iI v_1)), (0, .ref (b + 65)), (1, .int (iI a1)), (2, .int (iI a2)), (3, .int (iI a3)), (4, .int (iI a4))]) hx hb dX10_compareTurns_38 hl (by decide) rfl (fun ls hl => ?_)
        refine lv_iload hx hb dX10_compareTurns_40 (lv_at hl 1 rfl) ?_
        refine lv_iload hx hb dX10_compareTurns_42 (lv_at hl 0 rfl) ?_
        obtain ⟨hg_19, hM⟩ := gd_some hM
        refine gi_icmp_eq (tgt := 53) hx hb dX10_compareTurns_44 (by decide) hg_19.1 hg_19.2 (fun c_20 => ?_) (fun c_20 => ?_)
        · replace hM := ifp hM c_20
          refine lv_iinc (v := iI (v_1 + 1)) (lv' := [(5, .int (iI (v_1 + 1))), (7, .int (iI x_18)), (6, .int (iI x_15)), (0, .ref (b + 65)), (1, .int (iI a1)), (2, .int (iI a2)), (3, .int (iI a3)), (4, .int (iI a4))]) hx hb dX10_compareTurns_53 hl (k := 2) rfl ((iI_add v_1 (1)).trans (congrArg iI (by omega))) (by decide) rfl (fun ls hl => ?_)
          refine lv_goto (tgt := 3) hx hb dX10_compareTurns_56 (by decide) ?_
          exact ih_9 (v_1 + 1) H locs ls hM hG (lv_sub hl [0, 3, 4, 5, 6, 7] rfl)
        · replace hM := ifn hM c_20
          cases hM
          exact hK_6 H locs ls rfl hG (lv_sub hl [1, 0] rfl)
  exact loop_8 FU 0 H locs ls hc_5 hG (lv_sub hl [0, 1, 2, 3, 4, 5] rfl)
def mX10_turn_76 (x_4 : Int) (x_2 : Int) (a1 : Int) (a2 : Int) (y_7 : Int) : Nat → Int → St → Option (St)
  | 0, _, _ => none
  | f + 1, v_10, S_11 => gd ((inI v_10) ∧ (inI x_4)) <| if x_4 ≤ v_10 then (some (S_11)) else (gd ((0 ≤ (y_7 + v_10) ∧ (y_7 + v_10) ≤ 2147483647) ∧ (0 < x_4 ∧ x_4 ≤ 2147483647)) <| gd (0 ≤ (x_2 + ((y_7 + v_10) % x_4)) ∧ (x_2 + ((y_7 + v_10) % x_4)) < 40) <| gd ((0 ≤ (x_2 + v_10) ∧ (x_2 + v_10) < 40) ∧ (-128 ≤ (S_11 68 (x_2 + ((y_7 + v_10) % x_4))) ∧ (S_11 68 (x_2 + ((y_7 + v_10) % x_4))) ≤ 127)) <| nx (up S_11 69 (x_2 + v_10) (S_11 68 (x_2 + ((y_7 + v_10) % x_4)))) fun S_25 => mX10_turn_76 x_4 x_2 a1 a2 y_7 f (v_10 + 1) S_25)
def mX10_turn_25 (S0 : St) (x_4 : Int) (x_2 : Int) (a1 : Int) (a2 : Int) : Nat → Int → Int → Option (Int)
  | 0, _, _ => none
  | f + 1, v_5, v_6 => gd ((inI v_5) ∧ (inI a2)) <| if a2 ≤ v_5 then (some (v_6)) else (gd (0 ≤ (a1 + v_5) ∧ (a1 + v_5) < 41) <| nx ((S0 71 (a1 + v_5)) - x_2) fun x_32 => bd1 (mX10_compareTurns S0 x_2 x_4 x_32 v_6) fun r_34 => gd (inI r_34) <| if 0 ≤ r_34 then (mX10_turn_25 S0 x_4 x_2 a1 a2 f (v_5 + 1) v_6) else (mX10_turn_25 S0 x_4 x_2 a1 a2 f (v_5 + 1) x_32))
def mX10_turn (S0 : St) (a1 : Int) (a2 : Int) : Option (St) := gd (0 ≤ a1 ∧ a1 < 41) <| nx (S0 71 a1) fun x_2 => gd (0 ≤ (a1 + a2) ∧ (a1 + a2) < 41) <| nx ((S0 71 (a1 + a2)) - x_2) fun x_4 => bd1 (mX10_turn_25 S0 x_4 x_2 a1 a2 FU 1 0) fun y_7 => bd1 (mX10_turn_76 x_4 x_2 a1 a2 y_7 FU 0 S0) fun S_12 => bd1 (mX10_copyBack S_12 a1 a2) fun S_16 => some (S_16)
set_option maxHeartbeats 4000000 in
set_option maxRecDepth 100000 in
theorem vX10_turn (l : Launch) {D : va_G} {cy : Nat → ClassId} {b n : Nat} (hn : 102 ≤ n) {X : Nat → va_E} {S0 : St} (a1 : Int) (a2 : Int) {o1 : St} (hM : mX10_turn S0 a1 a2 = some o1) : gV l yX10_turn cX10_turn 8 2 0 0 D cy b n (enc b cy X S0) [.ref (b + 65), .int (iI a1), .int (iI a2)] (fun u => u = (n, enc b cy X o1)) := by
  refine gV_of (by decide) (Nat.le_of_ble_eq_true rfl) ?_
  intro p e s m args below meth c S hr hlk hin hsz ls hl hG
  have hx := S.1
  have hb := S.2.1
  have hl : lv_has ls 8 [(0, .ref (b + 65)), (1, .int (iI a1)), (2, .int (iI a2))] := hl
  replace hG : gW D cy b n s s.heap [] (enc b cy X S0) := hG
  obtain ⟨H, eH⟩ : ∃ H, H = s.heap := ⟨_, rfl⟩
  obtain ⟨locs, elocs⟩ : ∃ locs : List Loc, locs = [] := ⟨_, rfl⟩
  rw [← eH, ← elocs] at hG
  rw [← eH, ← elocs]
  clear eH elocs
  unfold mX10_turn at hM
  refine lv_aload_n hx hb dX10_turn_0 rfl (lv_at hl 0 rfl) ?_
  refine m_get S hG 65 67 9 rfl ec_67 cpX10 wm_567 dX10_turn_1 rfl (Nat.lt_of_lt_of_le (Nat.le_of_ble_eq_true rfl) hn) (by decide) ?_
  refine lv_iload_n hx hb dX10_turn_4 rfl (lv_at hl 1 rfl) ?_
  obtain ⟨hg_1, hM⟩ := gd_some hM
  refine mi_ald S hG 69 71 rfl ec_71 (Nat.lt_of_lt_of_le (Nat.le_of_ble_eq_true rfl) hn) dX10_turn_5 hg_1 (by decide) ?_
  refine gi_nm (fun x_2 ex_2 => ?_)
  replace hM := nx_at hM ex_2
  clear ex_2
  refine lv_istore_n (lv' := [(3, .int (iI x_2)), (0, .ref (b + 65)), (1, .int (iI a1)), (2, .int (iI a2))]) hx hb dX10_turn_6 rfl hl (by decide) rfl (fun ls hl => ?_)
  refine lv_aload_n hx hb dX10_turn_7 rfl (lv_at hl 1 rfl) ?_
  refine m_get S hG 65 67 9 rfl ec_67 cpX10 wm_567 dX10_turn_8 rfl (Nat.lt_of_lt_of_le (Nat.le_of_ble_eq_true rfl) hn) (by decide) ?_
  refine lv_iload_n hx hb dX10_turn_11 rfl (lv_at hl 2 rfl) ?_
  refine lv_iload_n hx hb dX10_turn_12 rfl (lv_at hl 3 rfl) ?_
  refine gi_add hx hb dX10_turn_13 ?_
  obtain ⟨hg_3, hM⟩ := gd_some hM
  refine mi_ald S hG 69 71 rfl ec_71 (Nat.lt_of_lt_of_le (Nat.le_of_ble_eq_true rfl) hn) dX10_turn_14 hg_3 (by decide) ?_
  refine lv_iload_n hx hb dX10_turn_15 rfl (lv_at hl 0 rfl) ?_
  refine gi_sub hx hb dX10_turn_16 ?_
  refine gi_nm (fun x_4 ex_4 => ?_)
  replace hM := nx_at hM ex_4
  clear ex_4
  refine lv_istore (lv' := [(4, .int (iI x_4)), (3, .int (iI x_2)), (0, .ref (b + 65)), (1, .int (iI a1)), (2, .int (iI a2))]) hx hb dX10_turn_17 hl (by decide) rfl (fun ls hl => ?_)
  refine lv_iconst (v := iI 0) hx hb dX10_turn_19 (by decide) ?_
  refine lv_istore (lv' := [(5, .int (iI 0)), (4, .int (iI x_4)), (3, .int (iI x_2)), (0, .ref (b + 65)), (1, .int (iI a1)), (2, .int (iI a2))]) hx hb dX10_turn_20 hl (by decide) rfl (fun ls hl => ?_)
  refine lv_iconst (v := iI 1) hx hb dX10_turn_22 (by decide) ?_
  refine lv_istore (lv' := [(6, .int (iI 1)), (5, .int (iI 0)), (4, .int (iI x_4)), (3, .int (iI x_2)), (0, .ref (b + 65)), (1, .int (iI a1)), (2, .int (iI a2))]) hx hb dX10_turn_23 hl (by decide) rfl (fun ls hl => ?_)
  obtain ⟨y_7, hc_8, hM⟩ := bd1_some hM
  have hK_9 : ∀ (H : Heap) (locs : List Loc) (ls : Array Slot), gW D cy b n s H locs (enc b cy X S0) → lv_has ls 8 [(4, .int (iI x_4)), (3, .int (iI x_2)), (0, .ref (b + 65)), (1, .int (iI a1)), (2, .int (iI a2)), (5, .int (iI y_7))] → W p l e (gRm 2 0 0) s m args below meth c H locs 0 0 (gQV D cy b s args below 0 0 (fun u => u = (n, enc b cy X o1))) (F0 m 73 ls []) := by
    intro H locs ls hG hl
    refine lv_iconst (v := iI 0) hx hb dX10_turn_73 (by decide) ?_
    refine lv_istore (lv' := [(6, .int (iI 0)), (4, .int (iI x_4)), (3, .int (iI x_2)), (0, .ref (b + 65)), (1, .int (iI a1)), (2, .int (iI a2)), (5, .int (iI y_7))]) hx hb dX10_turn_74 hl (by decide) rfl (fun ls hl => ?_)
    obtain ⟨S_12, hc_13, hM⟩ := bd1_some hM
    have hK_14 : ∀ (H : Heap) (locs : List Loc) (ls : Array Slot), gW D cy b n s H locs (enc b cy X S_12) → lv_has ls 8 [(0, .ref (b + 65)), (1, .int (iI a1)), (2, .int (iI a2))] → W p l e (gRm 2 0 0) s m args below meth c H locs 0 0 (gQV D cy b s args below 0 0 (fun u => u = (n, enc b cy X o1))) (F0 m 113 ls []) := by
      intro H locs ls hG hl
      refine lv_aload_n hx hb dX10_turn_113 rfl (lv_at hl 0 rfl) ?_
      refine lv_iload_n hx hb dX10_turn_114 rfl (lv_at hl 1 rfl) ?_
      refine lv_iload_n hx hb dX10_turn_115 rfl (lv_at hl 2 rfl) ?_
      obtain ⟨S_16, hc_15, hM⟩ := bd1_some hM
      refine g_vv (As := [.int (iI a1), .int (iI a2)]) (rest := []) S hG hsz (vX10_copyBack l hn a1 a2 hc_15) wV_10_136 (ec_67 _) cpX10 (Nat.lt_of_lt_of_le (Nat.le_of_ble_eq_true rfl) hn) dX10_turn_116 rfl hl.1 (ar := 2) (by decide +kernel) rfl ⟨Nat.le_of_ble_eq_true rfl, Nat.le_of_ble_eq_true rfl, Nat.le_of_ble_eq_true rfl, Nat.le_of_ble_eq_true rfl⟩ (Nat.le_of_ble_eq_true rfl) (fun uu H locs hp hG => ?_)
      obtain rfl := hp
      replace hG : gW D cy b n s H locs (enc b cy X S_16) := hG
      cases hM
      exact g_vret S hr hlk hG hsz dX10_turn_119 ⟨Nat.le_of_ble_eq_true rfl, Nat.le_of_ble_eq_true rfl⟩ rfl
    have loop_17 : ∀ (f : Nat) (v_10 : Int) (S_11 : St) (H : Heap) (locs : List Loc) (ls : Array Slot), mX10_turn_76 x_4 x_2 a1 a2 y_7 f v_10 S_11 = some S_12 → gW D cy b n s H locs (enc b cy X S_11) → lv_has ls 8 [(6, .int (iI v_10)), (4, .int (iI x_4)), (3, .int (iI x_2)), (0, .ref (b + 65)), (1, .int (iI a1)), (2, .int (iI a2)), (5, .int (iI y_7))] → W p l e (gRm 2 0 0) s m args below meth c H locs 0 0 (gQV D cy b s args below 0 0 (fun u => u = (n, enc b cy X o1))) (F0 m 76 ls []) := by
      clear hM
      intro f
      induction f with
      | zero => intro v_10 S_11 H locs ls hM; rw [mX10_turn_76] at hM; cases hM
      | succ f_19 ih_18 =>
        intro v_10 S_11 H locs ls hM hG hl
        rw [mX10_turn_76] at hM
        refine lv_iload hx hb dX10_turn_76 (lv_at hl 0 rfl) ?_
        refine lv_iload hx hb dX10_turn_78 (lv_at hl 1 rfl) ?_
        obtain ⟨hg_20, hM⟩ := gd_some hM
        refine gi_icmp_ge (tgt := 113) hx hb dX10_turn_80 (by decide) hg_20.1 hg_20.2 (fun c_21 => ?_) (fun c_21 => ?_)
        · replace hM := ifp hM c_21
          cases hM
          exact hK_14 H locs ls hG (lv_sub hl [3, 4, 5] rfl)
        · replace hM := ifn hM c_21
          refine lv_aload_n hx hb dX10_turn_83 rfl (lv_at hl 3 rfl) ?_
          refine m_get S hG 65 67 2 rfl ec_67 cpX10 wm_560 dX10_turn_84 rfl (Nat.lt_of_lt_of_le (Nat.le_of_ble_eq_true rfl) hn) (by decide) ?_
          refine lv_iload_n hx hb dX10_turn_87 rfl (lv_at hl 2 rfl) ?_
          refine lv_iload hx hb dX10_turn_88 (lv_at hl 0 rfl) ?_
          refine gi_add hx hb dX10_turn_90 ?_
          refine lv_aload_n hx hb dX10_turn_91 rfl (lv_at hl 3 rfl) ?_
          refine m_get S hG 65 67 1 rfl ec_67 cpX10 wm_558 dX10_turn_92 rfl (Nat.lt_of_lt_of_le (Nat.le_of_ble_eq_true rfl) hn) (by decide) ?_
          refine lv_iload_n hx hb dX10_turn_95 rfl (lv_at hl 2 rfl) ?_
          refine lv_iload hx hb dX10_turn_96 (lv_at hl 6 rfl) ?_
          refine lv_iload hx hb dX10_turn_98 (lv_at hl 0 rfl) ?_
          refine gi_add hx hb dX10_turn_100 ?_
          refine lv_iload hx hb dX10_turn_101 (lv_at hl 1 rfl) ?_
          obtain ⟨hg_22, hM⟩ := gd_some hM
          refine gi_rem hx hb dX10_turn_103 hg_22.1 hg_22.2 ?_
          refine gi_add hx hb dX10_turn_104 ?_
          obtain ⟨hg_23, hM⟩ := gd_some hM
          refine mb_ald S hG 66 68 rfl ec_68 (Nat.lt_of_lt_of_le (Nat.le_of_ble_eq_true rfl) hn) dX10_turn_105 hg_23 (by decide) ?_
          obtain ⟨hg_24, hM⟩ := gd_some hM
          refine mb_ast S hG 67 69 rfl ec_69 (Nat.lt_of_lt_of_le (Nat.le_of_ble_eq_true rfl) hn) dX10_turn_106 hg_24.1 (by decide) (nar8 hg_24.2) (fun H locs S_25 eS_25 hG => ?_)
          replace hM := nx_at hM eS_25
          clear eS_25
          refine lv_iinc (v := iI (v_10 + 1)) (lv' := [(6, .int (iI (v_10 + 1))), (4, .int (iI x_4)), (3, .int (iI x_2)), (0, .ref (b + 65)), (1, .int (iI a1)), (2, .int (iI a2)), (5, .int (iI y_7))]) hx hb dX10_turn_107 hl (k := 0) rfl ((iI_add v_10 (1)).trans (congrArg iI (by omega))) (by decide) rfl (fun ls hl => ?_)
          refine lv_goto (tgt := 76) hx hb dX10_turn_110 (by decide) ?_
          exact ih_18 (v_10 + 1) S_25 H locs ls hM hG (lv_sub hl [0, 1, 2, 3, 4, 5, 6] rfl)
    exact loop_17 FU 0 S0 H locs ls hc_13 hG (lv_sub hl [0, 1, 2, 3, 4, 5, 6] rfl)
  have loop_26 : ∀ (f : Nat) (v_5 : Int) (v_6 : Int) (H : Heap) (locs : List Loc) (ls : Array Slot), mX10_turn_25 S0 x_4 x_2 a1 a2 f v_5 v_6 = some y_7 → gW D cy b n s H locs (enc b cy X S0) → lv_has ls 8 [(6, .int (iI v_5)), (5, .int (iI v_6)), (4, .int (iI x_4)), (3, .int (iI x_2)), (0, .ref (b + 65)), (1, .int (iI a1)), (2, .int (iI a2))] → W p l e (gRm 2 0 0) s m args below meth c H locs 0 0 (gQV D cy b s args below 0 0 (fun u => u = (n, enc b cy X o1))) (F0 m 25 ls []) := by
    clear hM
    intro f
    induction f with
    | zero => intro v_5 v_6 H locs ls hM; rw [mX10_turn_25] at hM; cases hM
    | succ f_28 ih_27 =>
      intro v_5 v_6 H locs ls hM hG hl
      rw [mX10_turn_25] at hM
      refine lv_iload hx hb dX10_turn_25 (lv_at hl 0 rfl) ?_
      refine lv_iload_n hx hb dX10_turn_27 rfl (lv_at hl 6 rfl) ?_
      obtain ⟨hg_29, hM⟩ := gd_some hM
      refine gi_icmp_ge (tgt := 73) hx hb dX10_turn_28 (by decide) hg_29.1 hg_29.2 (fun c_30 => ?_) (fun c_30 => ?_)
      · replace hM := ifp hM c_30
        cases hM
        exact hK_9 H locs ls hG (lv_sub hl [2, 3, 4, 5, 6, 1] rfl)
      · replace hM := ifn hM c_30
        refine lv_aload_n hx hb dX10_turn_31 rfl (lv_at hl 4 rfl) ?_
        refine m_get S hG 65 67 9 rfl ec_67 cpX10 wm_567 dX10_turn_32 rfl (Nat.lt_of_lt_of_le (Nat.le_of_ble_eq_true rfl) hn) (by decide) ?_
        refine lv_iload_n hx hb dX10_turn_35 rfl (lv_at hl 5 rfl) ?_
        refine lv_iload hx hb dX10_turn_36 (lv_at hl 0 rfl) ?_
        refine gi_add hx hb dX10_turn_38 ?_
        obtain ⟨hg_31, hM⟩ := gd_some hM
        refine mi_ald S hG 69 71 rfl ec_71 (Nat.lt_of_lt_of_le (Nat.le_of_ble_eq_true rfl) hn) dX10_turn_39 hg_31 (by decide) ?_
        refine lv_iload_n hx hb dX10_turn_40 rfl (lv_at hl 3 rfl) ?_
        refine gi_sub hx hb dX10_turn_41 ?_
        refine gi_nm (fun x_32 ex_32 => ?_)
        replace hM := nx_at hM ex_32
        clear ex_32
        refine lv_istore (lv' := [(7, .int (iI x_32)), (6, .int (iI v_5)), (5, .int (iI v_6)), (4, .int (iI x_4)), (3, .int (iI x_2)), (0, .ref (b + 65)), (1, .int (iI a1)), (2, .int (iI a2))]) hx hb dX10_turn_42 hl (by decide) rfl (fun ls hl => ?_)
        refine lv_aload_n hx hb dX10_turn_44 rfl (lv_at hl 5 rfl) ?_
        refine lv_iload_n hx hb dX10_turn_45 rfl (lv_at hl 4 rfl) ?_
        refine lv_iload hx hb dX10_turn_46 (lv_at hl 3 rfl) ?_
        refine lv_iload hx hb dX10_turn_48 (lv_at hl 0 rfl) ?_
        refine lv_iload hx hb dX10_turn_50 (lv_at hl 2 rfl) ?_
        obtain ⟨r_34, hc_33, hM⟩ := bd1_some hM
        refine g_vi (As := [.int (iI x_2), .int (iI x_4), .int (iI x_32), .int (iI v_6)]) (rest := []) S hG hsz (vX10_compareTurns l hn x_2 x_4 x_32 v_6 hc_33) wV_10_142 (ec_67 _) cpX10 (Nat.lt_of_lt_of_le (Nat.le_of_ble_eq_true rfl) hn) dX10_turn_52 rfl hl.1 (ar := 4) (by decide +kernel) rfl ⟨Nat.le_of_ble_eq_true rfl, Nat.le_of_ble_eq_true rfl, Nat.le_of_ble_eq_true rfl, Nat.le_of_ble_eq_true rfl⟩ (Nat.le_of_ble_eq_true rfl) (fun rv uu H locs hp hG => ?_)
        obtain ⟨rfl, rfl⟩ := hp
        replace hG : gW D cy b n s H locs (enc b cy X S0) := hG
        obtain ⟨hg_35, hM⟩ := gd_some hM
        refine gi_if_ge (tgt := 63) hx hb dX10_turn_55 (by decide) hg_35 (fun c_36 => ?_) (fun c_36 => ?_)
        · replace hM := ifp hM c_36
          refine lv_iload hx hb dX10_turn_63 (lv_at hl 2 rfl) ?_
          refine lv_istore (lv' := [(5, .int (iI v_6)), (7, .int (iI x_32)), (6, .int (iI v_5)), (4, .int (iI x_4)), (3, .int (iI x_2)), (0, .ref (b + 65)), (1, .int (iI a1)), (2, .int (iI a2))]) hx hb dX10_turn_65 hl (by decide) rfl (fun ls hl => ?_)
          refine lv_iinc (v := iI (v_5 + 1)) (lv' := [(6, .int (iI (v_5 + 1))), (5, .int (iI v_6)), (7, .int (iI x_32)), (4, .int (iI x_4)), (3, .int (iI x_2)), (0, .ref (b + 65)), (1, .int (iI a1)), (2, .int (iI a2))]) hx hb dX10_turn_67 hl (k := 2) rfl ((iI_add v_5 (1)).trans (congrArg iI (by omega))) (by decide) rfl (fun ls hl => ?_)
          refine lv_goto (tgt := 25) hx hb dX10_turn_70 (by decide) ?_
          exact ih_27 (v_5 + 1) v_6 H locs ls hM hG (lv_sub hl [0, 1, 3, 4, 5, 6, 7] rfl)
        · replace hM := ifn hM c_36
          refine lv_iload hx hb dX10_turn_58 (lv_at hl 0 rfl) ?_
          refine lv_goto (tgt := 65) hx hb dX10_turn_60 (by decide) ?_
          refine lv_istore (lv' := [(5, .int (iI x_32)), (7, .int (iI x_32)), (6, .int (iI v_5)), (4, .int (iI x_4)), (3, .int (iI x_2)), (0, .ref (b + 65)), (1, .int (iI a1)), (2, .int (iI a2))]) hx hb dX10_turn_65 hl (by decide) rfl (fun ls hl => ?_)
          refine lv_iinc (v := iI (v_5 + 1)) (lv' := [(6, .int (iI (v_5 + 1))), (5, .int (iI x_32)), (7, .int (iI x_32)), (4, .int (iI x_4)), (3, .int (iI x_2)), (0, .ref (b + 65)), (1, .int (iI a1)), (2, .int (iI a2))]) hx hb dX10_turn_67 hl (k := 2) rfl ((iI_add v_5 (1)).trans (congrArg iI (by omega))) (by decide) rfl (fun ls hl => ?_)
          refine lv_goto (tgt := 25) hx hb dX10_turn_70 (by decide) ?_
          exact ih_27 (v_5 + 1) x_32 H locs ls hM hG (lv_sub hl [0, 1, 3, 4, 5, 6, 7] rfl)
  exact loop_26 FU 1 0 H locs ls hc_8 hG (lv_sub hl [0, 1, 2, 3, 4, 5, 6] rfl)
def mX10_close (S0 : St) (a1 : Int) : Option (St) := nx (up S0 67 12 ((S0 67 12) - 1)) fun S_1 => gd (0 ≤ (S_1 67 12) ∧ (S_1 67 12) < 40) <| nx (S_1 72 (S_1 67 12)) fun x_3 => nx ((S_1 67 10) - x_3) fun x_4 => gd (0 ≤ a1 ∧ a1 < 24) <| nx (S_1 4 a1) fun x_6 => nx (S_1 3 a1) fun x_7 => gd (0 ≤ (S_1 67 10) ∧ (S_1 67 10) < 41) <| nx (up S_1 71 (S_1 67 10) (S_1 67 4)) fun S_9 => nx (up S_9 67 10 x_3) fun S_10 => gd (inI x_6) <| if x_6 ≤ 0 then (bd1 (gd (inI x_7) <| if x_7 = 6 then (gd (inI x_4) <| if 1 ≤ x_4 then (some (1)) else (some (0))) else (some (1))) fun t_13 => if t_13 = 0 then (nx (up S_10 67 6 0) fun S_16 => some (S_16)) else (bd1 (gd (inI x_7) <| if x_7 = 4 then (some (0)) else (if x_7 = 5 then (some (0)) else (some (1)))) fun t_18 => if t_18 = 0 then (gd (inI x_7) <| if x_7 = 5 then (bd1 (mX10_sort S_10 x_3 x_4 1) fun S_26 => some (S_26)) else (bd1 (mX10_sort S_10 x_3 x_4 0) fun S_24 => some (S_24))) else (gd (inI x_7) <| if x_7 = 6 then (bd1 (mX10_turn S_10 x_3 x_4) fun S_31 => some (S_31)) else (some (S_10))))) else (gd (inI x_4) <| if x_4 = x_6 then (bd1 (gd (inI x_7) <| if x_7 = 6 then (if 1 ≤ x_4 then (some (1)) else (some (0))) else (some (1))) fun t_42 => if t_42 = 0 then (nx (up S_10 67 6 0) fun S_45 => some (S_45)) else (bd1 (gd (inI x_7) <| if x_7 = 4 then (some (0)) else (if x_7 = 5 then (some (0)) else (some (1)))) fun t_47 => if t_47 = 0 then (gd (inI x_7) <| if x_7 = 5 then (bd1 (mX10_sort S_10 x_3 x_4 1) fun S_55 => some (S_55)) else (bd1 (mX10_sort S_10 x_3 x_4 0) fun S_53 => some (S_53))) else (gd (inI x_7) <| if x_7 = 6 then (bd1 (mX10_turn S_10 x_3 x_4) fun S_60 => some (S_60)) else (some (S_10))))) else (nx (up S_10 67 6 0) fun S_41 => some (S_41)))
set_option maxHeartbeats 4000000 in
set_option maxRecDepth 100000 in
theorem vX10_close (l : Launch) {D : va_G} {cy : Nat → ClassId} {b n : Nat} (hn : 102 ≤ n) {X : Nat → va_E} {S0 : St} (a1 : Int) {o1 : St} (hM : mX10_close S0 a1 = some o1) : gV l yX10_close cX10_close 6 3 0 0 D cy b n (enc b cy X S0) [.ref (b + 65), .int (iI a1)] (fun u => u = (n, enc b cy X o1)) := by
  refine gV_of (by decide) (Nat.le_of_ble_eq_true rfl) ?_
  intro p e s m args below meth c S hr hlk hin hsz ls hl hG
  have hx := S.1
  have hb := S.2.1
  have hl : lv_has ls 6 [(0, .ref (b + 65)), (1, .int (iI a1))] := hl
  replace hG : gW D cy b n s s.heap [] (enc b cy X S0) := hG
  obtain ⟨H, eH⟩ : ∃ H, H = s.heap := ⟨_, rfl⟩
  obtain ⟨locs, elocs⟩ : ∃ locs : List Loc, locs = [] := ⟨_, rfl⟩
  rw [← eH, ← elocs] at hG
  rw [← eH, ← elocs]
  clear eH elocs
  unfold mX10_close at hM
  refine lv_aload_n hx hb dX10_close_0 rfl (lv_at hl 0 rfl) ?_
  refine lv_dup hx hb dX10_close_1 rfl ?_
  refine m_get S hG 65 67 12 rfl ec_67 cpX10 wm_570 dX10_close_2 rfl (Nat.lt_of_lt_of_le (Nat.le_of_ble_eq_true rfl) hn) (by decide) ?_
  refine lv_iconst (v := iI 1) hx hb dX10_close_5 (by decide) ?_
  refine gi_sub hx hb dX10_close_6 ?_
  refine m_put S hG 65 67 12 rfl 12 ((S0 67 12) - 1) ec_67 cpX10 wm_570 dX10_close_7 (pf_67_12) (Nat.lt_of_lt_of_le (Nat.le_of_ble_eq_true rfl) hn) (by decide) (Nat.le_of_ble_eq_true rfl) rfl rfl rfl (fun H locs S_1 eS_1 hG => ?_)
  replace hM := nx_at hM eS_1
  clear eS_1
  refine lv_aload_n hx hb dX10_close_10 rfl (lv_at hl 0 rfl) ?_
  refine m_get S hG 65 67 11 rfl ec_67 cpX10 wm_569 dX10_close_11 rfl (Nat.lt_of_lt_of_le (Nat.le_of_ble_eq_true rfl) hn) (by decide) ?_
  refine lv_aload_n hx hb dX10_close_14 rfl (lv_at hl 0 rfl) ?_
  refine m_get S hG 65 67 12 rfl ec_67 cpX10 wm_570 dX10_close_15 rfl (Nat.lt_of_lt_of_le (Nat.le_of_ble_eq_true rfl) hn) (by decide) ?_
  obtain ⟨hg_2, hM⟩ := gd_some hM
  refine mi_ald S hG 70 72 rfl ec_72 (Nat.lt_of_lt_of_le (Nat.le_of_ble_eq_true rfl) hn) dX10_close_18 hg_2 (by decide) ?_
  refine gi_nm (fun x_3 ex_3 => ?_)
  replace hM := nx_at hM ex_3
  clear ex_3
  refine lv_istore_n (lv' := [(2, .int (iI x_3)), (0, .ref (b + 65)), (1, .int (iI a1))]) hx hb dX10_close_19 rfl hl (by decide) rfl (fun ls hl => ?_)
  refine lv_aload_n hx hb dX10_close_20 rfl (lv_at hl 1 rfl) ?_
  refine m_get S hG 65 67 10 rfl ec_67 cpX10 wm_568 dX10_close_21 rfl (Nat.lt_of_lt_of_le (Nat.le_of_ble_eq_true rfl) hn) (by decide) ?_
  refine lv_iload_n hx hb dX10_close_24 rfl (lv_at hl 0 rfl) ?_
  refine gi_sub hx hb dX10_close_25 ?_
  refine gi_nm (fun x_4 ex_4 => ?_)
  replace hM := nx_at hM ex_4
  clear ex_4
  refine lv_istore_n (lv' := [(3, .int (iI x_4)), (2, .int (iI x_3)), (0, .ref (b + 65)), (1, .int (iI a1))]) hx hb dX10_close_26 rfl hl (by decide) rfl (fun ls hl => ?_)
  refine lv_aload_n hx hb dX10_close_27 rfl (lv_at hl 2 rfl) ?_
  refine m_get S hG 65 67 0 rfl ec_67 cpX10 wm_557 dX10_close_28 rfl (Nat.lt_of_lt_of_le (Nat.le_of_ble_eq_true rfl) hn) (by decide) ?_
  refine m_get S hG 2 2 6 rfl ec_2 cpX2 wm_243 dX10_close_31 rfl (Nat.lt_of_lt_of_le (Nat.le_of_ble_eq_true rfl) hn) (by decide) ?_
  refine lv_iload_n hx hb dX10_close_34 rfl (lv_at hl 3 rfl) ?_
  obtain ⟨hg_5, hM⟩ := gd_some hM
  refine mi_ald S hG 4 4 rfl ec_4 (Nat.lt_of_lt_of_le (Nat.le_of_ble_eq_true rfl) hn) dX10_close_35 hg_5 (by decide) ?_
  refine gi_nm (fun x_6 ex_6 => ?_)
  replace hM := nx_at hM ex_6
  clear ex_6
  refine lv_istore (lv' := [(4, .int (iI x_6)), (3, .int (iI x_4)), (2, .int (iI x_3)), (0, .ref (b + 65)), (1, .int (iI a1))]) hx hb dX10_close_36 hl (by decide) rfl (fun ls hl => ?_)
  refine lv_aload_n hx hb dX10_close_38 rfl (lv_at hl 3 rfl) ?_
  refine m_get S hG 65 67 0 rfl ec_67 cpX10 wm_557 dX10_close_39 rfl (Nat.lt_of_lt_of_le (Nat.le_of_ble_eq_true rfl) hn) (by decide) ?_
  refine m_get S hG 2 2 5 rfl ec_2 cpX2 wm_237 dX10_close_42 rfl (Nat.lt_of_lt_of_le (Nat.le_of_ble_eq_true rfl) hn) (by decide) ?_
  refine lv_iload_n hx hb dX10_close_45 rfl (lv_at hl 4 rfl) ?_
  refine mi_ald S hG 3 3 rfl ec_3 (Nat.lt_of_lt_of_le (Nat.le_of_ble_eq_true rfl) hn) dX10_close_46 hg_5 (by decide) ?_
  refine gi_nm (fun x_7 ex_7 => ?_)
  replace hM := nx_at hM ex_7
  clear ex_7
  refine lv_istore (lv' := [(5, .int (iI x_7)), (4, .int (iI x_6)), (3, .int (iI x_4)), (2, .int (iI x_3)), (0, .ref (b + 65)), (1, .int (iI a1))]) hx hb dX10_close_47 hl (by decide) rfl (fun ls hl => ?_)
  refine lv_aload_n hx hb dX10_close_49 rfl (lv_at hl 4 rfl) ?_
  refine m_get S hG 65 67 9 rfl ec_67 cpX10 wm_567 dX10_close_50 rfl (Nat.lt_of_lt_of_le (Nat.le_of_ble_eq_true rfl) hn) (by decide) ?_
  refine lv_aload_n hx hb dX10_close_53 rfl (lv_at hl 4 rfl) ?_
  refine m_get S hG 65 67 10 rfl ec_67 cpX10 wm_568 dX10_close_54 rfl (Nat.lt_of_lt_of_le (Nat.le_of_ble_eq_true rfl) hn) (by decide) ?_
  refine lv_aload_n hx hb dX10_close_57 rfl (lv_at hl 4 rfl) ?_
  refine m_get S hG 65 67 4 rfl ec_67 cpX10 wm_562 dX10_close_58 rfl (Nat.lt_of_lt_of_le (Nat.le_of_ble_eq_true rfl) hn) (by decide) ?_
  obtain ⟨hg_8, hM⟩ := gd_some hM
  refine mi_ast S hG 69 71 rfl ec_71 (Nat.lt_of_lt_of_le (Nat.le_of_ble_eq_true rfl) hn) dX10_close_61 hg_8 (by decide) (fun H locs S_9 eS_9 hG => ?_)
  replace hM := nx_at hM eS_9
  clear eS_9
  refine lv_aload_n hx hb dX10_close_62 rfl (lv_at hl 4 rfl) ?_
  refine lv_iload_n hx hb dX10_close_63 rfl (lv_at hl 3 rfl) ?_
  refine m_put S hG 65 67 10 rfl 10 x_3 ec_67 cpX10 wm_568 dX10_close_64 (pf_67_10) (Nat.lt_of_lt_of_le (Nat.le_of_ble_eq_true rfl) hn) (by decide) (Nat.le_of_ble_eq_true rfl) rfl rfl rfl (fun H locs S_10 eS_10 hG => ?_)
  replace hM := nx_at hM eS_10
  clear eS_10
  refine lv_iload hx hb dX10_close_67 (lv_at hl 1 rfl) ?_
  obtain ⟨hg_11, hM⟩ := gd_some hM
  refine gi_if_le (tgt := 78) hx hb dX10_close_69 (by decide) hg_11 (fun c_12 => ?_) (fun c_12 => ?_)
  · replace hM := ifp hM c_12
    refine lv_iload hx hb dX10_close_78 (lv_at hl 0 rfl) ?_
    refine lv_bipush (v := iI 6) hx hb dX10_close_80 (by decide) ?_
    obtain ⟨t_13, hc_14, hM⟩ := bd1_some hM
    have hK_15 : ∀ (H : Heap) (locs : List Loc) (ls : Array Slot), t_13 = 0 → gW D cy b n s H locs (enc b cy X S_10) → lv_has ls 6 [(0, .ref (b + 65))] → W p l e (gRm 3 0 0) s m args below meth c H locs 0 0 (gQV D cy b s args below 0 0 (fun u => u = (n, enc b cy X o1))) (F0 m 90 ls []) := by
      intro H locs ls ht hG hl
      subst ht
      replace hM := ifp hM rfl
      refine lv_aload_n hx hb dX10_close_90 rfl (lv_at hl 0 rfl) ?_
      refine lv_iconst (v := iI 0) hx hb dX10_close_91 (by decide) ?_
      refine m_put S hG 65 67 6 rfl 6 0 ec_67 cpX10 wm_564 dX10_close_92 (pf_67_6) (Nat.lt_of_lt_of_le (Nat.le_of_ble_eq_true rfl) hn) (by decide) (Nat.le_of_ble_eq_true rfl) rfl rfl rfl (fun H locs S_16 eS_16 hG => ?_)
      replace hM := nx_at hM eS_16
      clear eS_16
      refine lv_goto (tgt := 143) hx hb dX10_close_95 (by decide) ?_
      cases hM
      exact g_vret S hr hlk hG hsz dX10_close_143 ⟨Nat.le_of_ble_eq_true rfl, Nat.le_of_ble_eq_true rfl⟩ rfl
    have hK_17 : ∀ (H : Heap) (locs : List Loc) (ls : Array Slot), t_13 = 1 → gW D cy b n s H locs (enc b cy X S_10) → lv_has ls 6 [(5, .int (iI x_7)), (3, .int (iI x_4)), (2, .int (iI x_3)), (0, .ref (b + 65))] → W p l e (gRm 3 0 0) s m args below meth c H locs 0 0 (gQV D cy b s args below 0 0 (fun u => u = (n, enc b cy X o1))) (F0 m 98 ls []) := by
      intro H locs ls ht hG hl
      subst ht
      replace hM := ifn hM (by decide)
      refine lv_iload hx hb dX10_close_98 (lv_at hl 0 rfl) ?_
      refine lv_iconst (v := iI 4) hx hb dX10_close_100 (by decide) ?_
      obtain ⟨t_18, hc_19, hM⟩ := bd1_some hM
      have hK_20 : ∀ (H : Heap) (locs : List Loc) (ls : Array Slot), t_18 = 0 → gW D cy b n s H locs (enc b cy X S_10) → lv_has ls 6 [(5, .int (iI x_7)), (3, .int (iI x_4)), (2, .int (iI x_3)), (0, .ref (b + 65))] → W p l e (gRm 3 0 0) s m args below meth c H locs 0 0 (gQV D cy b s args below 0 0 (fun u => u = (n, enc b cy X o1))) (F0 m 110 ls []) := by
        intro H locs ls ht hG hl
        subst ht
        replace hM := ifp hM rfl
        refine lv_aload_n hx hb dX10_close_110 rfl (lv_at hl 3 rfl) ?_
        refine lv_iload_n hx hb dX10_close_111 rfl (lv_at hl 2 rfl) ?_
        refine lv_iload_n hx hb dX10_close_112 rfl (lv_at hl 1 rfl) ?_
        refine lv_iload hx hb dX10_close_113 (lv_at hl 0 rfl) ?_
        refine lv_iconst (v := iI 5) hx hb dX10_close_115 (by decide) ?_
        obtain ⟨hg_21, hM⟩ := gd_some hM
        refine gi_icmp_ne (tgt := 123) hx hb dX10_close_116 (by decide) hg_21 (by decide) (fun c_22 => ?_) (fun c_22 => ?_)
        · replace hM := ifn hM c_22
          refine lv_iconst (v := iI 0) hx hb dX10_close_123 (by decide) ?_
          obtain ⟨S_24, hc_23, hM⟩ := bd1_some hM
          refine g_vv (As := [.int (iI x_3), .int (iI x_4), .int (iI 0)]) (rest := []) S hG hsz (vX10_sort l hn x_3 x_4 0 hc_23) wV_10_124 (ec_67 _) cpX10 (Nat.lt_of_lt_of_le (Nat.le_of_ble_eq_true rfl) hn) dX10_close_124 rfl hl.1 (ar := 3) (by decide +kernel) rfl ⟨Nat.le_of_ble_eq_true rfl, Nat.le_of_ble_eq_true rfl, Nat.le_of_ble_eq_true rfl, Nat.le_of_ble_eq_true rfl⟩ (Nat.le_of_ble_eq_true rfl) (fun uu H locs hp hG => ?_)
          obtain rfl := hp
          replace hG : gW D cy b n s H locs (enc b cy X S_24) := hG
          refine lv_goto (tgt := 143) hx hb dX10_close_127 (by decide) ?_
          cases hM
          exact g_vret S hr hlk hG hsz dX10_close_143 ⟨Nat.le_of_ble_eq_true rfl, Nat.le_of_ble_eq_true rfl⟩ rfl
        · replace hM := ifp hM c_22
          refine lv_iconst (v := iI 1) hx hb dX10_close_119 (by decide) ?_
          refine lv_goto (tgt := 124) hx hb dX10_close_120 (by decide) ?_
          obtain ⟨S_26, hc_25, hM⟩ := bd1_some hM
          refine g_vv (As := [.int (iI x_3), .int (iI x_4), .int (iI 1)]) (rest := []) S hG hsz (vX10_sort l hn x_3 x_4 1 hc_25) wV_10_124 (ec_67 _) cpX10 (Nat.lt_of_lt_of_le (Nat.le_of_ble_eq_true rfl) hn) dX10_close_124 rfl hl.1 (ar := 3) (by decide +kernel) rfl ⟨Nat.le_of_ble_eq_true rfl, Nat.le_of_ble_eq_true rfl, Nat.le_of_ble_eq_true rfl, Nat.le_of_ble_eq_true rfl⟩ (Nat.le_of_ble_eq_true rfl) (fun uu H locs hp hG => ?_)
          obtain rfl := hp
          replace hG : gW D cy b n s H locs (enc b cy X S_26) := hG
          refine lv_goto (tgt := 143) hx hb dX10_close_127 (by decide) ?_
          cases hM
          exact g_vret S hr hlk hG hsz dX10_close_143 ⟨Nat.le_of_ble_eq_true rfl, Nat.le_of_ble_eq_true rfl⟩ rfl
      have hK_27 : ∀ (H : Heap) (locs : List Loc) (ls : Array Slot), t_18 = 1 → gW D cy b n s H locs (enc b cy X S_10) → lv_has ls 6 [(5, .int (iI x_7)), (3, .int (iI x_4)), (2, .int (iI x_3)), (0, .ref (b + 65))] → W p l e (gRm 3 0 0) s m args below meth c H locs 0 0 (gQV D cy b s args below 0 0 (fun u => u = (n, enc b cy X o1))) (F0 m 130 ls []) := by
        intro H locs ls ht hG hl
        subst ht
        replace hM := ifn hM (by decide)
        refine lv_iload hx hb dX10_close_130 (lv_at hl 0 rfl) ?_
        refine lv_bipush (v := iI 6) hx hb dX10_close_132 (by decide) ?_
        obtain ⟨hg_28, hM⟩ := gd_some hM
        refine gi_icmp_ne (tgt := 143) hx hb dX10_close_134 (by decide) hg_28 (by decide) (fun c_29 => ?_) (fun c_29 => ?_)
        · replace hM := ifn hM c_29
          cases hM
          exact g_vret S hr hlk hG hsz dX10_close_143 ⟨Nat.le_of_ble_eq_true rfl, Nat.le_of_ble_eq_true rfl⟩ rfl
        · replace hM := ifp hM c_29
          refine lv_aload_n hx hb dX10_close_137 rfl (lv_at hl 3 rfl) ?_
          refine lv_iload_n hx hb dX10_close_138 rfl (lv_at hl 2 rfl) ?_
          refine lv_iload_n hx hb dX10_close_139 rfl (lv_at hl 1 rfl) ?_
          obtain ⟨S_31, hc_30, hM⟩ := bd1_some hM
          refine g_vv (As := [.int (iI x_3), .int (iI x_4)]) (rest := []) S hG hsz (vX10_turn l hn x_3 x_4 hc_30) wV_10_128 (ec_67 _) cpX10 (Nat.lt_of_lt_of_le (Nat.le_of_ble_eq_true rfl) hn) dX10_close_140 rfl hl.1 (ar := 2) (by decide +kernel) rfl ⟨Nat.le_of_ble_eq_true rfl, Nat.le_of_ble_eq_true rfl, Nat.le_of_ble_eq_true rfl, Nat.le_of_ble_eq_true rfl⟩ (Nat.le_of_ble_eq_true rfl) (fun uu H locs hp hG => ?_)
          obtain rfl := hp
          replace hG : gW D cy b n s H locs (enc b cy X S_31) := hG
          cases hM
          exact g_vret S hr hlk hG hsz dX10_close_143 ⟨Nat.le_of_ble_eq_true rfl, Nat.le_of_ble_eq_true rfl⟩ rfl
      clear hM
      replace hM := hc_19
      obtain ⟨hg_32, hM⟩ := gd_some hM
      refine gi_icmp_eq (tgt := 110) hx hb dX10_close_101 (by decide) hg_32 (by decide) (fun c_33 => ?_) (fun c_33 => ?_)
      · replace hM := ifp hM c_33
        cases hM
        exact hK_20 H locs ls rfl hG (lv_sub hl [0, 1, 2, 3] rfl)
      · replace hM := ifn hM c_33
        refine lv_iload hx hb dX10_close_104 (lv_at hl 0 rfl) ?_
        refine lv_iconst (v := iI 5) hx hb dX10_close_106 (by decide) ?_
        refine gi_icmp_ne (tgt := 130) hx hb dX10_close_107 (by decide) hg_32 (by decide) (fun c_34 => ?_) (fun c_34 => ?_)
        · replace hM := ifn hM c_34
          cases hM
          exact hK_27 H locs ls rfl hG (lv_sub hl [0, 1, 2, 3] rfl)
        · replace hM := ifp hM c_34
          cases hM
          exact hK_20 H locs ls rfl hG (lv_sub hl [0, 1, 2, 3] rfl)
    clear hM
    replace hM := hc_14
    obtain ⟨hg_35, hM⟩ := gd_some hM
    refine gi_icmp_ne (tgt := 98) hx hb dX10_close_82 (by decide) hg_35 (by decide) (fun c_36 => ?_) (fun c_36 => ?_)
    · replace hM := ifn hM c_36
      cases hM
      exact hK_17 H locs ls rfl hG (lv_sub hl [0, 2, 3, 4] rfl)
    · replace hM := ifp hM c_36
      refine lv_iload_n hx hb dX10_close_85 rfl (lv_at hl 2 rfl) ?_
      refine lv_iconst (v := iI 1) hx hb dX10_close_86 (by decide) ?_
      obtain ⟨hg_37, hM⟩ := gd_some hM
      refine gi_icmp_ge (tgt := 98) hx hb dX10_close_87 (by decide) hg_37 (by decide) (fun c_38 => ?_) (fun c_38 => ?_)
      · replace hM := ifp hM c_38
        cases hM
        exact hK_17 H locs ls rfl hG (lv_sub hl [0, 2, 3, 4] rfl)
      · replace hM := ifn hM c_38
        cases hM
        exact hK_15 H locs ls rfl hG (lv_sub hl [4] rfl)
  · replace hM := ifn hM c_12
    refine lv_iload_n hx hb dX10_close_72 rfl (lv_at hl 2 rfl) ?_
    refine lv_iload hx hb dX10_close_73 (lv_at hl 1 rfl) ?_
    obtain ⟨hg_39, hM⟩ := gd_some hM
    refine gi_icmp_ne (tgt := 90) hx hb dX10_close_75 (by decide) hg_39 hg_11 (fun c_40 => ?_) (fun c_40 => ?_)
    · replace hM := ifn hM c_40
      refine lv_aload_n hx hb dX10_close_90 rfl (lv_at hl 4 rfl) ?_
      refine lv_iconst (v := iI 0) hx hb dX10_close_91 (by decide) ?_
      refine m_put S hG 65 67 6 rfl 6 0 ec_67 cpX10 wm_564 dX10_close_92 (pf_67_6) (Nat.lt_of_lt_of_le (Nat.le_of_ble_eq_true rfl) hn) (by decide) (Nat.le_of_ble_eq_true rfl) rfl rfl rfl (fun H locs S_41 eS_41 hG => ?_)
      replace hM := nx_at hM eS_41
      clear eS_41
      refine lv_goto (tgt := 143) hx hb dX10_close_95 (by decide) ?_
      cases hM
      exact g_vret S hr hlk hG hsz dX10_close_143 ⟨Nat.le_of_ble_eq_true rfl, Nat.le_of_ble_eq_true rfl⟩ rfl
    · replace hM := ifp hM c_40
      refine lv_iload hx hb dX10_close_78 (lv_at hl 0 rfl) ?_
      refine lv_bipush (v := iI 6) hx hb dX10_close_80 (by decide) ?_
      obtain ⟨t_42, hc_43, hM⟩ := bd1_some hM
      have hK_44 : ∀ (H : Heap) (locs : List Loc) (ls : Array Slot), t_42 = 0 → gW D cy b n s H locs (enc b cy X S_10) → lv_has ls 6 [(0, .ref (b + 65))] → W p l e (gRm 3 0 0) s m args below meth c H locs 0 0 (gQV D cy b s args below 0 0 (fun u => u = (n, enc b cy X o1))) (F0 m 90 ls []) := by
        intro H locs ls ht hG hl
        subst ht
        replace hM := ifp hM rfl
        refine lv_aload_n hx hb dX10_close_90 rfl (lv_at hl 0 rfl) ?_
        refine lv_iconst (v := iI 0) hx hb dX10_close_91 (by decide) ?_
        refine m_put S hG 65 67 6 rfl 6 0 ec_67 cpX10 wm_564 dX10_close_92 (pf_67_6) (Nat.lt_of_lt_of_le (Nat.le_of_ble_eq_true rfl) hn) (by decide) (Nat.le_of_ble_eq_true rfl) rfl rfl rfl (fun H locs S_45 eS_45 hG => ?_)
        replace hM := nx_at hM eS_45
        clear eS_45
        refine lv_goto (tgt := 143) hx hb dX10_close_95 (by decide) ?_
        cases hM
        exact g_vret S hr hlk hG hsz dX10_close_143 ⟨Nat.le_of_ble_eq_true rfl, Nat.le_of_ble_eq_true rfl⟩ rfl
      have hK_46 : ∀ (H : Heap) (locs : List Loc) (ls : Array Slot), t_42 = 1 → gW D cy b n s H locs (enc b cy X S_10) → lv_has ls 6 [(5, .int (iI x_7)), (3, .int (iI x_4)), (2, .int (iI x_3)), (0, .ref (b + 65))] → W p l e (gRm 3 0 0) s m args below meth c H locs 0 0 (gQV D cy b s args below 0 0 (fun u => u = (n, enc b cy X o1))) (F0 m 98 ls []) := by
        intro H locs ls ht hG hl
        subst ht
        replace hM := ifn hM (by decide)
        refine lv_iload hx hb dX10_close_98 (lv_at hl 0 rfl) ?_
        refine lv_iconst (v := iI 4) hx hb dX10_close_100 (by decide) ?_
        obtain ⟨t_47, hc_48, hM⟩ := bd1_some hM
        have hK_49 : ∀ (H : Heap) (locs : List Loc) (ls : Array Slot), t_47 = 0 → gW D cy b n s H locs (enc b cy X S_10) → lv_has ls 6 [(5, .int (iI x_7)), (3, .int (iI x_4)), (2, .int (iI x_3)), (0, .ref (b + 65))] → W p l e (gRm 3 0 0) s m args below meth c H locs 0 0 (gQV D cy b s args below 0 0 (fun u => u = (n, enc b cy X o1))) (F0 m 110 ls []) := by
          intro H locs ls ht hG hl
          subst ht
          replace hM := ifp hM rfl
          refine lv_aload_n hx hb dX10_close_110 rfl (lv_at hl 3 rfl) ?_
          refine lv_iload_n hx hb dX10_close_111 rfl (lv_at hl 2 rfl) ?_
          refine lv_iload_n hx hb dX10_close_112 rfl (lv_at hl 1 rfl) ?_
          refine lv_iload hx hb dX10_close_113 (lv_at hl 0 rfl) ?_
          refine lv_iconst (v := iI 5) hx hb dX10_close_115 (by decide) ?_
          obtain ⟨hg_50, hM⟩ := gd_some hM
          refine gi_icmp_ne (tgt := 123) hx hb dX10_close_116 (by decide) hg_50 (by decide) (fun c_51 => ?_) (fun c_51 => ?_)
          · replace hM := ifn hM c_51
            refine lv_iconst (v := iI 0) hx hb dX10_close_123 (by decide) ?_
            obtain ⟨S_53, hc_52, hM⟩ := bd1_some hM
            refine g_vv (As := [.int (iI x_3), .int (iI x_4), .int (iI 0)]) (rest := []) S hG hsz (vX10_sort l hn x_3 x_4 0 hc_52) wV_10_124 (ec_67 _) cpX10 (Nat.lt_of_lt_of_le (Nat.le_of_ble_eq_true rfl) hn) dX10_close_124 rfl hl.1 (ar := 3) (by decide +kernel) rfl ⟨Nat.le_of_ble_eq_true rfl, Nat.le_of_ble_eq_true rfl, Nat.le_of_ble_eq_true rfl, Nat.le_of_ble_eq_true rfl⟩ (Nat.le_of_ble_eq_true rfl) (fun uu H locs hp hG => ?_)
            obtain rfl := hp
            replace hG : gW D cy b n s H locs (enc b cy X S_53) := hG
            refine lv_goto (tgt := 143) hx hb dX10_close_127 (by decide) ?_
            cases hM
            exact g_vret S hr hlk hG hsz dX10_close_143 ⟨Nat.le_of_ble_eq_true rfl, Nat.le_of_ble_eq_true rfl⟩ rfl
          · replace hM := ifp hM c_51
            refine lv_iconst (v := iI 1) hx hb dX10_close_119 (by decide) ?_
            refine lv_goto (tgt := 124) hx hb dX10_close_120 (by decide) ?_
            obtain ⟨S_55, hc_54, hM⟩ := bd1_some hM
            refine g_vv (As := [.int (iI x_3), .int (iI x_4), .int (iI 1)]) (rest := []) S hG hsz (vX10_sort l hn x_3 x_4 1 hc_54) wV_10_124 (ec_67 _) cpX10 (Nat.lt_of_lt_of_le (Nat.le_of_ble_eq_true rfl) hn) dX10_close_124 rfl hl.1 (ar := 3) (by decide +kernel) rfl ⟨Nat.le_of_ble_eq_true rfl, Nat.le_of_ble_eq_true rfl, Nat.le_of_ble_eq_true rfl, Nat.le_of_ble_eq_true rfl⟩ (Nat.le_of_ble_eq_true rfl) (fun uu H locs hp hG => ?_)
            obtain rfl := hp
            replace hG : gW D cy b n s H locs (enc b cy X S_55) := hG
            refine lv_goto (tgt := 143) hx hb dX10_close_127 (by decide) ?_
            cases hM
            exact g_vret S hr hlk hG hsz dX10_close_143 ⟨Nat.le_of_ble_eq_true rfl, Nat.le_of_ble_eq_true rfl⟩ rfl
        have hK_56 : ∀ (H : Heap) (locs : List Loc) (ls : Array Slot), t_47 = 1 → gW D cy b n s H locs (enc b cy X S_10) → lv_has ls 6 [(5, .int (iI x_7)), (3, .int (iI x_4)), (2, .int (iI x_3)), (0, .ref (b + 65))] → W p l e (gRm 3 0 0) s m args below meth c H locs 0 0 (gQV D cy b s args below 0 0 (fun u => u = (n, enc b cy X o1))) (F0 m 130 ls []) := by
          intro H locs ls ht hG hl
          subst ht
          replace hM := ifn hM (by decide)
          refine lv_iload hx hb dX10_close_130 (lv_at hl 0 rfl) ?_
          refine lv_bipush (v := iI 6) hx hb dX10_close_132 (by decide) ?_
          obtain ⟨hg_57, hM⟩ := gd_some hM
          refine gi_icmp_ne (tgt := 143) hx hb dX10_close_134 (by decide) hg_57 (by decide) (fun c_58 => ?_) (fun c_58 => ?_)
          · replace hM := ifn hM c_58
            cases hM
            exact g_vret S hr hlk hG hsz dX10_close_143 ⟨Nat.le_of_ble_eq_true rfl, Nat.le_of_ble_eq_true rfl⟩ rfl
          · replace hM := ifp hM c_58
            refine lv_aload_n hx hb dX10_close_137 rfl (lv_at hl 3 rfl) ?_
            refine lv_iload_n hx hb dX10_close_138 rfl (lv_at hl 2 rfl) ?_
            refine lv_iload_n hx hb dX10_close_139 rfl (lv_at hl 1 rfl) ?_
            obtain ⟨S_60, hc_59, hM⟩ := bd1_some hM
            refine g_vv (As := [.int (iI x_3), .int (iI x_4)]) (rest := []) S hG hsz (vX10_turn l hn x_3 x_4 hc_59) wV_10_128 (ec_67 _) cpX10 (Nat.lt_of_lt_of_le (Nat.le_of_ble_eq_true rfl) hn) dX10_close_140 rfl hl.1 (ar := 2) (by decide +kernel) rfl ⟨Nat.le_of_ble_eq_true rfl, Nat.le_of_ble_eq_true rfl, Nat.le_of_ble_eq_true rfl, Nat.le_of_ble_eq_true rfl⟩ (Nat.le_of_ble_eq_true rfl) (fun uu H locs hp hG => ?_)
            obtain rfl := hp
            replace hG : gW D cy b n s H locs (enc b cy X S_60) := hG
            cases hM
            exact g_vret S hr hlk hG hsz dX10_close_143 ⟨Nat.le_of_ble_eq_true rfl, Nat.le_of_ble_eq_true rfl⟩ rfl
        clear hM
        replace hM := hc_48
        obtain ⟨hg_61, hM⟩ := gd_some hM
        refine gi_icmp_eq (tgt := 110) hx hb dX10_close_101 (by decide) hg_61 (by decide) (fun c_62 => ?_) (fun c_62 => ?_)
        · replace hM := ifp hM c_62
          cases hM
          exact hK_49 H locs ls rfl hG (lv_sub hl [0, 1, 2, 3] rfl)
        · replace hM := ifn hM c_62
          refine lv_iload hx hb dX10_close_104 (lv_at hl 0 rfl) ?_
          refine lv_iconst (v := iI 5) hx hb dX10_close_106 (by decide) ?_
          refine gi_icmp_ne (tgt := 130) hx hb dX10_close_107 (by decide) hg_61 (by decide) (fun c_63 => ?_) (fun c_63 => ?_)
          · replace hM := ifn hM c_63
            cases hM
            exact hK_56 H locs ls rfl hG (lv_sub hl [0, 1, 2, 3] rfl)
          · replace hM := ifp hM c_63
            cases hM
            exact hK_49 H locs ls rfl hG (lv_sub hl [0, 1, 2, 3] rfl)
      clear hM
      replace hM := hc_43
      obtain ⟨hg_64, hM⟩ := gd_some hM
      refine gi_icmp_ne (tgt := 98) hx hb dX10_close_82 (by decide) hg_64 (by decide) (fun c_65 => ?_) (fun c_65 => ?_)
      · replace hM := ifn hM c_65
        cases hM
        exact hK_46 H locs ls rfl hG (lv_sub hl [0, 2, 3, 4] rfl)
      · replace hM := ifp hM c_65
        refine lv_iload_n hx hb dX10_close_85 rfl (lv_at hl 2 rfl) ?_
        refine lv_iconst (v := iI 1) hx hb dX10_close_86 (by decide) ?_
        refine gi_icmp_ge (tgt := 98) hx hb dX10_close_87 (by decide) hg_39 (by decide) (fun c_66 => ?_) (fun c_66 => ?_)
        · replace hM := ifp hM c_66
          cases hM
          exact hK_46 H locs ls rfl hG (lv_sub hl [0, 2, 3, 4] rfl)
        · replace hM := ifn hM c_66
          cases hM
          exact hK_44 H locs ls rfl hG (lv_sub hl [4] rfl)
def mX10_goOn (S0 : St) (a1 : Int) : Option (St) := bd1 (mX10_peek S0) fun r_2 => gd (0 ≤ a1 ∧ a1 < 24) <| bd1 (mX11_closeSign (S0 3 a1)) fun r_5 => gd ((inI r_2) ∧ (inI r_5)) <| if r_2 = r_5 then (bd1 (mX10_close S0 a1) fun S_22 => nx (up S_22 67 4 ((S_22 67 4) + 1)) fun S_23 => some (S_23)) else (bd2 (mX10_mayAwait S0 2) fun r_9 S_10 => gd (inI r_9) <| if r_9 = 0 then (some (S_10)) else (gd (0 ≤ (S_10 67 10) ∧ (S_10 67 10) < 41) <| nx (up S_10 71 (S_10 67 10) (S_10 67 4)) fun S_14 => nx (up S_14 67 10 ((S_14 67 10) + 1)) fun S_15 => gd (0 ≤ (S_15 67 8) ∧ (S_15 67 8) < 40) <| nx (up S_15 70 (S_15 67 8) ((-a1) - 1)) fun S_17 => gd (0 ≤ ((S_17 67 8) + 1) ∧ ((S_17 67 8) + 1) < 40) <| nx (up S_17 70 ((S_17 67 8) + 1) (S_17 5 a1)) fun S_19 => nx (up S_19 67 8 ((S_19 67 8) + 2)) fun S_20 => some (S_20)))
set_option maxHeartbeats 4000000 in
set_option maxRecDepth 100000 in
theorem vX10_goOn (l : Launch) {D : va_G} {cy : Nat → ClassId} {b n : Nat} (hn : 102 ≤ n) {X : Nat → va_E} {S0 : St} (a1 : Int) {o1 : St} (hM : mX10_goOn S0 a1 = some o1) : gV l yX10_goOn cX10_goOn 2 4 0 0 D cy b n (enc b cy X S0) [.ref (b + 65), .int (iI a1)] (fun u => u = (n, enc b cy X o1)) := by
  refine gV_of (by decide) (Nat.le_of_ble_eq_true rfl) ?_
  intro p e s m args below meth c S hr hlk hin hsz ls hl hG
  have hx := S.1
  have hb := S.2.1
  have hl : lv_has ls 2 [(0, .ref (b + 65)), (1, .int (iI a1))] := hl
  replace hG : gW D cy b n s s.heap [] (enc b cy X S0) := hG
  obtain ⟨H, eH⟩ : ∃ H, H = s.heap := ⟨_, rfl⟩
  obtain ⟨locs, elocs⟩ : ∃ locs : List Loc, locs = [] := ⟨_, rfl⟩
  rw [← eH, ← elocs] at hG
  rw [← eH, ← elocs]
  clear eH elocs
  unfold mX10_goOn at hM
  refine lv_aload_n hx hb dX10_goOn_0 rfl (lv_at hl 0 rfl) ?_
  obtain ⟨r_2, hc_1, hM⟩ := bd1_some hM
  refine g_vi (As := []) (rest := []) S hG hsz (vX10_peek l hn  hc_1) wV_10_72 (ec_67 _) cpX10 (Nat.lt_of_lt_of_le (Nat.le_of_ble_eq_true rfl) hn) dX10_goOn_1 rfl hl.1 (ar := 0) (by decide +kernel) rfl ⟨Nat.le_of_ble_eq_true rfl, Nat.le_of_ble_eq_true rfl, Nat.le_of_ble_eq_true rfl, Nat.le_of_ble_eq_true rfl⟩ (Nat.le_of_ble_eq_true rfl) (fun rv uu H locs hp hG => ?_)
  obtain ⟨rfl, rfl⟩ := hp
  replace hG : gW D cy b n s H locs (enc b cy X S0) := hG
  refine lv_aload_n hx hb dX10_goOn_4 rfl (lv_at hl 0 rfl) ?_
  refine m_get S hG 65 67 0 rfl ec_67 cpX10 wm_557 dX10_goOn_5 rfl (Nat.lt_of_lt_of_le (Nat.le_of_ble_eq_true rfl) hn) (by decide) ?_
  refine m_get S hG 2 2 5 rfl ec_2 cpX2 wm_237 dX10_goOn_8 rfl (Nat.lt_of_lt_of_le (Nat.le_of_ble_eq_true rfl) hn) (by decide) ?_
  refine lv_iload_n hx hb dX10_goOn_11 rfl (lv_at hl 1 rfl) ?_
  obtain ⟨hg_3, hM⟩ := gd_some hM
  refine mi_ald S hG 3 3 rfl ec_3 (Nat.lt_of_lt_of_le (Nat.le_of_ble_eq_true rfl) hn) dX10_goOn_12 hg_3 (by decide) ?_
  obtain ⟨r_5, hc_4, hM⟩ := bd1_some hM
  refine g_siN (As := [.int (iI (S0 3 a1))]) (rest := [.int (iI r_2)]) S hG hsz (vX11_closeSign l hn (S0 3 a1) hc_4) (y := yX11_closeSign) (host := "GrownKinds") (by decide +kernel) ⟨wm_1344, wm_177, wm_1345, by decide +kernel, by decide +kernel⟩ dX10_goOn_13 rfl hl.1 (ar := 1) (by decide +kernel) rfl ⟨Nat.le_of_ble_eq_true rfl, Nat.le_of_ble_eq_true rfl, Nat.le_of_ble_eq_true rfl, Nat.le_of_ble_eq_true rfl⟩ (Nat.le_of_ble_eq_true rfl) (fun rv uu H locs hp hG => ?_)
  obtain ⟨rfl, rfl⟩ := hp
  replace hG : gW D cy b n s H locs (enc b cy X S0) := hG
  obtain ⟨hg_6, hM⟩ := gd_some hM
  refine gi_icmp_ne (tgt := 37) hx hb dX10_goOn_16 (by decide) hg_6.1 hg_6.2 (fun c_7 => ?_) (fun c_7 => ?_)
  · replace hM := ifn hM c_7
    refine lv_aload_n hx hb dX10_goOn_37 rfl (lv_at hl 0 rfl) ?_
    refine lv_iconst (v := iI 2) hx hb dX10_goOn_38 (by decide) ?_
    obtain ⟨r_9, S_10, hc_8, hM⟩ := bd2_some hM
    refine g_vi (As := [.int (iI 2)]) (rest := []) S hG hsz (vX10_mayAwait l hn 2 hc_8) wV_10_92 (ec_67 _) cpX10 (Nat.lt_of_lt_of_le (Nat.le_of_ble_eq_true rfl) hn) dX10_goOn_39 rfl hl.1 (ar := 1) (by decide +kernel) rfl ⟨Nat.le_of_ble_eq_true rfl, Nat.le_of_ble_eq_true rfl, Nat.le_of_ble_eq_true rfl, Nat.le_of_ble_eq_true rfl⟩ (Nat.le_of_ble_eq_true rfl) (fun rv uu H locs hp hG => ?_)
    obtain ⟨rfl, rfl⟩ := hp
    replace hG : gW D cy b n s H locs (enc b cy X S_10) := hG
    obtain ⟨hg_11, hM⟩ := gd_some hM
    refine gi_if_eq (tgt := 111) hx hb dX10_goOn_42 (by decide) hg_11 (fun c_12 => ?_) (fun c_12 => ?_)
    · replace hM := ifp hM c_12
      cases hM
      exact g_vret S hr hlk hG hsz dX10_goOn_111 ⟨Nat.le_of_ble_eq_true rfl, Nat.le_of_ble_eq_true rfl⟩ rfl
    · replace hM := ifn hM c_12
      refine lv_aload_n hx hb dX10_goOn_45 rfl (lv_at hl 0 rfl) ?_
      refine m_get S hG 65 67 9 rfl ec_67 cpX10 wm_567 dX10_goOn_46 rfl (Nat.lt_of_lt_of_le (Nat.le_of_ble_eq_true rfl) hn) (by decide) ?_
      refine lv_aload_n hx hb dX10_goOn_49 rfl (lv_at hl 0 rfl) ?_
      refine m_get S hG 65 67 10 rfl ec_67 cpX10 wm_568 dX10_goOn_50 rfl (Nat.lt_of_lt_of_le (Nat.le_of_ble_eq_true rfl) hn) (by decide) ?_
      refine lv_aload_n hx hb dX10_goOn_53 rfl (lv_at hl 0 rfl) ?_
      refine m_get S hG 65 67 4 rfl ec_67 cpX10 wm_562 dX10_goOn_54 rfl (Nat.lt_of_lt_of_le (Nat.le_of_ble_eq_true rfl) hn) (by decide) ?_
      obtain ⟨hg_13, hM⟩ := gd_some hM
      refine mi_ast S hG 69 71 rfl ec_71 (Nat.lt_of_lt_of_le (Nat.le_of_ble_eq_true rfl) hn) dX10_goOn_57 hg_13 (by decide) (fun H locs S_14 eS_14 hG => ?_)
      replace hM := nx_at hM eS_14
      clear eS_14
      refine lv_aload_n hx hb dX10_goOn_58 rfl (lv_at hl 0 rfl) ?_
      refine lv_dup hx hb dX10_goOn_59 rfl ?_
      refine m_get S hG 65 67 10 rfl ec_67 cpX10 wm_568 dX10_goOn_60 rfl (Nat.lt_of_lt_of_le (Nat.le_of_ble_eq_true rfl) hn) (by decide) ?_
      refine lv_iconst (v := iI 1) hx hb dX10_goOn_63 (by decide) ?_
      refine gi_add hx hb dX10_goOn_64 ?_
      refine m_put S hG 65 67 10 rfl 10 ((S_14 67 10) + 1) ec_67 cpX10 wm_568 dX10_goOn_65 (pf_67_10) (Nat.lt_of_lt_of_le (Nat.le_of_ble_eq_true rfl) hn) (by decide) (Nat.le_of_ble_eq_true rfl) rfl rfl rfl (fun H locs S_15 eS_15 hG => ?_)
      replace hM := nx_at hM eS_15
      clear eS_15
      refine lv_aload_n hx hb dX10_goOn_68 rfl (lv_at hl 0 rfl) ?_
      refine m_get S hG 65 67 7 rfl ec_67 cpX10 wm_565 dX10_goOn_69 rfl (Nat.lt_of_lt_of_le (Nat.le_of_ble_eq_true rfl) hn) (by decide) ?_
      refine lv_aload_n hx hb dX10_goOn_72 rfl (lv_at hl 0 rfl) ?_
      refine m_get S hG 65 67 8 rfl ec_67 cpX10 wm_566 dX10_goOn_73 rfl (Nat.lt_of_lt_of_le (Nat.le_of_ble_eq_true rfl) hn) (by decide) ?_
      refine lv_iload_n hx hb dX10_goOn_76 rfl (lv_at hl 1 rfl) ?_
      refine gi_neg hx hb dX10_goOn_77 ?_
      refine lv_iconst (v := iI 1) hx hb dX10_goOn_78 (by decide) ?_
      refine gi_sub hx hb dX10_goOn_79 ?_
      obtain ⟨hg_16, hM⟩ := gd_some hM
      refine mi_ast S hG 68 70 rfl ec_70 (Nat.lt_of_lt_of_le (Nat.le_of_ble_eq_true rfl) hn) dX10_goOn_80 hg_16 (by decide) (fun H locs S_17 eS_17 hG => ?_)
      replace hM := nx_at hM eS_17
      clear eS_17
      refine lv_aload_n hx hb dX10_goOn_81 rfl (lv_at hl 0 rfl) ?_
      refine m_get S hG 65 67 7 rfl ec_67 cpX10 wm_565 dX10_goOn_82 rfl (Nat.lt_of_lt_of_le (Nat.le_of_ble_eq_true rfl) hn) (by decide) ?_
      refine lv_aload_n hx hb dX10_goOn_85 rfl (lv_at hl 0 rfl) ?_
      refine m_get S hG 65 67 8 rfl ec_67 cpX10 wm_566 dX10_goOn_86 rfl (Nat.lt_of_lt_of_le (Nat.le_of_ble_eq_true rfl) hn) (by decide) ?_
      refine lv_iconst (v := iI 1) hx hb dX10_goOn_89 (by decide) ?_
      refine gi_add hx hb dX10_goOn_90 ?_
      refine lv_aload_n hx hb dX10_goOn_91 rfl (lv_at hl 0 rfl) ?_
      refine m_get S hG 65 67 0 rfl ec_67 cpX10 wm_557 dX10_goOn_92 rfl (Nat.lt_of_lt_of_le (Nat.le_of_ble_eq_true rfl) hn) (by decide) ?_
      refine m_get S hG 2 2 7 rfl ec_2 cpX2 wm_250 dX10_goOn_95 rfl (Nat.lt_of_lt_of_le (Nat.le_of_ble_eq_true rfl) hn) (by decide) ?_
      refine lv_iload_n hx hb dX10_goOn_98 rfl (lv_at hl 1 rfl) ?_
      refine mi_ald S hG 5 5 rfl ec_5 (Nat.lt_of_lt_of_le (Nat.le_of_ble_eq_true rfl) hn) dX10_goOn_99 hg_3 (by decide) ?_
      obtain ⟨hg_18, hM⟩ := gd_some hM
      refine mi_ast S hG 68 70 rfl ec_70 (Nat.lt_of_lt_of_le (Nat.le_of_ble_eq_true rfl) hn) dX10_goOn_100 hg_18 (by decide) (fun H locs S_19 eS_19 hG => ?_)
      replace hM := nx_at hM eS_19
      clear eS_19
      refine lv_aload_n hx hb dX10_goOn_101 rfl (lv_at hl 0 rfl) ?_
      refine lv_dup hx hb dX10_goOn_102 rfl ?_
      refine m_get S hG 65 67 8 rfl ec_67 cpX10 wm_566 dX10_goOn_103 rfl (Nat.lt_of_lt_of_le (Nat.le_of_ble_eq_true rfl) hn) (by decide) ?_
      refine lv_iconst (v := iI 2) hx hb dX10_goOn_106 (by decide) ?_
      refine gi_add hx hb dX10_goOn_107 ?_
      refine m_put S hG 65 67 8 rfl 8 ((S_19 67 8) + 2) ec_67 cpX10 wm_566 dX10_goOn_108 (pf_67_8) (Nat.lt_of_lt_of_le (Nat.le_of_ble_eq_true rfl) hn) (by decide) (Nat.le_of_ble_eq_true rfl) rfl rfl rfl (fun H locs S_20 eS_20 hG => ?_)
      replace hM := nx_at hM eS_20
      clear eS_20
      cases hM
      exact g_vret S hr hlk hG hsz dX10_goOn_111 ⟨Nat.le_of_ble_eq_true rfl, Nat.le_of_ble_eq_true rfl⟩ rfl
  · replace hM := ifp hM c_7
    refine lv_aload_n hx hb dX10_goOn_19 rfl (lv_at hl 0 rfl) ?_
    refine lv_iload_n hx hb dX10_goOn_20 rfl (lv_at hl 1 rfl) ?_
    obtain ⟨S_22, hc_21, hM⟩ := bd1_some hM
    refine g_vv (As := [.int (iI a1)]) (rest := []) S hG hsz (vX10_close l hn a1 hc_21) wV_10_118 (ec_67 _) cpX10 (Nat.lt_of_lt_of_le (Nat.le_of_ble_eq_true rfl) hn) dX10_goOn_21 rfl hl.1 (ar := 1) (by decide +kernel) rfl ⟨Nat.le_of_ble_eq_true rfl, Nat.le_of_ble_eq_true rfl, Nat.le_of_ble_eq_true rfl, Nat.le_of_ble_eq_true rfl⟩ (Nat.le_of_ble_eq_true rfl) (fun uu H locs hp hG => ?_)
    obtain rfl := hp
    replace hG : gW D cy b n s H locs (enc b cy X S_22) := hG
    refine lv_aload_n hx hb dX10_goOn_24 rfl (lv_at hl 0 rfl) ?_
    refine lv_dup hx hb dX10_goOn_25 rfl ?_
    refine m_get S hG 65 67 4 rfl ec_67 cpX10 wm_562 dX10_goOn_26 rfl (Nat.lt_of_lt_of_le (Nat.le_of_ble_eq_true rfl) hn) (by decide) ?_
    refine lv_iconst (v := iI 1) hx hb dX10_goOn_29 (by decide) ?_
    refine gi_add hx hb dX10_goOn_30 ?_
    refine m_put S hG 65 67 4 rfl 4 ((S_22 67 4) + 1) ec_67 cpX10 wm_562 dX10_goOn_31 (pf_67_4) (Nat.lt_of_lt_of_le (Nat.le_of_ble_eq_true rfl) hn) (by decide) (Nat.le_of_ble_eq_true rfl) rfl rfl rfl (fun H locs S_23 eS_23 hG => ?_)
    replace hM := nx_at hM eS_23
    clear eS_23
    refine lv_goto (tgt := 111) hx hb dX10_goOn_34 (by decide) ?_
    cases hM
    exact g_vret S hr hlk hG hsz dX10_goOn_111 ⟨Nat.le_of_ble_eq_true rfl, Nat.le_of_ble_eq_true rfl⟩ rfl
def mX10_read_67_1_73  : Nat → Int → St → Option (St)
  | 0, _, _ => none
  | f + 1, v_16, S_17 => gd (inI v_16) <| if 100000 ≤ v_16 then (some (S_17)) else (gd (inI (S_17 67 6)) <| if (S_17 67 6) = 0 then (some (S_17)) else (gd (inI (S_17 67 8)) <| if (S_17 67 8) ≤ 0 then (some (S_17)) else (nx (up S_17 67 8 ((S_17 67 8) - 1)) fun S_36 => gd (0 ≤ (S_36 67 8) ∧ (S_36 67 8) < 40) <| nx (S_36 70 (S_36 67 8)) fun x_38 => gd (inI x_38) <| if 0 ≤ x_38 then (bd1 (mX10_readPart S_36 x_38) fun S_42 => mX10_read_67_1_73 f (v_16 + 1) S_42) else (bd1 (mX10_goOn S_36 ((-x_38) - 1)) fun S_44 => mX10_read_67_1_73 f (v_16 + 1) S_44))))
def mX10_read_67_1 (S0 : St) (a1 : Int) (a3 : Int) : Option (Int × St) := gd (inI a3) <| if a3 < 1 then (some ((-1), S0)) else (if 40 < a3 then (some ((-1), S0)) else (if a3 ≤ 400 then (gd (((0 : Int) ≤ 0 ∧ (0 : Int) ≤ 0 ∧ 0 ≤ a3 ∧ 0 + a3 ≤ 400 ∧ 0 + a3 ≤ 40) ∧ (∀ q : Nat, q < Int.toNat a3 → -128 ≤ S0 1 (0 + q) ∧ S0 1 (0 + q) ≤ 127)) <| nx (cpyS S0 1 68 0 0 a3) fun S_6 => nx (up S_6 67 3 a3) fun S_7 => nx (up S_7 67 4 0) fun S_8 => nx (up S_8 67 5 0) fun S_9 => nx (up S_9 67 6 1) fun S_10 => nx (up S_10 67 8 0) fun S_11 => nx (up S_11 67 10 0) fun S_12 => nx (up S_12 67 12 0) fun S_13 => bd1 (mX10_readExpr S_13 a1) fun S_15 => bd1 (mX10_read_67_1_73 FU 0 S_15) fun S_18 => gd (inI (S_18 67 6)) <| if (S_18 67 6) = 0 then (some ((-1), S_18)) else (gd (inI (S_18 67 8)) <| if (S_18 67 8) = 0 then (gd ((inI (S_18 67 4)) ∧ (inI (S_18 67 3))) <| if (S_18 67 4) = (S_18 67 3) then (some ((S_18 67 5), S_18)) else (some ((-1), S_18))) else (some ((-1), S_18)))) else (some ((-1), S0))))
set_option maxHeartbeats 4000000 in
set_option maxRecDepth 100000 in
theorem vX10_read_67_1 (l : Launch) {D : va_G} {cy : Nat → ClassId} {b n : Nat} (hn : 102 ≤ n) {X : Nat → va_E} {S0 : St} (a1 : Int) (a3 : Int) {o1 : Int} {o2 : St} (hM : mX10_read_67_1 S0 a1 a3 = some (o1, o2)) : gI l yX10_read cX10_read 6 (some .int) 5 0 0 D cy b n (enc b cy X S0) [.ref (b + 65), .int (iI a1), .ref (b + 1), .int (iI a3)] (fun r u => r = iI o1 ∧ u = (n, enc b cy X o2)) := by
  refine gI_of (by decide) (Nat.le_of_ble_eq_true rfl) ?_
  intro p e s m args below meth c S hr hlk hin hsz ls hl hG
  have hx := S.1
  have hb := S.2.1
  have hl : lv_has ls 6 [(0, .ref (b + 65)), (1, .int (iI a1)), (2, .ref (b + 1)), (3, .int (iI a3))] := hl
  replace hG : gW D cy b n s s.heap [] (enc b cy X S0) := hG
  obtain ⟨H, eH⟩ : ∃ H, H = s.heap := ⟨_, rfl⟩
  obtain ⟨locs, elocs⟩ : ∃ locs : List Loc, locs = [] := ⟨_, rfl⟩
  rw [← eH, ← elocs] at hG
  rw [← eH, ← elocs]
  clear eH elocs
  unfold mX10_read_67_1 at hM
  refine lv_iload_n hx hb dX10_read_0 rfl (lv_at hl 3 rfl) ?_
  refine lv_iconst (v := iI 1) hx hb dX10_read_1 (by decide) ?_
  obtain ⟨hg_1, hM⟩ := gd_some hM
  refine gi_icmp_lt (tgt := 17) hx hb dX10_read_2 (by decide) hg_1 (by decide) (fun c_2 => ?_) (fun c_2 => ?_)
  · replace hM := ifp hM c_2
    refine lv_iconst (v := iI (-1)) hx hb dX10_read_17 (by decide) ?_
    cases hM
    exact g_iret S hr hlk hG hsz dX10_read_18 ⟨Nat.le_of_ble_eq_true rfl, Nat.le_of_ble_eq_true rfl⟩ ⟨rfl, rfl⟩
  · replace hM := ifn hM c_2
    refine lv_iload_n hx hb dX10_read_5 rfl (lv_at hl 3 rfl) ?_
    refine lv_bipush (v := iI 40) hx hb dX10_read_6 (by decide) ?_
    refine gi_icmp_gt (tgt := 17) hx hb dX10_read_8 (by decide) hg_1 (by decide) (fun c_3 => ?_) (fun c_3 => ?_)
    · replace hM := ifp hM c_3
      refine lv_iconst (v := iI (-1)) hx hb dX10_read_17 (by decide) ?_
      cases hM
      exact g_iret S hr hlk hG hsz dX10_read_18 ⟨Nat.le_of_ble_eq_true rfl, Nat.le_of_ble_eq_true rfl⟩ ⟨rfl, rfl⟩
    · replace hM := ifn hM c_3
      refine lv_iload_n hx hb dX10_read_11 rfl (lv_at hl 3 rfl) ?_
      refine lv_aload_n hx hb dX10_read_12 rfl (lv_at hl 2 rfl) ?_
      refine m_alen S hG 1 0 ec_1 rfl (Nat.lt_of_lt_of_le (Nat.le_of_ble_eq_true rfl) hn) dX10_read_13 (N := 400) (show Int32.ofNat 400 = iI 400 by decide) ?_
      refine gi_icmp_le (tgt := 19) hx hb dX10_read_14 (by decide) hg_1 (by decide) (fun c_4 => ?_) (fun c_4 => ?_)
      · replace hM := ifp hM c_4
        refine lv_aload_n hx hb dX10_read_19 rfl (lv_at hl 2 rfl) ?_
        refine lv_iconst (v := iI 0) hx hb dX10_read_20 (by decide) ?_
        refine lv_aload_n hx hb dX10_read_21 rfl (lv_at hl 0 rfl) ?_
        refine m_get S hG 65 67 1 rfl ec_67 cpX10 wm_558 dX10_read_22 rfl (Nat.lt_of_lt_of_le (Nat.le_of_ble_eq_true rfl) hn) (by decide) ?_
        refine lv_iconst (v := iI 0) hx hb dX10_read_25 (by decide) ?_
        refine lv_iload_n hx hb dX10_read_26 rfl (lv_at hl 3 rfl) ?_
        obtain ⟨hg_5, hM⟩ := gd_some hM
        refine m_copyi (ty := .byte) S hG wm_1458 wm_972 wm_971 wm_195 hl.1 1 1 66 68 0 rfl rfl ec_1 ec_68 rfl rfl (Nat.lt_of_lt_of_le (Nat.le_of_ble_eq_true rfl) hn) (Nat.lt_of_lt_of_le (Nat.le_of_ble_eq_true rfl) hn) hg_5.1 (by decide) (fun q hq => fit_b (hg_5.2 q hq)) dX10_read_27 ⟨Nat.le_of_ble_eq_true rfl, Nat.le_of_ble_eq_true rfl⟩ (fun H locs S_6 eS_6 hG => ?_)
        replace hM := nx_at hM eS_6
        clear eS_6
        refine lv_aload_n hx hb dX10_read_30 rfl (lv_at hl 0 rfl) ?_
        refine lv_iload_n hx hb dX10_read_31 rfl (lv_at hl 3 rfl) ?_
        refine m_put S hG 65 67 3 rfl 3 a3 ec_67 cpX10 wm_561 dX10_read_32 (pf_67_3) (Nat.lt_of_lt_of_le (Nat.le_of_ble_eq_true rfl) hn) (by decide) (Nat.le_of_ble_eq_true rfl) rfl rfl rfl (fun H locs S_7 eS_7 hG => ?_)
        replace hM := nx_at hM eS_7
        clear eS_7
        refine lv_aload_n hx hb dX10_read_35 rfl (lv_at hl 0 rfl) ?_
        refine lv_iconst (v := iI 0) hx hb dX10_read_36 (by decide) ?_
        refine m_put S hG 65 67 4 rfl 4 0 ec_67 cpX10 wm_562 dX10_read_37 (pf_67_4) (Nat.lt_of_lt_of_le (Nat.le_of_ble_eq_true rfl) hn) (by decide) (Nat.le_of_ble_eq_true rfl) rfl rfl rfl (fun H locs S_8 eS_8 hG => ?_)
        replace hM := nx_at hM eS_8
        clear eS_8
        refine lv_aload_n hx hb dX10_read_40 rfl (lv_at hl 0 rfl) ?_
        refine lv_iconst (v := iI 0) hx hb dX10_read_41 (by decide) ?_
        refine m_put S hG 65 67 5 rfl 5 0 ec_67 cpX10 wm_563 dX10_read_42 (pf_67_5) (Nat.lt_of_lt_of_le (Nat.le_of_ble_eq_true rfl) hn) (by decide) (Nat.le_of_ble_eq_true rfl) rfl rfl rfl (fun H locs S_9 eS_9 hG => ?_)
        replace hM := nx_at hM eS_9
        clear eS_9
        refine lv_aload_n hx hb dX10_read_45 rfl (lv_at hl 0 rfl) ?_
        refine lv_iconst (v := iI 1) hx hb dX10_read_46 (by decide) ?_
        refine m_put S hG 65 67 6 rfl 6 1 ec_67 cpX10 wm_564 dX10_read_47 (pf_67_6) (Nat.lt_of_lt_of_le (Nat.le_of_ble_eq_true rfl) hn) (by decide) (Nat.le_of_ble_eq_true rfl) rfl rfl rfl (fun H locs S_10 eS_10 hG => ?_)
        replace hM := nx_at hM eS_10
        clear eS_10
        refine lv_aload_n hx hb dX10_read_50 rfl (lv_at hl 0 rfl) ?_
        refine lv_iconst (v := iI 0) hx hb dX10_read_51 (by decide) ?_
        refine m_put S hG 65 67 8 rfl 8 0 ec_67 cpX10 wm_566 dX10_read_52 (pf_67_8) (Nat.lt_of_lt_of_le (Nat.le_of_ble_eq_true rfl) hn) (by decide) (Nat.le_of_ble_eq_true rfl) rfl rfl rfl (fun H locs S_11 eS_11 hG => ?_)
        replace hM := nx_at hM eS_11
        clear eS_11
        refine lv_aload_n hx hb dX10_read_55 rfl (lv_at hl 0 rfl) ?_
        refine lv_iconst (v := iI 0) hx hb dX10_read_56 (by decide) ?_
        refine m_put S hG 65 67 10 rfl 10 0 ec_67 cpX10 wm_568 dX10_read_57 (pf_67_10) (Nat.lt_of_lt_of_le (Nat.le_of_ble_eq_true rfl) hn) (by decide) (Nat.le_of_ble_eq_true rfl) rfl rfl rfl (fun H locs S_12 eS_12 hG => ?_)
        replace hM := nx_at hM eS_12
        clear eS_12
        refine lv_aload_n hx hb dX10_read_60 rfl (lv_at hl 0 rfl) ?_
        refine lv_iconst (v := iI 0) hx hb dX10_read_61 (by decide) ?_
        refine m_put S hG 65 67 12 rfl 12 0 ec_67 cpX10 wm_570 dX10_read_62 (pf_67_12) (Nat.lt_of_lt_of_le (Nat.le_of_ble_eq_true rfl) hn) (by decide) (Nat.le_of_ble_eq_true rfl) rfl rfl rfl (fun H locs S_13 eS_13 hG => ?_)
        replace hM := nx_at hM eS_13
        clear eS_13
        refine lv_aload_n hx hb dX10_read_65 rfl (lv_at hl 0 rfl) ?_
        refine lv_iload_n hx hb dX10_read_66 rfl (lv_at hl 1 rfl) ?_
        obtain ⟨S_15, hc_14, hM⟩ := bd1_some hM
        refine g_vv (As := [.int (iI a1)]) (rest := []) S hG hsz (vX10_readExpr l hn a1 hc_14) wV_10_61 (ec_67 _) cpX10 (Nat.lt_of_lt_of_le (Nat.le_of_ble_eq_true rfl) hn) dX10_read_67 rfl hl.1 (ar := 1) (by decide +kernel) rfl ⟨Nat.le_of_ble_eq_true rfl, Nat.le_of_ble_eq_true rfl, Nat.le_of_ble_eq_true rfl, Nat.le_of_ble_eq_true rfl⟩ (Nat.le_of_ble_eq_true rfl) (fun uu H locs hp hG => ?_)
        obtain rfl := hp
        replace hG : gW D cy b n s H locs (enc b cy X S_15) := hG
        refine lv_iconst (v := iI 0) hx hb dX10_read_70 (by decide) ?_
        refine lv_istore (lv' := [(4, .int (iI 0)), (0, .ref (b + 65)), (1, .int (iI a1)), (2, .ref (b + 1)), (3, .int (iI a3))]) hx hb dX10_read_71 hl (by decide) rfl (fun ls hl => ?_)
        obtain ⟨S_18, hc_19, hM⟩ := bd1_some hM
        have hK_20 : ∀ (H : Heap) (locs : List Loc) (ls : Array Slot), gW D cy b n s H locs (enc b cy X S_18) → lv_has ls 6 [(0, .ref (b + 65))] → W p l e (gRm 5 0 0) s m args below meth c H locs 0 0 (gQI D cy b s args below 0 0 (fun r u => r = iI o1 ∧ u = (n, enc b cy X o2))) (F0 m 144 ls []) := by
          intro H locs ls hG hl
          refine lv_aload_n hx hb dX10_read_144 rfl (lv_at hl 0 rfl) ?_
          refine m_get S hG 65 67 6 rfl ec_67 cpX10 wm_564 dX10_read_145 rfl (Nat.lt_of_lt_of_le (Nat.le_of_ble_eq_true rfl) hn) (by decide) ?_
          obtain ⟨hg_21, hM⟩ := gd_some hM
          refine gi_if_eq (tgt := 176) hx hb dX10_read_148 (by decide) hg_21 (fun c_22 => ?_) (fun c_22 => ?_)
          · replace hM := ifp hM c_22
            refine lv_iconst (v := iI (-1)) hx hb dX10_read_176 (by decide) ?_
            cases hM
            exact g_iret S hr hlk hG hsz dX10_read_177 ⟨Nat.le_of_ble_eq_true rfl, Nat.le_of_ble_eq_true rfl⟩ ⟨rfl, rfl⟩
          · replace hM := ifn hM c_22
            refine lv_aload_n hx hb dX10_read_151 rfl (lv_at hl 0 rfl) ?_
            refine m_get S hG 65 67 8 rfl ec_67 cpX10 wm_566 dX10_read_152 rfl (Nat.lt_of_lt_of_le (Nat.le_of_ble_eq_true rfl) hn) (by decide) ?_
            obtain ⟨hg_23, hM⟩ := gd_some hM
            refine gi_if_ne (tgt := 176) hx hb dX10_read_155 (by decide) hg_23 (fun c_24 => ?_) (fun c_24 => ?_)
            · replace hM := ifn hM c_24
              refine lv_iconst (v := iI (-1)) hx hb dX10_read_176 (by decide) ?_
              cases hM
              exact g_iret S hr hlk hG hsz dX10_read_177 ⟨Nat.le_of_ble_eq_true rfl, Nat.le_of_ble_eq_true rfl⟩ ⟨rfl, rfl⟩
            · replace hM := ifp hM c_24
              refine lv_aload_n hx hb dX10_read_158 rfl (lv_at hl 0 rfl) ?_
              refine m_get S hG 65 67 4 rfl ec_67 cpX10 wm_562 dX10_read_159 rfl (Nat.lt_of_lt_of_le (Nat.le_of_ble_eq_true rfl) hn) (by decide) ?_
              refine lv_aload_n hx hb dX10_read_162 rfl (lv_at hl 0 rfl) ?_
              refine m_get S hG 65 67 3 rfl ec_67 cpX10 wm_561 dX10_read_163 rfl (Nat.lt_of_lt_of_le (Nat.le_of_ble_eq_true rfl) hn) (by decide) ?_
              obtain ⟨hg_25, hM⟩ := gd_some hM
              refine gi_icmp_ne (tgt := 176) hx hb dX10_read_166 (by decide) hg_25.1 hg_25.2 (fun c_26 => ?_) (fun c_26 => ?_)
              · replace hM := ifn hM c_26
                refine lv_iconst (v := iI (-1)) hx hb dX10_read_176 (by decide) ?_
                cases hM
                exact g_iret S hr hlk hG hsz dX10_read_177 ⟨Nat.le_of_ble_eq_true rfl, Nat.le_of_ble_eq_true rfl⟩ ⟨rfl, rfl⟩
              · replace hM := ifp hM c_26
                refine lv_aload_n hx hb dX10_read_169 rfl (lv_at hl 0 rfl) ?_
                refine m_get S hG 65 67 5 rfl ec_67 cpX10 wm_563 dX10_read_170 rfl (Nat.lt_of_lt_of_le (Nat.le_of_ble_eq_true rfl) hn) (by decide) ?_
                refine lv_goto (tgt := 177) hx hb dX10_read_173 (by decide) ?_
                cases hM
                exact g_iret S hr hlk hG hsz dX10_read_177 ⟨Nat.le_of_ble_eq_true rfl, Nat.le_of_ble_eq_true rfl⟩ ⟨rfl, rfl⟩
        have loop_27 : ∀ (f : Nat) (v_16 : Int) (S_17 : St) (H : Heap) (locs : List Loc) (ls : Array Slot), mX10_read_67_1_73 f v_16 S_17 = some S_18 → gW D cy b n s H locs (enc b cy X S_17) → lv_has ls 6 [(4, .int (iI v_16)), (0, .ref (b + 65))] → W p l e (gRm 5 0 0) s m args below meth c H locs 0 0 (gQI D cy b s args below 0 0 (fun r u => r = iI o1 ∧ u = (n, enc b cy X o2))) (F0 m 73 ls []) := by
          clear hM
          intro f
          induction f with
          | zero => intro v_16 S_17 H locs ls hM; rw [mX10_read_67_1_73] at hM; cases hM
          | succ f_29 ih_28 =>
            intro v_16 S_17 H locs ls hM hG hl
            rw [mX10_read_67_1_73] at hM
            refine lv_iload hx hb dX10_read_73 (lv_at hl 0 rfl) ?_
            refine lv_ldc (v := 100000) hx hb S.2.2.2.1 (S.2.2.2.2 _ wm_1473) dX10_read_75 ?_
            refine gi_as 100000 (by decide) ?_
            obtain ⟨hg_30, hM⟩ := gd_some hM
            refine gi_icmp_ge (tgt := 144) hx hb dX10_read_77 (by decide) hg_30 (by decide) (fun c_31 => ?_) (fun c_31 => ?_)
            · replace hM := ifp hM c_31
              cases hM
              exact hK_20 H locs ls hG (lv_sub hl [1] rfl)
            · replace hM := ifn hM c_31
              refine lv_aload_n hx hb dX10_read_80 rfl (lv_at hl 1 rfl) ?_
              refine m_get S hG 65 67 6 rfl ec_67 cpX10 wm_564 dX10_read_81 rfl (Nat.lt_of_lt_of_le (Nat.le_of_ble_eq_true rfl) hn) (by decide) ?_
              obtain ⟨hg_32, hM⟩ := gd_some hM
              refine gi_if_eq (tgt := 144) hx hb dX10_read_84 (by decide) hg_32 (fun c_33 => ?_) (fun c_33 => ?_)
              · replace hM := ifp hM c_33
                cases hM
                exact hK_20 H locs ls hG (lv_sub hl [1] rfl)
              · replace hM := ifn hM c_33
                refine lv_aload_n hx hb dX10_read_87 rfl (lv_at hl 1 rfl) ?_
                refine m_get S hG 65 67 8 rfl ec_67 cpX10 wm_566 dX10_read_88 rfl (Nat.lt_of_lt_of_le (Nat.le_of_ble_eq_true rfl) hn) (by decide) ?_
                obtain ⟨hg_34, hM⟩ := gd_some hM
                refine gi_if_le (tgt := 144) hx hb dX10_read_91 (by decide) hg_34 (fun c_35 => ?_) (fun c_35 => ?_)
                · replace hM := ifp hM c_35
                  cases hM
                  exact hK_20 H locs ls hG (lv_sub hl [1] rfl)
                · replace hM := ifn hM c_35
                  refine lv_aload_n hx hb dX10_read_94 rfl (lv_at hl 1 rfl) ?_
                  refine lv_dup hx hb dX10_read_95 rfl ?_
                  refine m_get S hG 65 67 8 rfl ec_67 cpX10 wm_566 dX10_read_96 rfl (Nat.lt_of_lt_of_le (Nat.le_of_ble_eq_true rfl) hn) (by decide) ?_
                  refine lv_iconst (v := iI 1) hx hb dX10_read_99 (by decide) ?_
                  refine gi_sub hx hb dX10_read_100 ?_
                  refine m_put S hG 65 67 8 rfl 8 ((S_17 67 8) - 1) ec_67 cpX10 wm_566 dX10_read_101 (pf_67_8) (Nat.lt_of_lt_of_le (Nat.le_of_ble_eq_true rfl) hn) (by decide) (Nat.le_of_ble_eq_true rfl) rfl rfl rfl (fun H locs S_36 eS_36 hG => ?_)
                  replace hM := nx_at hM eS_36
                  clear eS_36
                  refine lv_aload_n hx hb dX10_read_104 rfl (lv_at hl 1 rfl) ?_
                  refine m_get S hG 65 67 7 rfl ec_67 cpX10 wm_565 dX10_read_105 rfl (Nat.lt_of_lt_of_le (Nat.le_of_ble_eq_true rfl) hn) (by decide) ?_
                  refine lv_aload_n hx hb dX10_read_108 rfl (lv_at hl 1 rfl) ?_
                  refine m_get S hG 65 67 8 rfl ec_67 cpX10 wm_566 dX10_read_109 rfl (Nat.lt_of_lt_of_le (Nat.le_of_ble_eq_true rfl) hn) (by decide) ?_
                  obtain ⟨hg_37, hM⟩ := gd_some hM
                  refine mi_ald S hG 68 70 rfl ec_70 (Nat.lt_of_lt_of_le (Nat.le_of_ble_eq_true rfl) hn) dX10_read_112 hg_37 (by decide) ?_
                  refine gi_nm (fun x_38 ex_38 => ?_)
                  replace hM := nx_at hM ex_38
                  clear ex_38
                  refine lv_istore (lv' := [(5, .int (iI x_38)), (4, .int (iI v_16)), (0, .ref (b + 65))]) hx hb dX10_read_113 hl (by decide) rfl (fun ls hl => ?_)
                  refine lv_iload hx hb dX10_read_115 (lv_at hl 0 rfl) ?_
                  obtain ⟨hg_39, hM⟩ := gd_some hM
                  refine gi_if_ge (tgt := 132) hx hb dX10_read_117 (by decide) hg_39 (fun c_40 => ?_) (fun c_40 => ?_)
                  · replace hM := ifp hM c_40
                    refine lv_aload_n hx hb dX10_read_132 rfl (lv_at hl 2 rfl) ?_
                    refine lv_iload hx hb dX10_read_133 (lv_at hl 0 rfl) ?_
                    obtain ⟨S_42, hc_41, hM⟩ := bd1_some hM
                    refine g_vv (As := [.int (iI x_38)]) (rest := []) S hG hsz (vX10_readPart l hn x_38 hc_41) wV_10_69 (ec_67 _) cpX10 (Nat.lt_of_lt_of_le (Nat.le_of_ble_eq_true rfl) hn) dX10_read_135 rfl hl.1 (ar := 1) (by decide +kernel) rfl ⟨Nat.le_of_ble_eq_true rfl, Nat.le_of_ble_eq_true rfl, Nat.le_of_ble_eq_true rfl, Nat.le_of_ble_eq_true rfl⟩ (Nat.le_of_ble_eq_true rfl) (fun uu H locs hp hG => ?_)
                    obtain rfl := hp
                    replace hG : gW D cy b n s H locs (enc b cy X S_42) := hG
                    refine lv_iinc (v := iI (v_16 + 1)) (lv' := [(4, .int (iI (v_16 + 1))), (5, .int (iI x_38)), (0, .ref (b + 65))]) hx hb dX10_read_138 hl (k := 1) rfl ((iI_add v_16 (1)).trans (congrArg iI (by omega))) (by decide) rfl (fun ls hl => ?_)
                    refine lv_goto (tgt := 73) hx hb dX10_read_141 (by decide) ?_
                    exact ih_28 (v_16 + 1) S_42 H locs ls hM hG (lv_sub hl [0, 2] rfl)
                  · replace hM := ifn hM c_40
                    refine lv_aload_n hx hb dX10_read_120 rfl (lv_at hl 2 rfl) ?_
                    refine lv_iload hx hb dX10_read_121 (lv_at hl 0 rfl) ?_
                    refine gi_neg hx hb dX10_read_123 ?_
                    refine lv_iconst (v := iI 1) hx hb dX10_read_124 (by decide) ?_
                    refine gi_sub hx hb dX10_read_125 ?_
                    obtain ⟨S_44, hc_43, hM⟩ := bd1_some hM
                    refine g_vv (As := [.int (iI ((-x_38) - 1))]) (rest := []) S hG hsz (vX10_goOn l hn ((-x_38) - 1) hc_43) wV_10_66 (ec_67 _) cpX10 (Nat.lt_of_lt_of_le (Nat.le_of_ble_eq_true rfl) hn) dX10_read_126 rfl hl.1 (ar := 1) (by decide +kernel) rfl ⟨Nat.le_of_ble_eq_true rfl, Nat.le_of_ble_eq_true rfl, Nat.le_of_ble_eq_true rfl, Nat.le_of_ble_eq_true rfl⟩ (Nat.le_of_ble_eq_true rfl) (fun uu H locs hp hG => ?_)
                    obtain rfl := hp
                    replace hG : gW D cy b n s H locs (enc b cy X S_44) := hG
                    refine lv_goto (tgt := 138) hx hb dX10_read_129 (by decide) ?_
                    refine lv_iinc (v := iI (v_16 + 1)) (lv' := [(4, .int (iI (v_16 + 1))), (5, .int (iI x_38)), (0, .ref (b + 65))]) hx hb dX10_read_138 hl (k := 1) rfl ((iI_add v_16 (1)).trans (congrArg iI (by omega))) (by decide) rfl (fun ls hl => ?_)
                    refine lv_goto (tgt := 73) hx hb dX10_read_141 (by decide) ?_
                    exact ih_28 (v_16 + 1) S_44 H locs ls hM hG (lv_sub hl [0, 2] rfl)
        exact loop_27 FU 0 S_15 H locs ls hc_19 hG (lv_sub hl [0, 1] rfl)
      · replace hM := ifn hM c_4
        refine lv_iconst (v := iI (-1)) hx hb dX10_read_17 (by decide) ?_
        cases hM
        exact g_iret S hr hlk hG hsz dX10_read_18 ⟨Nat.le_of_ble_eq_true rfl, Nat.le_of_ble_eq_true rfl⟩ ⟨rfl, rfl⟩
def mX10_holds_67_81_2 (S0 : St) (a2 : Int) : Nat → Int → Option (Int)
  | 0, _ => none
  | f + 1, v_1 => gd ((inI v_1) ∧ (inI a2)) <| if a2 ≤ v_1 then (some (1)) else (if 40 ≤ v_1 then (some (1)) else (if 40 ≤ v_1 then (some (1)) else (gd (0 ≤ v_1 ∧ v_1 < 40) <| gd ((inI (S0 68 v_1)) ∧ (inI (S0 81 v_1))) <| if (S0 68 v_1) = (S0 81 v_1) then (mX10_holds_67_81_2 S0 a2 f (v_1 + 1)) else (some (0)))))
def mX10_holds_67_81 (S0 : St) (a2 : Int) : Option (Int) := bd1 (mX10_holds_67_81_2 S0 a2 FU 0) fun t_2 => if t_2 = 0 then (some (0)) else (some (1))
set_option maxHeartbeats 4000000 in
set_option maxRecDepth 100000 in
theorem vX10_holds_67_81 (l : Launch) {D : va_G} {cy : Nat → ClassId} {b n : Nat} (hn : 102 ≤ n) {X : Nat → va_E} {S0 : St} (a2 : Int) {o1 : Int} (hM : mX10_holds_67_81 S0 a2 = some o1) : gI l yX10_holds cX10_holds 4 (some .boolean) 0 0 0 D cy b n (enc b cy X S0) [.ref (b + 65), .ref (b + 78), .int (iI a2)] (fun r u => r = iI o1 ∧ u = (n, enc b cy X S0)) := by
  refine gI_of (by decide) (Nat.le_of_ble_eq_true rfl) ?_
  intro p e s m args below meth c S hr hlk hin hsz ls hl hG
  have hx := S.1
  have hb := S.2.1
  have hl : lv_has ls 4 [(0, .ref (b + 65)), (1, .ref (b + 78)), (2, .int (iI a2))] := hl
  replace hG : gW D cy b n s s.heap [] (enc b cy X S0) := hG
  obtain ⟨H, eH⟩ : ∃ H, H = s.heap := ⟨_, rfl⟩
  obtain ⟨locs, elocs⟩ : ∃ locs : List Loc, locs = [] := ⟨_, rfl⟩
  rw [← eH, ← elocs] at hG
  rw [← eH, ← elocs]
  clear eH elocs
  unfold mX10_holds_67_81 at hM
  refine lv_iconst (v := iI 0) hx hb dX10_holds_0 (by decide) ?_
  refine lv_istore_n (lv' := [(3, .int (iI 0)), (0, .ref (b + 65)), (1, .ref (b + 78)), (2, .int (iI a2))]) hx hb dX10_holds_1 rfl hl (by decide) rfl (fun ls hl => ?_)
  obtain ⟨t_2, hc_3, hM⟩ := bd1_some hM
  have hK_4 : ∀ (H : Heap) (locs : List Loc) (ls : Array Slot), t_2 = 0 → gW D cy b n s H locs (enc b cy X S0) → lv_has ls 4 [] → W p l e (gRm 0 0 0) s m args below meth c H locs 0 0 (gQI D cy b s args below 0 0 (fun r u => r = iI o1 ∧ u = (n, enc b cy X S0))) (F0 m 31 ls []) := by
    intro H locs ls ht hG hl
    subst ht
    replace hM := ifp hM rfl
    refine lv_iconst (v := iI 0) hx hb dX10_holds_31 (by decide) ?_
    cases hM
    exact g_zret S hr hlk hG hsz dX10_holds_32 ⟨Nat.le_of_ble_eq_true rfl, Nat.le_of_ble_eq_true rfl⟩ (nar_z (by decide)) ⟨rfl, rfl⟩
  have hK_5 : ∀ (H : Heap) (locs : List Loc) (ls : Array Slot), t_2 = 1 → gW D cy b n s H locs (enc b cy X S0) → lv_has ls 4 [] → W p l e (gRm 0 0 0) s m args below meth c H locs 0 0 (gQI D cy b s args below 0 0 (fun r u => r = iI o1 ∧ u = (n, enc b cy X S0))) (F0 m 39 ls []) := by
    intro H locs ls ht hG hl
    subst ht
    replace hM := ifn hM (by decide)
    refine lv_iconst (v := iI 1) hx hb dX10_holds_39 (by decide) ?_
    cases hM
    exact g_zret S hr hlk hG hsz dX10_holds_40 ⟨Nat.le_of_ble_eq_true rfl, Nat.le_of_ble_eq_true rfl⟩ (nar_z (by decide)) ⟨rfl, rfl⟩
  have loop_6 : ∀ (f : Nat) (v_1 : Int) (H : Heap) (locs : List Loc) (ls : Array Slot), mX10_holds_67_81_2 S0 a2 f v_1 = some t_2 → gW D cy b n s H locs (enc b cy X S0) → lv_has ls 4 [(3, .int (iI v_1)), (0, .ref (b + 65)), (1, .ref (b + 78)), (2, .int (iI a2))] → W p l e (gRm 0 0 0) s m args below meth c H locs 0 0 (gQI D cy b s args below 0 0 (fun r u => r = iI o1 ∧ u = (n, enc b cy X S0))) (F0 m 2 ls []) := by
    clear hM
    intro f
    induction f with
    | zero => intro v_1 H locs ls hM; rw [mX10_holds_67_81_2] at hM; cases hM
    | succ f_8 ih_7 =>
      intro v_1 H locs ls hM hG hl
      rw [mX10_holds_67_81_2] at hM
      refine lv_iload_n hx hb dX10_holds_2 rfl (lv_at hl 0 rfl) ?_
      refine lv_iload_n hx hb dX10_holds_3 rfl (lv_at hl 3 rfl) ?_
      obtain ⟨hg_9, hM⟩ := gd_some hM
      refine gi_icmp_ge (tgt := 39) hx hb dX10_holds_4 (by decide) hg_9.1 hg_9.2 (fun c_10 => ?_) (fun c_10 => ?_)
      · replace hM := ifp hM c_10
        cases hM
        exact hK_5 H locs ls rfl hG (lv_sub hl [] rfl)
      · replace hM := ifn hM c_10
        refine lv_iload_n hx hb dX10_holds_7 rfl (lv_at hl 0 rfl) ?_
        refine lv_bipush (v := iI 40) hx hb dX10_holds_8 (by decide) ?_
        refine gi_icmp_ge (tgt := 39) hx hb dX10_holds_10 (by decide) hg_9.1 (by decide) (fun c_11 => ?_) (fun c_11 => ?_)
        · replace hM := ifp hM c_11
          cases hM
          exact hK_5 H locs ls rfl hG (lv_sub hl [] rfl)
        · replace hM := ifn hM c_11
          refine lv_iload_n hx hb dX10_holds_13 rfl (lv_at hl 0 rfl) ?_
          refine lv_aload_n hx hb dX10_holds_14 rfl (lv_at hl 2 rfl) ?_
          refine m_alen S hG 78 0 ec_81 rfl (Nat.lt_of_lt_of_le (Nat.le_of_ble_eq_true rfl) hn) dX10_holds_15 (N := 40) (show Int32.ofNat 40 = iI 40 by decide) ?_
          refine gi_icmp_ge (tgt := 39) hx hb dX10_holds_16 (by decide) hg_9.1 (by decide) (fun c_12 => ?_) (fun c_12 => ?_)
          · replace hM := ifp hM c_12
            cases hM
            exact hK_5 H locs ls rfl hG (lv_sub hl [] rfl)
          · replace hM := ifn hM c_12
            refine lv_aload_n hx hb dX10_holds_19 rfl (lv_at hl 1 rfl) ?_
            refine m_get S hG 65 67 1 rfl ec_67 cpX10 wm_558 dX10_holds_20 rfl (Nat.lt_of_lt_of_le (Nat.le_of_ble_eq_true rfl) hn) (by decide) ?_
            refine lv_iload_n hx hb dX10_holds_23 rfl (lv_at hl 0 rfl) ?_
            obtain ⟨hg_13, hM⟩ := gd_some hM
            refine mb_ald S hG 66 68 rfl ec_68 (Nat.lt_of_lt_of_le (Nat.le_of_ble_eq_true rfl) hn) dX10_holds_24 hg_13 (by decide) ?_
            refine lv_aload_n hx hb dX10_holds_25 rfl (lv_at hl 2 rfl) ?_
            refine lv_iload_n hx hb dX10_holds_26 rfl (lv_at hl 0 rfl) ?_
            refine mb_ald S hG 78 81 rfl ec_81 (Nat.lt_of_lt_of_le (Nat.le_of_ble_eq_true rfl) hn) dX10_holds_27 hg_13 (by decide) ?_
            obtain ⟨hg_14, hM⟩ := gd_some hM
            refine gi_icmp_eq (tgt := 33) hx hb dX10_holds_28 (by decide) hg_14.1 hg_14.2 (fun c_15 => ?_) (fun c_15 => ?_)
            · replace hM := ifp hM c_15
              refine lv_iinc (v := iI (v_1 + 1)) (lv' := [(3, .int (iI (v_1 + 1))), (0, .ref (b + 65)), (1, .ref (b + 78)), (2, .int (iI a2))]) hx hb dX10_holds_33 hl (k := 0) rfl ((iI_add v_1 (1)).trans (congrArg iI (by omega))) (by decide) rfl (fun ls hl => ?_)
              refine lv_goto (tgt := 2) hx hb dX10_holds_36 (by decide) ?_
              exact ih_7 (v_1 + 1) H locs ls hM hG (lv_sub hl [0, 1, 2, 3] rfl)
            · replace hM := ifn hM c_15
              cases hM
              exact hK_4 H locs ls rfl hG (lv_sub hl [] rfl)
  exact loop_6 FU 0 H locs ls hc_3 hG (lv_sub hl [0, 1, 2, 3] rfl)
theorem wS_7_42 : gWS "GrownKinds$Roll" 42 yJ7_fill_53178 cJ7_fill_53178 4 none := ⟨wm_1550, wm_748, wm_189, wm_749, by decide +kernel, by decide +kernel⟩
def mJ7_fill_53178_79_5 (a2 : Int) : Nat → Int → St → Option (St)
  | 0, _, _ => none
  | f + 1, v_1, S_2 => gd (inI v_1) <| if 26 ≤ v_1 then (some (S_2)) else (gd (0 ≤ v_1 ∧ v_1 < 26) <| nx (up S_2 79 v_1 a2) fun S_12 => mJ7_fill_53178_79_5 a2 f (v_1 + 1) S_12)
def mJ7_fill_53178_79 (S0 : St) (a2 : Int) : Option (St) := bd1 (mJ7_fill_53178_79_5 a2 FU 0 S0) fun S_3 => some (S_3)
set_option maxHeartbeats 4000000 in
set_option maxRecDepth 100000 in
theorem vJ7_fill_53178_79 (l : Launch) {D : va_G} {cy : Nat → ClassId} {b n : Nat} (hn : 102 ≤ n) {X : Nat → va_E} {S0 : St} (a2 : Int) {o1 : St} (hM : mJ7_fill_53178_79 S0 a2 = some o1) : gV l yJ7_fill_53178 cJ7_fill_53178 4 0 0 0 D cy b n (enc b cy X S0) [.ref (b + 76), .int (iI a2)] (fun u => u = (n, enc b cy X o1)) := by
  refine gV_of (by decide) (Nat.le_of_ble_eq_true rfl) ?_
  intro p e s m args below meth c S hr hlk hin hsz ls hl hG
  have hx := S.1
  have hb := S.2.1
  have hl : lv_has ls 4 [(0, .ref (b + 76)), (1, .int (iI a2))] := hl
  replace hG : gW D cy b n s s.heap [] (enc b cy X S0) := hG
  obtain ⟨H, eH⟩ : ∃ H, H = s.heap := ⟨_, rfl⟩
  obtain ⟨locs, elocs⟩ : ∃ locs : List Loc, locs = [] := ⟨_, rfl⟩
  rw [← eH, ← elocs] at hG
  rw [← eH, ← elocs]
  clear eH elocs
  unfold mJ7_fill_53178_79 at hM
  refine lv_iconst (v := iI 0) hx hb dJ7_fill_53178_0 (by decide) ?_
  refine lv_istore_n (lv' := [(2, .int (iI 0)), (0, .ref (b + 76)), (1, .int (iI a2))]) hx hb dJ7_fill_53178_1 rfl hl (by decide) rfl (fun ls hl => ?_)
  refine lv_aload_n hx hb dJ7_fill_53178_2 rfl (lv_at hl 1 rfl) ?_
  refine m_alen S hG 76 1 ec_79 rfl (Nat.lt_of_lt_of_le (Nat.le_of_ble_eq_true rfl) hn) dJ7_fill_53178_3 (N := 26) (show Int32.ofNat 26 = iI 26 by decide) ?_
  refine lv_istore_n (lv' := [(3, .int (iI 26)), (2, .int (iI 0)), (0, .ref (b + 76)), (1, .int (iI a2))]) hx hb dJ7_fill_53178_4 rfl hl (by decide) rfl (fun ls hl => ?_)
  obtain ⟨S_3, hc_4, hM⟩ := bd1_some hM
  have hK_5 : ∀ (H : Heap) (locs : List Loc) (ls : Array Slot), gW D cy b n s H locs (enc b cy X S_3) → lv_has ls 4 [] → W p l e (gRm 0 0 0) s m args below meth c H locs 0 0 (gQV D cy b s args below 0 0 (fun u => u = (n, enc b cy X o1))) (F0 m 20 ls []) := by
    intro H locs ls hG hl
    cases hM
    exact g_vret S hr hlk hG hsz dJ7_fill_53178_20 ⟨Nat.le_of_ble_eq_true rfl, Nat.le_of_ble_eq_true rfl⟩ rfl
  have loop_6 : ∀ (f : Nat) (v_1 : Int) (S_2 : St) (H : Heap) (locs : List Loc) (ls : Array Slot), mJ7_fill_53178_79_5 a2 f v_1 S_2 = some S_3 → gW D cy b n s H locs (enc b cy X S_2) → lv_has ls 4 [(3, .int (iI 26)), (2, .int (iI v_1)), (0, .ref (b + 76)), (1, .int (iI a2))] → W p l e (gRm 0 0 0) s m args below meth c H locs 0 0 (gQV D cy b s args below 0 0 (fun u => u = (n, enc b cy X o1))) (F0 m 5 ls []) := by
    clear hM
    intro f
    induction f with
    | zero => intro v_1 S_2 H locs ls hM; rw [mJ7_fill_53178_79_5] at hM; cases hM
    | succ f_8 ih_7 =>
      intro v_1 S_2 H locs ls hM hG hl
      rw [mJ7_fill_53178_79_5] at hM
      refine lv_iload_n hx hb dJ7_fill_53178_5 rfl (lv_at hl 1 rfl) ?_
      refine lv_iload_n hx hb dJ7_fill_53178_6 rfl (lv_at hl 0 rfl) ?_
      obtain ⟨hg_9, hM⟩ := gd_some hM
      refine gi_icmp_ge (tgt := 20) hx hb dJ7_fill_53178_7 (by decide) hg_9 (by decide) (fun c_10 => ?_) (fun c_10 => ?_)
      · replace hM := ifp hM c_10
        cases hM
        exact hK_5 H locs ls hG (lv_sub hl [] rfl)
      · replace hM := ifn hM c_10
        refine lv_aload_n hx hb dJ7_fill_53178_10 rfl (lv_at hl 2 rfl) ?_
        refine lv_iload_n hx hb dJ7_fill_53178_11 rfl (lv_at hl 1 rfl) ?_
        refine lv_iload_n hx hb dJ7_fill_53178_12 rfl (lv_at hl 3 rfl) ?_
        obtain ⟨hg_11, hM⟩ := gd_some hM
        refine mi_ast S hG 76 79 rfl ec_79 (Nat.lt_of_lt_of_le (Nat.le_of_ble_eq_true rfl) hn) dJ7_fill_53178_13 hg_11 (by decide) (fun H locs S_12 eS_12 hG => ?_)
        replace hM := nx_at hM eS_12
        clear eS_12
        refine lv_iinc (v := iI (v_1 + 1)) (lv' := [(2, .int (iI (v_1 + 1))), (3, .int (iI 26)), (0, .ref (b + 76)), (1, .int (iI a2))]) hx hb dJ7_fill_53178_14 hl (k := 1) rfl ((iI_add v_1 (1)).trans (congrArg iI (by omega))) (by decide) rfl (fun ls hl => ?_)
        refine lv_goto (tgt := 5) hx hb dJ7_fill_53178_17 (by decide) ?_
        exact ih_7 (v_1 + 1) S_12 H locs ls hM hG (lv_sub hl [1, 0, 2, 3] rfl)
  exact loop_6 FU 0 S0 H locs ls hc_4 hG (lv_sub hl [0, 1, 2, 3] rfl)
theorem wS_7_48 : gWS "GrownKinds$Roll" 48 yJ7_fill_fda19 cJ7_fill_fda19 5 none := ⟨wm_1551, wm_1552, wm_189, wm_1553, by decide +kernel, by decide +kernel⟩
theorem wS_java_util_Arrays_13 : gWS "java/util/Arrays" 13 yJ7_rangeCheck_23922 cJ7_rangeCheck_23922 3 none := ⟨wm_1554, wm_1555, wm_189, wm_1556, by decide +kernel, by decide +kernel⟩
def mJ7_rangeCheck_23922 (S0 : St) (a1 : Int) (a2 : Int) (a3 : Int) : Option (St) := gd ((inI a2) ∧ (inI a3)) <| if a2 ≤ a3 then (if 0 ≤ a2 then (gd (inI a1) <| if a3 ≤ a1 then (some (S0)) else (none)) else (none)) else (none)
set_option maxHeartbeats 4000000 in
set_option maxRecDepth 100000 in
theorem vJ7_rangeCheck_23922 (l : Launch) {D : va_G} {cy : Nat → ClassId} {b n : Nat} (hn : 102 ≤ n) {X : Nat → va_E} {S0 : St} (a1 : Int) (a2 : Int) (a3 : Int) {o1 : St} (hM : mJ7_rangeCheck_23922 S0 a1 a2 a3 = some o1) : gV l yJ7_rangeCheck_23922 cJ7_rangeCheck_23922 3 0 0 0 D cy b n (enc b cy X S0) [.int (iI a1), .int (iI a2), .int (iI a3)] (fun u => u = (n, enc b cy X o1)) := by
  refine gV_of (by decide) (Nat.le_of_ble_eq_true rfl) ?_
  intro p e s m args below meth c S hr hlk hin hsz ls hl hG
  have hx := S.1
  have hb := S.2.1
  have hl : lv_has ls 3 [(0, .int (iI a1)), (1, .int (iI a2)), (2, .int (iI a3))] := hl
  replace hG : gW D cy b n s s.heap [] (enc b cy X S0) := hG
  obtain ⟨H, eH⟩ : ∃ H, H = s.heap := ⟨_, rfl⟩
  obtain ⟨locs, elocs⟩ : ∃ locs : List Loc, locs = [] := ⟨_, rfl⟩
  rw [← eH, ← elocs] at hG
  rw [← eH, ← elocs]
  clear eH elocs
  unfold mJ7_rangeCheck_23922 at hM
  refine lv_iload_n hx hb dJ7_rangeCheck_23922_0 rfl (lv_at hl 1 rfl) ?_
  refine lv_iload_n hx hb dJ7_rangeCheck_23922_1 rfl (lv_at hl 2 rfl) ?_
  obtain ⟨hg_1, hM⟩ := gd_some hM
  refine gi_icmp_le (tgt := 46) hx hb dJ7_rangeCheck_23922_2 (by decide) hg_1.1 hg_1.2 (fun c_2 => ?_) (fun c_2 => ?_)
  · replace hM := ifp hM c_2
    refine lv_iload_n hx hb dJ7_rangeCheck_23922_46 rfl (lv_at hl 1 rfl) ?_
    refine gi_if_ge (tgt := 59) hx hb dJ7_rangeCheck_23922_47 (by decide) hg_1.1 (fun c_3 => ?_) (fun c_3 => ?_)
    · replace hM := ifp hM c_3
      refine lv_iload_n hx hb dJ7_rangeCheck_23922_59 rfl (lv_at hl 2 rfl) ?_
      refine lv_iload_n hx hb dJ7_rangeCheck_23922_60 rfl (lv_at hl 0 rfl) ?_
      obtain ⟨hg_4, hM⟩ := gd_some hM
      refine gi_icmp_le (tgt := 73) hx hb dJ7_rangeCheck_23922_61 (by decide) hg_1.2 hg_4 (fun c_5 => ?_) (fun c_5 => ?_)
      · replace hM := ifp hM c_5
        cases hM
        exact g_vret S hr hlk hG hsz dJ7_rangeCheck_23922_73 ⟨Nat.le_of_ble_eq_true rfl, Nat.le_of_ble_eq_true rfl⟩ rfl
      · replace hM := ifn hM c_5
        cases hM
    · replace hM := ifn hM c_3
      cases hM
  · replace hM := ifn hM c_2
    cases hM
def mJ7_fill_fda19_78_10 (a3 : Int) (a4 : Int) : Nat → Int → St → Option (St)
  | 0, _, _ => none
  | f + 1, v_3, S_4 => gd ((inI v_3) ∧ (inI a3)) <| if a3 ≤ v_3 then (some (S_4)) else (gd (0 ≤ v_3 ∧ v_3 < 1248) <| nx (up S_4 78 v_3 a4) fun S_14 => mJ7_fill_fda19_78_10 a3 a4 f (v_3 + 1) S_14)
def mJ7_fill_fda19_78 (S0 : St) (a2 : Int) (a3 : Int) (a4 : Int) : Option (St) := bd1 (mJ7_rangeCheck_23922 S0 1248 a2 a3) fun S_2 => bd1 (mJ7_fill_fda19_78_10 a3 a4 FU a2 S_2) fun S_5 => some (S_5)
set_option maxHeartbeats 4000000 in
set_option maxRecDepth 100000 in
theorem vJ7_fill_fda19_78 (l : Launch) {D : va_G} {cy : Nat → ClassId} {b n : Nat} (hn : 102 ≤ n) {X : Nat → va_E} {S0 : St} (a2 : Int) (a3 : Int) (a4 : Int) {o1 : St} (hM : mJ7_fill_fda19_78 S0 a2 a3 a4 = some o1) : gV l yJ7_fill_fda19 cJ7_fill_fda19 5 1 0 0 D cy b n (enc b cy X S0) [.ref (b + 75), .int (iI a2), .int (iI a3), .int (iI a4)] (fun u => u = (n, enc b cy X o1)) := by
  refine gV_of (by decide) (Nat.le_of_ble_eq_true rfl) ?_
  intro p e s m args below meth c S hr hlk hin hsz ls hl hG
  have hx := S.1
  have hb := S.2.1
  have hl : lv_has ls 5 [(0, .ref (b + 75)), (1, .int (iI a2)), (2, .int (iI a3)), (3, .int (iI a4))] := hl
  replace hG : gW D cy b n s s.heap [] (enc b cy X S0) := hG
  obtain ⟨H, eH⟩ : ∃ H, H = s.heap := ⟨_, rfl⟩
  obtain ⟨locs, elocs⟩ : ∃ locs : List Loc, locs = [] := ⟨_, rfl⟩
  rw [← eH, ← elocs] at hG
  rw [← eH, ← elocs]
  clear eH elocs
  unfold mJ7_fill_fda19_78 at hM
  refine lv_aload_n hx hb dJ7_fill_fda19_0 rfl (lv_at hl 0 rfl) ?_
  refine m_alen S hG 75 1 ec_78 rfl (Nat.lt_of_lt_of_le (Nat.le_of_ble_eq_true rfl) hn) dJ7_fill_fda19_1 (N := 1248) (show Int32.ofNat 1248 = iI 1248 by decide) ?_
  refine lv_iload_n hx hb dJ7_fill_fda19_2 rfl (lv_at hl 1 rfl) ?_
  refine lv_iload_n hx hb dJ7_fill_fda19_3 rfl (lv_at hl 2 rfl) ?_
  obtain ⟨S_2, hc_1, hM⟩ := bd1_some hM
  refine g_sv (As := [.int (iI 1248), .int (iI a2), .int (iI a3)]) (rest := []) S hG hsz (vJ7_rangeCheck_23922 l hn 1248 a2 a3 hc_1) wS_java_util_Arrays_13 dJ7_fill_fda19_4 rfl hl.1 (ar := 3) (by decide +kernel) rfl ⟨Nat.le_of_ble_eq_true rfl, Nat.le_of_ble_eq_true rfl, Nat.le_of_ble_eq_true rfl, Nat.le_of_ble_eq_true rfl⟩ (Nat.le_of_ble_eq_true rfl) (fun uu H locs hp hG => ?_)
  obtain rfl := hp
  replace hG : gW D cy b n s H locs (enc b cy X S_2) := hG
  refine lv_iload_n hx hb dJ7_fill_fda19_7 rfl (lv_at hl 1 rfl) ?_
  refine lv_istore (lv' := [(4, .int (iI a2)), (0, .ref (b + 75)), (1, .int (iI a2)), (2, .int (iI a3)), (3, .int (iI a4))]) hx hb dJ7_fill_fda19_8 hl (by decide) rfl (fun ls hl => ?_)
  obtain ⟨S_5, hc_6, hM⟩ := bd1_some hM
  have hK_7 : ∀ (H : Heap) (locs : List Loc) (ls : Array Slot), gW D cy b n s H locs (enc b cy X S_5) → lv_has ls 5 [] → W p l e (gRm 1 0 0) s m args below meth c H locs 0 0 (gQV D cy b s args below 0 0 (fun u => u = (n, enc b cy X o1))) (F0 m 27 ls []) := by
    intro H locs ls hG hl
    cases hM
    exact g_vret S hr hlk hG hsz dJ7_fill_fda19_27 ⟨Nat.le_of_ble_eq_true rfl, Nat.le_of_ble_eq_true rfl⟩ rfl
  have loop_8 : ∀ (f : Nat) (v_3 : Int) (S_4 : St) (H : Heap) (locs : List Loc) (ls : Array Slot), mJ7_fill_fda19_78_10 a3 a4 f v_3 S_4 = some S_5 → gW D cy b n s H locs (enc b cy X S_4) → lv_has ls 5 [(4, .int (iI v_3)), (0, .ref (b + 75)), (2, .int (iI a3)), (3, .int (iI a4))] → W p l e (gRm 1 0 0) s m args below meth c H locs 0 0 (gQV D cy b s args below 0 0 (fun u => u = (n, enc b cy X o1))) (F0 m 10 ls []) := by
    clear hM
    intro f
    induction f with
    | zero => intro v_3 S_4 H locs ls hM; rw [mJ7_fill_fda19_78_10] at hM; cases hM
    | succ f_10 ih_9 =>
      intro v_3 S_4 H locs ls hM hG hl
      rw [mJ7_fill_fda19_78_10] at hM
      refine lv_iload hx hb dJ7_fill_fda19_10 (lv_at hl 0 rfl) ?_
      refine lv_iload_n hx hb dJ7_fill_fda19_12 rfl (lv_at hl 2 rfl) ?_
      obtain ⟨hg_11, hM⟩ := gd_some hM
      refine gi_icmp_ge (tgt := 27) hx hb dJ7_fill_fda19_13 (by decide) hg_11.1 hg_11.2 (fun c_12 => ?_) (fun c_12 => ?_)
      · replace hM := ifp hM c_12
        cases hM
        exact hK_7 H locs ls hG (lv_sub hl [] rfl)
      · replace hM := ifn hM c_12
        refine lv_aload_n hx hb dJ7_fill_fda19_16 rfl (lv_at hl 1 rfl) ?_
        refine lv_iload hx hb dJ7_fill_fda19_17 (lv_at hl 0 rfl) ?_
        refine lv_iload_n hx hb dJ7_fill_fda19_19 rfl (lv_at hl 3 rfl) ?_
        obtain ⟨hg_13, hM⟩ := gd_some hM
        refine mi_ast S hG 75 78 rfl ec_78 (Nat.lt_of_lt_of_le (Nat.le_of_ble_eq_true rfl) hn) dJ7_fill_fda19_20 hg_13 (by decide) (fun H locs S_14 eS_14 hG => ?_)
        replace hM := nx_at hM eS_14
        clear eS_14
        refine lv_iinc (v := iI (v_3 + 1)) (lv' := [(4, .int (iI (v_3 + 1))), (0, .ref (b + 75)), (2, .int (iI a3)), (3, .int (iI a4))]) hx hb dJ7_fill_fda19_21 hl (k := 0) rfl ((iI_add v_3 (1)).trans (congrArg iI (by omega))) (by decide) rfl (fun ls hl => ?_)
        refine lv_goto (tgt := 10) hx hb dJ7_fill_fda19_24 (by decide) ?_
        exact ih_9 (v_3 + 1) S_14 H locs ls hM hG (lv_sub hl [0, 1, 2, 3] rfl)
  exact loop_8 FU a2 S_2 H locs ls hc_6 hG (lv_sub hl [0, 1, 3, 4] rfl)
def mX7_begin (S0 : St) (a1 : Int) : Option (St) := nx (up S0 73 1 (lor (S0 73 1) (lsh 1 a1))) fun S_1 => nx (up S_1 73 6 (-1)) fun S_2 => nx (up S_2 73 7 (-1)) fun S_3 => bd1 (mJ7_fill_53178_79 S_3 (-1)) fun S_5 => bd1 (mJ7_fill_fda19_78 S_5 (a1 * 26) ((a1 * 26) + 26) 0) fun S_7 => some (S_7)
set_option maxHeartbeats 4000000 in
set_option maxRecDepth 100000 in
theorem vX7_begin (l : Launch) {D : va_G} {cy : Nat → ClassId} {b n : Nat} (hn : 102 ≤ n) {X : Nat → va_E} {S0 : St} (a1 : Int) {o1 : St} (hM : mX7_begin S0 a1 = some o1) : gV l yX7_begin cX7_begin 2 2 0 0 D cy b n (enc b cy X S0) [.ref (b + 71), .int (iI a1)] (fun u => u = (n, enc b cy X o1)) := by
  refine gV_of (by decide) (Nat.le_of_ble_eq_true rfl) ?_
  intro p e s m args below meth c S hr hlk hin hsz ls hl hG
  have hx := S.1
  have hb := S.2.1
  have hl : lv_has ls 2 [(0, .ref (b + 71)), (1, .int (iI a1))] := hl
  replace hG : gW D cy b n s s.heap [] (enc b cy X S0) := hG
  obtain ⟨H, eH⟩ : ∃ H, H = s.heap := ⟨_, rfl⟩
  obtain ⟨locs, elocs⟩ : ∃ locs : List Loc, locs = [] := ⟨_, rfl⟩
  rw [← eH, ← elocs] at hG
  rw [← eH, ← elocs]
  clear eH elocs
  unfold mX7_begin at hM
  refine lv_aload_n hx hb dX7_begin_0 rfl (lv_at hl 0 rfl) ?_
  refine lv_dup hx hb dX7_begin_1 rfl ?_
  refine m_get S hG 71 73 1 rfl ec_73 cpX7 wm_605 dX7_begin_2 rfl (Nat.lt_of_lt_of_le (Nat.le_of_ble_eq_true rfl) hn) (by decide) ?_
  refine lv_lconst (v := jJ 1) hx hb dX7_begin_5 (by decide) ?_
  refine lv_iload_n hx hb dX7_begin_6 rfl (lv_at hl 1 rfl) ?_
  refine gj_shl hx hb dX7_begin_7 ?_
  refine gj_or hx hb dX7_begin_8 ?_
  refine m_put S hG 71 73 1 rfl 1 (lor (S0 73 1) (lsh 1 a1)) ec_73 cpX7 wm_605 dX7_begin_9 (pf_73_1) (Nat.lt_of_lt_of_le (Nat.le_of_ble_eq_true rfl) hn) (by decide) (Nat.le_of_ble_eq_true rfl) rfl rfl rfl (fun H locs S_1 eS_1 hG => ?_)
  replace hM := nx_at hM eS_1
  clear eS_1
  refine lv_aload_n hx hb dX7_begin_12 rfl (lv_at hl 0 rfl) ?_
  refine lv_iconst (v := iI (-1)) hx hb dX7_begin_13 (by decide) ?_
  refine m_put S hG 71 73 6 rfl 6 (-1) ec_73 cpX7 wm_614 dX7_begin_14 (pf_73_6) (Nat.lt_of_lt_of_le (Nat.le_of_ble_eq_true rfl) hn) (by decide) (Nat.le_of_ble_eq_true rfl) rfl rfl rfl (fun H locs S_2 eS_2 hG => ?_)
  replace hM := nx_at hM eS_2
  clear eS_2
  refine lv_aload_n hx hb dX7_begin_17 rfl (lv_at hl 0 rfl) ?_
  refine lv_iconst (v := iI (-1)) hx hb dX7_begin_18 (by decide) ?_
  refine m_put S hG 71 73 7 rfl 7 (-1) ec_73 cpX7 wm_615 dX7_begin_19 (pf_73_7) (Nat.lt_of_lt_of_le (Nat.le_of_ble_eq_true rfl) hn) (by decide) (Nat.le_of_ble_eq_true rfl) rfl rfl rfl (fun H locs S_3 eS_3 hG => ?_)
  replace hM := nx_at hM eS_3
  clear eS_3
  refine lv_aload_n hx hb dX7_begin_22 rfl (lv_at hl 0 rfl) ?_
  refine m_get S hG 71 73 8 rfl ec_73 cpX7 wm_616 dX7_begin_23 rfl (Nat.lt_of_lt_of_le (Nat.le_of_ble_eq_true rfl) hn) (by decide) ?_
  refine lv_iconst (v := iI (-1)) hx hb dX7_begin_26 (by decide) ?_
  obtain ⟨S_5, hc_4, hM⟩ := bd1_some hM
  refine g_sv (As := [.ref (b + 76), .int (iI (-1))]) (rest := []) S hG hsz (vJ7_fill_53178_79 l hn (-1) hc_4) wS_7_42 dX7_begin_27 rfl hl.1 (ar := 2) (by decide +kernel) rfl ⟨Nat.le_of_ble_eq_true rfl, Nat.le_of_ble_eq_true rfl, Nat.le_of_ble_eq_true rfl, Nat.le_of_ble_eq_true rfl⟩ (Nat.le_of_ble_eq_true rfl) (fun uu H locs hp hG => ?_)
  obtain rfl := hp
  replace hG : gW D cy b n s H locs (enc b cy X S_5) := hG
  refine lv_aload_n hx hb dX7_begin_30 rfl (lv_at hl 0 rfl) ?_
  refine m_get S hG 71 73 5 rfl ec_73 cpX7 wm_612 dX7_begin_31 rfl (Nat.lt_of_lt_of_le (Nat.le_of_ble_eq_true rfl) hn) (by decide) ?_
  refine lv_iload_n hx hb dX7_begin_34 rfl (lv_at hl 1 rfl) ?_
  refine lv_bipush (v := iI 26) hx hb dX7_begin_35 (by decide) ?_
  refine gi_mul hx hb dX7_begin_37 ?_
  refine lv_iload_n hx hb dX7_begin_38 rfl (lv_at hl 1 rfl) ?_
  refine lv_bipush (v := iI 26) hx hb dX7_begin_39 (by decide) ?_
  refine gi_mul hx hb dX7_begin_41 ?_
  refine lv_bipush (v := iI 26) hx hb dX7_begin_42 (by decide) ?_
  refine gi_add hx hb dX7_begin_44 ?_
  refine lv_iconst (v := iI 0) hx hb dX7_begin_45 (by decide) ?_
  obtain ⟨S_7, hc_6, hM⟩ := bd1_some hM
  refine g_sv (As := [.ref (b + 75), .int (iI (a1 * 26)), .int (iI ((a1 * 26) + 26)), .int (iI 0)]) (rest := []) S hG hsz (vJ7_fill_fda19_78 l hn (a1 * 26) ((a1 * 26) + 26) 0 hc_6) wS_7_48 dX7_begin_46 rfl hl.1 (ar := 4) (by decide +kernel) rfl ⟨Nat.le_of_ble_eq_true rfl, Nat.le_of_ble_eq_true rfl, Nat.le_of_ble_eq_true rfl, Nat.le_of_ble_eq_true rfl⟩ (Nat.le_of_ble_eq_true rfl) (fun uu H locs hp hG => ?_)
  obtain rfl := hp
  replace hG : gW D cy b n s H locs (enc b cy X S_7) := hG
  cases hM
  exact g_vret S hr hlk hG hsz dX7_begin_49 ⟨Nat.le_of_ble_eq_true rfl, Nat.le_of_ble_eq_true rfl⟩ rfl
theorem wV_7_59 : gWV "GrownKinds$Roll" 59 yX7_countAtoms cX7_countAtoms 5 none := ⟨wm_1561, wm_1563, wm_84, wm_186, wm_1564, by decide +kernel, by decide +kernel⟩
def mX7_countAtoms_2 (a1 : Int) (a2 : Int) : Nat → Int → St → Option (St)
  | 0, _, _ => none
  | f + 1, v_1, S_2 => gd (inI v_1) <| if 26 ≤ v_1 then (some (S_2)) else (gd (0 ≤ v_1 ∧ v_1 < 26) <| nx (S_2 65 v_1) fun x_12 => nx (a1 + v_1) fun x_13 => gd (0 ≤ x_13 ∧ x_13 < 1248) <| nx (up S_2 78 x_13 ((S_2 78 x_13) + x_12)) fun S_15 => gd ((inI x_12) ∧ (inI (S_15 79 v_1))) <| if x_12 ≤ (S_15 79 v_1) then (mX7_countAtoms_2 a1 a2 f (v_1 + 1) S_15) else (nx (up S_15 79 v_1 x_12) fun S_18 => gd (0 ≤ (a1 + v_1) ∧ (a1 + v_1) < 1248) <| nx (up S_18 77 (a1 + v_1) a2) fun S_20 => mX7_countAtoms_2 a1 a2 f (v_1 + 1) S_20))
def mX7_countAtoms (S0 : St) (a1 : Int) (a2 : Int) : Option (St) := bd1 (mX7_countAtoms_2 a1 a2 FU 0 S0) fun S_3 => some (S_3)
set_option maxHeartbeats 4000000 in
set_option maxRecDepth 100000 in
theorem vX7_countAtoms (l : Launch) {D : va_G} {cy : Nat → ClassId} {b n : Nat} (hn : 102 ≤ n) {X : Nat → va_E} {S0 : St} (a1 : Int) (a2 : Int) {o1 : St} (hM : mX7_countAtoms S0 a1 a2 = some o1) : gV l yX7_countAtoms cX7_countAtoms 5 0 0 0 D cy b n (enc b cy X S0) [.ref (b + 71), .int (iI a1), .int (iI a2)] (fun u => u = (n, enc b cy X o1)) := by
  refine gV_of (by decide) (Nat.le_of_ble_eq_true rfl) ?_
  intro p e s m args below meth c S hr hlk hin hsz ls hl hG
  have hx := S.1
  have hb := S.2.1
  have hl : lv_has ls 5 [(0, .ref (b + 71)), (1, .int (iI a1)), (2, .int (iI a2))] := hl
  replace hG : gW D cy b n s s.heap [] (enc b cy X S0) := hG
  obtain ⟨H, eH⟩ : ∃ H, H = s.heap := ⟨_, rfl⟩
  obtain ⟨locs, elocs⟩ : ∃ locs : List Loc, locs = [] := ⟨_, rfl⟩
  rw [← eH, ← elocs] at hG
  rw [← eH, ← elocs]
  clear eH elocs
  unfold mX7_countAtoms at hM
  refine lv_iconst (v := iI 0) hx hb dX7_countAtoms_0 (by decide) ?_
  refine lv_istore_n (lv' := [(3, .int (iI 0)), (0, .ref (b + 71)), (1, .int (iI a1)), (2, .int (iI a2))]) hx hb dX7_countAtoms_1 rfl hl (by decide) rfl (fun ls hl => ?_)
  obtain ⟨S_3, hc_4, hM⟩ := bd1_some hM
  have hK_5 : ∀ (H : Heap) (locs : List Loc) (ls : Array Slot), gW D cy b n s H locs (enc b cy X S_3) → lv_has ls 5 [] → W p l e (gRm 0 0 0) s m args below meth c H locs 0 0 (gQV D cy b s args below 0 0 (fun u => u = (n, enc b cy X o1))) (F0 m 66 ls []) := by
    intro H locs ls hG hl
    cases hM
    exact g_vret S hr hlk hG hsz dX7_countAtoms_66 ⟨Nat.le_of_ble_eq_true rfl, Nat.le_of_ble_eq_true rfl⟩ rfl
  have loop_6 : ∀ (f : Nat) (v_1 : Int) (S_2 : St) (H : Heap) (locs : List Loc) (ls : Array Slot), mX7_countAtoms_2 a1 a2 f v_1 S_2 = some S_3 → gW D cy b n s H locs (enc b cy X S_2) → lv_has ls 5 [(3, .int (iI v_1)), (0, .ref (b + 71)), (1, .int (iI a1)), (2, .int (iI a2))] → W p l e (gRm 0 0 0) s m args below meth c H locs 0 0 (gQV D cy b s args below 0 0 (fun u => u = (n, enc b cy X o1))) (F0 m 2 ls []) := by
    clear hM
    intro f
    induction f with
    | zero => intro v_1 S_2 H locs ls hM; rw [mX7_countAtoms_2] at hM; cases hM
    | succ f_8 ih_7 =>
      intro v_1 S_2 H locs ls hM hG hl
      rw [mX7_countAtoms_2] at hM
      refine lv_iload_n hx hb dX7_countAtoms_2 rfl (lv_at hl 0 rfl) ?_
      refine lv_bipush (v := iI 26) hx hb dX7_countAtoms_3 (by decide) ?_
      obtain ⟨hg_9, hM⟩ := gd_some hM
      refine gi_icmp_ge (tgt := 66) hx hb dX7_countAtoms_5 (by decide) hg_9 (by decide) (fun c_10 => ?_) (fun c_10 => ?_)
      · replace hM := ifp hM c_10
        cases hM
        exact hK_5 H locs ls hG (lv_sub hl [] rfl)
      · replace hM := ifn hM c_10
        refine lv_aload_n hx hb dX7_countAtoms_8 rfl (lv_at hl 1 rfl) ?_
        refine m_get S hG 71 73 0 rfl ec_73 cpX7 wm_604 dX7_countAtoms_9 rfl (Nat.lt_of_lt_of_le (Nat.le_of_ble_eq_true rfl) hn) (by decide) ?_
        refine m_get S hG 58 60 9 rfl ec_60 cpX9 wm_513 dX7_countAtoms_12 rfl (Nat.lt_of_lt_of_le (Nat.le_of_ble_eq_true rfl) hn) (by decide) ?_
        refine lv_iload_n hx hb dX7_countAtoms_15 rfl (lv_at hl 0 rfl) ?_
        obtain ⟨hg_11, hM⟩ := gd_some hM
        refine mi_ald S hG 63 65 rfl ec_65 (Nat.lt_of_lt_of_le (Nat.le_of_ble_eq_true rfl) hn) dX7_countAtoms_16 hg_11 (by decide) ?_
        refine gi_nm (fun x_12 ex_12 => ?_)
        replace hM := nx_at hM ex_12
        clear ex_12
        refine lv_istore (lv' := [(4, .int (iI x_12)), (3, .int (iI v_1)), (0, .ref (b + 71)), (1, .int (iI a1)), (2, .int (iI a2))]) hx hb dX7_countAtoms_17 hl (by decide) rfl (fun ls hl => ?_)
        refine lv_aload_n hx hb dX7_countAtoms_19 rfl (lv_at hl 2 rfl) ?_
        refine m_get S hG 71 73 5 rfl ec_73 cpX7 wm_612 dX7_countAtoms_20 rfl (Nat.lt_of_lt_of_le (Nat.le_of_ble_eq_true rfl) hn) (by decide) ?_
        refine lv_iload_n hx hb dX7_countAtoms_23 rfl (lv_at hl 3 rfl) ?_
        refine lv_iload_n hx hb dX7_countAtoms_24 rfl (lv_at hl 1 rfl) ?_
        refine gi_add hx hb dX7_countAtoms_25 ?_
        refine gi_nm (fun x_13 ex_13 => ?_)
        replace hM := nx_at hM ex_13
        clear ex_13
        refine lv_dup2_11 hx hb dX7_countAtoms_26 rfl rfl ?_
        obtain ⟨hg_14, hM⟩ := gd_some hM
        refine mi_ald S hG 75 78 rfl ec_78 (Nat.lt_of_lt_of_le (Nat.le_of_ble_eq_true rfl) hn) dX7_countAtoms_27 hg_14 (by decide) ?_
        refine lv_iload hx hb dX7_countAtoms_28 (lv_at hl 0 rfl) ?_
        refine gi_add hx hb dX7_countAtoms_30 ?_
        refine mi_ast S hG 75 78 rfl ec_78 (Nat.lt_of_lt_of_le (Nat.le_of_ble_eq_true rfl) hn) dX7_countAtoms_31 hg_14 (by decide) (fun H locs S_15 eS_15 hG => ?_)
        replace hM := nx_at hM eS_15
        clear eS_15
        refine lv_iload hx hb dX7_countAtoms_32 (lv_at hl 0 rfl) ?_
        refine lv_aload_n hx hb dX7_countAtoms_34 rfl (lv_at hl 2 rfl) ?_
        refine m_get S hG 71 73 8 rfl ec_73 cpX7 wm_616 dX7_countAtoms_35 rfl (Nat.lt_of_lt_of_le (Nat.le_of_ble_eq_true rfl) hn) (by decide) ?_
        refine lv_iload_n hx hb dX7_countAtoms_38 rfl (lv_at hl 1 rfl) ?_
        refine mi_ald S hG 76 79 rfl ec_79 (Nat.lt_of_lt_of_le (Nat.le_of_ble_eq_true rfl) hn) dX7_countAtoms_39 hg_11 (by decide) ?_
        obtain ⟨hg_16, hM⟩ := gd_some hM
        refine gi_icmp_le (tgt := 60) hx hb dX7_countAtoms_40 (by decide) hg_16.1 hg_16.2 (fun c_17 => ?_) (fun c_17 => ?_)
        · replace hM := ifp hM c_17
          refine lv_iinc (v := iI (v_1 + 1)) (lv' := [(3, .int (iI (v_1 + 1))), (4, .int (iI x_12)), (0, .ref (b + 71)), (1, .int (iI a1)), (2, .int (iI a2))]) hx hb dX7_countAtoms_60 hl (k := 1) rfl ((iI_add v_1 (1)).trans (congrArg iI (by omega))) (by decide) rfl (fun ls hl => ?_)
          refine lv_goto (tgt := 2) hx hb dX7_countAtoms_63 (by decide) ?_
          exact ih_7 (v_1 + 1) S_15 H locs ls hM hG (lv_sub hl [0, 2, 3, 4] rfl)
        · replace hM := ifn hM c_17
          refine lv_aload_n hx hb dX7_countAtoms_43 rfl (lv_at hl 2 rfl) ?_
          refine m_get S hG 71 73 8 rfl ec_73 cpX7 wm_616 dX7_countAtoms_44 rfl (Nat.lt_of_lt_of_le (Nat.le_of_ble_eq_true rfl) hn) (by decide) ?_
          refine lv_iload_n hx hb dX7_countAtoms_47 rfl (lv_at hl 1 rfl) ?_
          refine lv_iload hx hb dX7_countAtoms_48 (lv_at hl 0 rfl) ?_
          refine mi_ast S hG 76 79 rfl ec_79 (Nat.lt_of_lt_of_le (Nat.le_of_ble_eq_true rfl) hn) dX7_countAtoms_50 hg_11 (by decide) (fun H locs S_18 eS_18 hG => ?_)
          replace hM := nx_at hM eS_18
          clear eS_18
          refine lv_aload_n hx hb dX7_countAtoms_51 rfl (lv_at hl 2 rfl) ?_
          refine m_get S hG 71 73 4 rfl ec_73 cpX7 wm_610 dX7_countAtoms_52 rfl (Nat.lt_of_lt_of_le (Nat.le_of_ble_eq_true rfl) hn) (by decide) ?_
          refine lv_iload_n hx hb dX7_countAtoms_55 rfl (lv_at hl 3 rfl) ?_
          refine lv_iload_n hx hb dX7_countAtoms_56 rfl (lv_at hl 1 rfl) ?_
          refine gi_add hx hb dX7_countAtoms_57 ?_
          refine lv_iload_n hx hb dX7_countAtoms_58 rfl (lv_at hl 4 rfl) ?_
          obtain ⟨hg_19, hM⟩ := gd_some hM
          refine mi_ast S hG 74 77 rfl ec_77 (Nat.lt_of_lt_of_le (Nat.le_of_ble_eq_true rfl) hn) dX7_countAtoms_59 hg_19 (by decide) (fun H locs S_20 eS_20 hG => ?_)
          replace hM := nx_at hM eS_20
          clear eS_20
          refine lv_iinc (v := iI (v_1 + 1)) (lv' := [(3, .int (iI (v_1 + 1))), (4, .int (iI x_12)), (0, .ref (b + 71)), (1, .int (iI a1)), (2, .int (iI a2))]) hx hb dX7_countAtoms_60 hl (k := 1) rfl ((iI_add v_1 (1)).trans (congrArg iI (by omega))) (by decide) rfl (fun ls hl => ?_)
          refine lv_goto (tgt := 2) hx hb dX7_countAtoms_63 (by decide) ?_
          exact ih_7 (v_1 + 1) S_20 H locs ls hM hG (lv_sub hl [0, 2, 3, 4] rfl)
  exact loop_6 FU 0 S0 H locs ls hc_4 hG (lv_sub hl [0, 1, 2, 3] rfl)
def mX7_note (S0 : St) (a1 : Int) (a2 : Int) : Option (St) := bd1 (gd ((inI (S0 60 5)) ∧ (inI (S0 73 6))) <| if (S0 60 5) ≤ (S0 73 6) then (some (S0)) else (nx (up S0 73 6 (S0 60 5)) fun S_16 => gd (0 ≤ a1 ∧ a1 < 48) <| nx (up S_16 75 a1 a2) fun S_18 => some (S_18))) fun S_1 => bd1 (gd ((inI (S_1 60 6)) ∧ (inI (S_1 73 7))) <| if (S_1 60 6) ≤ (S_1 73 7) then (some (S_1)) else (nx (up S_1 73 7 (S_1 60 6)) fun S_11 => gd (0 ≤ a1 ∧ a1 < 48) <| nx (up S_11 76 a1 a2) fun S_13 => some (S_13))) fun S_4 => bd1 (mX7_countAtoms S_4 (a1 * 26) a2) fun S_8 => some (S_8)
set_option maxHeartbeats 4000000 in
set_option maxRecDepth 100000 in
theorem vX7_note (l : Launch) {D : va_G} {cy : Nat → ClassId} {b n : Nat} (hn : 102 ≤ n) {X : Nat → va_E} {S0 : St} (a1 : Int) (a2 : Int) {o1 : St} (hM : mX7_note S0 a1 a2 = some o1) : gV l yX7_note cX7_note 3 1 0 0 D cy b n (enc b cy X S0) [.ref (b + 71), .int (iI a1), .int (iI a2)] (fun u => u = (n, enc b cy X o1)) := by
  refine gV_of (by decide) (Nat.le_of_ble_eq_true rfl) ?_
  intro p e s m args below meth c S hr hlk hin hsz ls hl hG
  have hx := S.1
  have hb := S.2.1
  have hl : lv_has ls 3 [(0, .ref (b + 71)), (1, .int (iI a1)), (2, .int (iI a2))] := hl
  replace hG : gW D cy b n s s.heap [] (enc b cy X S0) := hG
  obtain ⟨H, eH⟩ : ∃ H, H = s.heap := ⟨_, rfl⟩
  obtain ⟨locs, elocs⟩ : ∃ locs : List Loc, locs = [] := ⟨_, rfl⟩
  rw [← eH, ← elocs] at hG
  rw [← eH, ← elocs]
  clear eH elocs
  unfold mX7_note at hM
  refine lv_aload_n hx hb dX7_note_0 rfl (lv_at hl 0 rfl) ?_
  refine m_get S hG 71 73 0 rfl ec_73 cpX7 wm_604 dX7_note_1 rfl (Nat.lt_of_lt_of_le (Nat.le_of_ble_eq_true rfl) hn) (by decide) ?_
  refine m_get S hG 58 60 5 rfl ec_60 cpX9 wm_503 dX7_note_4 rfl (Nat.lt_of_lt_of_le (Nat.le_of_ble_eq_true rfl) hn) (by decide) ?_
  refine lv_aload_n hx hb dX7_note_7 rfl (lv_at hl 0 rfl) ?_
  refine m_get S hG 71 73 6 rfl ec_73 cpX7 wm_614 dX7_note_8 rfl (Nat.lt_of_lt_of_le (Nat.le_of_ble_eq_true rfl) hn) (by decide) ?_
  obtain ⟨S_1, hc_2, hM⟩ := bd1_some hM
  have hK_3 : ∀ (H : Heap) (locs : List Loc) (ls : Array Slot), gW D cy b n s H locs (enc b cy X S_1) → lv_has ls 3 [(0, .ref (b + 71)), (1, .int (iI a1)), (2, .int (iI a2))] → W p l e (gRm 1 0 0) s m args below meth c H locs 0 0 (gQV D cy b s args below 0 0 (fun u => u = (n, enc b cy X o1))) (F0 m 32 ls []) := by
    intro H locs ls hG hl
    refine lv_aload_n hx hb dX7_note_32 rfl (lv_at hl 0 rfl) ?_
    refine m_get S hG 71 73 0 rfl ec_73 cpX7 wm_604 dX7_note_33 rfl (Nat.lt_of_lt_of_le (Nat.le_of_ble_eq_true rfl) hn) (by decide) ?_
    refine m_get S hG 58 60 6 rfl ec_60 cpX9 wm_506 dX7_note_36 rfl (Nat.lt_of_lt_of_le (Nat.le_of_ble_eq_true rfl) hn) (by decide) ?_
    refine lv_aload_n hx hb dX7_note_39 rfl (lv_at hl 0 rfl) ?_
    refine m_get S hG 71 73 7 rfl ec_73 cpX7 wm_615 dX7_note_40 rfl (Nat.lt_of_lt_of_le (Nat.le_of_ble_eq_true rfl) hn) (by decide) ?_
    obtain ⟨S_4, hc_5, hM⟩ := bd1_some hM
    have hK_6 : ∀ (H : Heap) (locs : List Loc) (ls : Array Slot), gW D cy b n s H locs (enc b cy X S_4) → lv_has ls 3 [(0, .ref (b + 71)), (1, .int (iI a1)), (2, .int (iI a2))] → W p l e (gRm 1 0 0) s m args below meth c H locs 0 0 (gQV D cy b s args below 0 0 (fun u => u = (n, enc b cy X o1))) (F0 m 64 ls []) := by
      intro H locs ls hG hl
      refine lv_aload_n hx hb dX7_note_64 rfl (lv_at hl 0 rfl) ?_
      refine lv_iload_n hx hb dX7_note_65 rfl (lv_at hl 1 rfl) ?_
      refine lv_bipush (v := iI 26) hx hb dX7_note_66 (by decide) ?_
      refine gi_mul hx hb dX7_note_68 ?_
      refine lv_iload_n hx hb dX7_note_69 rfl (lv_at hl 2 rfl) ?_
      obtain ⟨S_8, hc_7, hM⟩ := bd1_some hM
      refine g_vv (As := [.int (iI (a1 * 26)), .int (iI a2)]) (rest := []) S hG hsz (vX7_countAtoms l hn (a1 * 26) a2 hc_7) wV_7_59 (ec_73 _) cpX7 (Nat.lt_of_lt_of_le (Nat.le_of_ble_eq_true rfl) hn) dX7_note_70 rfl hl.1 (ar := 2) (by decide +kernel) rfl ⟨Nat.le_of_ble_eq_true rfl, Nat.le_of_ble_eq_true rfl, Nat.le_of_ble_eq_true rfl, Nat.le_of_ble_eq_true rfl⟩ (Nat.le_of_ble_eq_true rfl) (fun uu H locs hp hG => ?_)
      obtain rfl := hp
      replace hG : gW D cy b n s H locs (enc b cy X S_8) := hG
      cases hM
      exact g_vret S hr hlk hG hsz dX7_note_73 ⟨Nat.le_of_ble_eq_true rfl, Nat.le_of_ble_eq_true rfl⟩ rfl
    clear hM
    replace hM := hc_5
    obtain ⟨hg_9, hM⟩ := gd_some hM
    refine gi_icmp_le (tgt := 64) hx hb dX7_note_43 (by decide) hg_9.1 hg_9.2 (fun c_10 => ?_) (fun c_10 => ?_)
    · replace hM := ifp hM c_10
      cases hM
      exact hK_6 H locs ls hG (lv_sub hl [0, 1, 2] rfl)
    · replace hM := ifn hM c_10
      refine lv_aload_n hx hb dX7_note_46 rfl (lv_at hl 0 rfl) ?_
      refine lv_aload_n hx hb dX7_note_47 rfl (lv_at hl 0 rfl) ?_
      refine m_get S hG 71 73 0 rfl ec_73 cpX7 wm_604 dX7_note_48 rfl (Nat.lt_of_lt_of_le (Nat.le_of_ble_eq_true rfl) hn) (by decide) ?_
      refine m_get S hG 58 60 6 rfl ec_60 cpX9 wm_506 dX7_note_51 rfl (Nat.lt_of_lt_of_le (Nat.le_of_ble_eq_true rfl) hn) (by decide) ?_
      refine m_put S hG 71 73 7 rfl 7 (S_1 60 6) ec_73 cpX7 wm_615 dX7_note_54 (pf_73_7) (Nat.lt_of_lt_of_le (Nat.le_of_ble_eq_true rfl) hn) (by decide) (Nat.le_of_ble_eq_true rfl) rfl rfl rfl (fun H locs S_11 eS_11 hG => ?_)
      replace hM := nx_at hM eS_11
      clear eS_11
      refine lv_aload_n hx hb dX7_note_57 rfl (lv_at hl 0 rfl) ?_
      refine m_get S hG 71 73 3 rfl ec_73 cpX7 wm_608 dX7_note_58 rfl (Nat.lt_of_lt_of_le (Nat.le_of_ble_eq_true rfl) hn) (by decide) ?_
      refine lv_iload_n hx hb dX7_note_61 rfl (lv_at hl 1 rfl) ?_
      refine lv_iload_n hx hb dX7_note_62 rfl (lv_at hl 2 rfl) ?_
      obtain ⟨hg_12, hM⟩ := gd_some hM
      refine mi_ast S hG 73 76 rfl ec_76 (Nat.lt_of_lt_of_le (Nat.le_of_ble_eq_true rfl) hn) dX7_note_63 hg_12 (by decide) (fun H locs S_13 eS_13 hG => ?_)
      replace hM := nx_at hM eS_13
      clear eS_13
      cases hM
      exact hK_6 H locs ls hG (lv_sub hl [0, 1, 2] rfl)
  clear hM
  replace hM := hc_2
  obtain ⟨hg_14, hM⟩ := gd_some hM
  refine gi_icmp_le (tgt := 32) hx hb dX7_note_11 (by decide) hg_14.1 hg_14.2 (fun c_15 => ?_) (fun c_15 => ?_)
  · replace hM := ifp hM c_15
    cases hM
    exact hK_3 H locs ls hG (lv_sub hl [0, 1, 2] rfl)
  · replace hM := ifn hM c_15
    refine lv_aload_n hx hb dX7_note_14 rfl (lv_at hl 0 rfl) ?_
    refine lv_aload_n hx hb dX7_note_15 rfl (lv_at hl 0 rfl) ?_
    refine m_get S hG 71 73 0 rfl ec_73 cpX7 wm_604 dX7_note_16 rfl (Nat.lt_of_lt_of_le (Nat.le_of_ble_eq_true rfl) hn) (by decide) ?_
    refine m_get S hG 58 60 5 rfl ec_60 cpX9 wm_503 dX7_note_19 rfl (Nat.lt_of_lt_of_le (Nat.le_of_ble_eq_true rfl) hn) (by decide) ?_
    refine m_put S hG 71 73 6 rfl 6 (S0 60 5) ec_73 cpX7 wm_614 dX7_note_22 (pf_73_6) (Nat.lt_of_lt_of_le (Nat.le_of_ble_eq_true rfl) hn) (by decide) (Nat.le_of_ble_eq_true rfl) rfl rfl rfl (fun H locs S_16 eS_16 hG => ?_)
    replace hM := nx_at hM eS_16
    clear eS_16
    refine lv_aload_n hx hb dX7_note_25 rfl (lv_at hl 0 rfl) ?_
    refine m_get S hG 71 73 2 rfl ec_73 cpX7 wm_606 dX7_note_26 rfl (Nat.lt_of_lt_of_le (Nat.le_of_ble_eq_true rfl) hn) (by decide) ?_
    refine lv_iload_n hx hb dX7_note_29 rfl (lv_at hl 1 rfl) ?_
    refine lv_iload_n hx hb dX7_note_30 rfl (lv_at hl 2 rfl) ?_
    obtain ⟨hg_17, hM⟩ := gd_some hM
    refine mi_ast S hG 72 75 rfl ec_75 (Nat.lt_of_lt_of_le (Nat.le_of_ble_eq_true rfl) hn) dX7_note_31 hg_17 (by decide) (fun H locs S_18 eS_18 hG => ?_)
    replace hM := nx_at hM eS_18
    clear eS_18
    cases hM
    exact hK_3 H locs ls hG (lv_sub hl [0, 1, 2] rfl)
def mX9_push (S0 : St) (a1 : Int) : Option (St) := gd (inI (S0 60 12)) <| if 1100 ≤ (S0 60 12) then (some (S0)) else (gd (0 ≤ (S0 60 12) ∧ (S0 60 12) < 1100) <| nx (up S0 66 (S0 60 12) a1) fun S_4 => nx (up S_4 60 12 ((S_4 60 12) + 1)) fun S_5 => some (S_5))
set_option maxHeartbeats 4000000 in
set_option maxRecDepth 100000 in
theorem vX9_push (l : Launch) {D : va_G} {cy : Nat → ClassId} {b n : Nat} (hn : 102 ≤ n) {X : Nat → va_E} {S0 : St} (a1 : Int) {o1 : St} (hM : mX9_push S0 a1 = some o1) : gV l yX9_push cX9_push 2 0 0 0 D cy b n (enc b cy X S0) [.ref (b + 58), .int (iI a1)] (fun u => u = (n, enc b cy X o1)) := by
  refine gV_of (by decide) (Nat.le_of_ble_eq_true rfl) ?_
  intro p e s m args below meth c S hr hlk hin hsz ls hl hG
  have hx := S.1
  have hb := S.2.1
  have hl : lv_has ls 2 [(0, .ref (b + 58)), (1, .int (iI a1))] := hl
  replace hG : gW D cy b n s s.heap [] (enc b cy X S0) := hG
  obtain ⟨H, eH⟩ : ∃ H, H = s.heap := ⟨_, rfl⟩
  obtain ⟨locs, elocs⟩ : ∃ locs : List Loc, locs = [] := ⟨_, rfl⟩
  rw [← eH, ← elocs] at hG
  rw [← eH, ← elocs]
  clear eH elocs
  unfold mX9_push at hM
  refine lv_aload_n hx hb dX9_push_0 rfl (lv_at hl 0 rfl) ?_
  refine m_get S hG 58 60 12 rfl ec_60 cpX9 wm_517 dX9_push_1 rfl (Nat.lt_of_lt_of_le (Nat.le_of_ble_eq_true rfl) hn) (by decide) ?_
  refine lv_sipush (v := iI 1100) hx hb dX9_push_4 (by decide) ?_
  obtain ⟨hg_1, hM⟩ := gd_some hM
  refine gi_icmp_ge (tgt := 30) hx hb dX9_push_7 (by decide) hg_1 (by decide) (fun c_2 => ?_) (fun c_2 => ?_)
  · replace hM := ifp hM c_2
    cases hM
    exact g_vret S hr hlk hG hsz dX9_push_30 ⟨Nat.le_of_ble_eq_true rfl, Nat.le_of_ble_eq_true rfl⟩ rfl
  · replace hM := ifn hM c_2
    refine lv_aload_n hx hb dX9_push_10 rfl (lv_at hl 0 rfl) ?_
    refine m_get S hG 58 60 11 rfl ec_60 cpX9 wm_516 dX9_push_11 rfl (Nat.lt_of_lt_of_le (Nat.le_of_ble_eq_true rfl) hn) (by decide) ?_
    refine lv_aload_n hx hb dX9_push_14 rfl (lv_at hl 0 rfl) ?_
    refine m_get S hG 58 60 12 rfl ec_60 cpX9 wm_517 dX9_push_15 rfl (Nat.lt_of_lt_of_le (Nat.le_of_ble_eq_true rfl) hn) (by decide) ?_
    refine lv_iload_n hx hb dX9_push_18 rfl (lv_at hl 1 rfl) ?_
    obtain ⟨hg_3, hM⟩ := gd_some hM
    refine mi_ast S hG 64 66 rfl ec_66 (Nat.lt_of_lt_of_le (Nat.le_of_ble_eq_true rfl) hn) dX9_push_19 hg_3 (by decide) (fun H locs S_4 eS_4 hG => ?_)
    replace hM := nx_at hM eS_4
    clear eS_4
    refine lv_aload_n hx hb dX9_push_20 rfl (lv_at hl 0 rfl) ?_
    refine lv_dup hx hb dX9_push_21 rfl ?_
    refine m_get S hG 58 60 12 rfl ec_60 cpX9 wm_517 dX9_push_22 rfl (Nat.lt_of_lt_of_le (Nat.le_of_ble_eq_true rfl) hn) (by decide) ?_
    refine lv_iconst (v := iI 1) hx hb dX9_push_25 (by decide) ?_
    refine gi_add hx hb dX9_push_26 ?_
    refine m_put S hG 58 60 12 rfl 12 ((S_4 60 12) + 1) ec_60 cpX9 wm_517 dX9_push_27 (pf_60_12) (Nat.lt_of_lt_of_le (Nat.le_of_ble_eq_true rfl) hn) (by decide) (Nat.le_of_ble_eq_true rfl) rfl rfl rfl (fun H locs S_5 eS_5 hG => ?_)
    replace hM := nx_at hM eS_5
    clear eS_5
    cases hM
    exact g_vret S hr hlk hG hsz dX9_push_30 ⟨Nat.le_of_ble_eq_true rfl, Nat.le_of_ble_eq_true rfl⟩ rfl
theorem wV_9_112 : gWV "GrownKinds$Speller" 112 yX0_from cX0_from 3 (some .long) := ⟨wm_1304, wm_1225, wm_1226, wm_181, wm_1227, by decide +kernel, by decide +kernel⟩
theorem wV_9_116 : gWV "GrownKinds$Speller" 116 yX0_of cX0_of 3 (some .long) := ⟨wm_1305, wm_1306, wm_1307, wm_181, wm_1308, by decide +kernel, by decide +kernel⟩
def mX9_pushTerm_105 (S_13 : St) (x_26 : Int) (v_9 : Int) (v_10 : Int) (v_12 : Int) (y_3 : Int) : Nat → Int → Int → Int → Option (Int × Int × Int)
  | 0, _, _, _ => none
  | f + 1, v_29, v_30, v_31 => gd ((inI v_30) ∧ (inI v_12)) <| if v_12 ≤ v_30 then (some (v_31, v_30, v_29)) else (bd1 (mX0_of_40 S_13 v_10 v_30) fun r_59 => bd1 (mX11_times r_59 v_29) fun r_61 => gd ((inL v_31) ∧ (inL r_61)) <| if v_31 < r_61 then (some (v_31, v_30, v_29)) else (bd1 (mX0_of_40 S_13 v_10 v_30) fun r_65 => bd1 (mX11_times r_65 v_29) fun r_67 => nx (v_31 - r_67) fun x_68 => bd1 (mX0_from_40 S_13 x_26 (v_12 - (v_30 + 1))) fun r_70 => mX9_pushTerm_105 S_13 x_26 v_9 v_10 v_12 y_3 f r_70 (v_30 + 1) x_68))
def mX9_pushTerm_66 (y_3 : Int) : Nat → Int → Int → Int → Int → St → Option (St)
  | 0, _, _, _, _, _ => none
  | f + 1, v_9, v_10, v_11, v_12, S_13 => gd (inI v_9) <| if v_9 < 0 then (some (S_13)) else (gd (inI v_10) <| if v_10 = (-1) then (some (S_13)) else (gd (0 ≤ v_10 ∧ v_10 < 24) <| nx (S_13 6 v_10) fun x_26 => bd1 (mX0_from_40 S_13 x_26 v_12) fun r_28 => bd3 (mX9_pushTerm_105 S_13 x_26 v_9 v_10 v_12 y_3 FU r_28 0 v_11) fun y_32 y_33 y_34 => bd1 (gd (inL y_34) <| if 1 ≤ y_34 then (gd ((0 ≤ y_32 ∧ y_32 ≤ 9223372036854775807) ∧ (0 < y_34 ∧ y_34 ≤ 9223372036854775807)) <| some ((y_32 / y_34))) else (some (0))) fun z_37 => gd (inL z_37) <| gd (0 ≤ ((S_13 60 12) + v_9) ∧ ((S_13 60 12) + v_9) < 1100) <| nx (up S_13 66 ((S_13 60 12) + v_9) ((((v_10 * 8) + y_33) * 1024) + (min z_37 1023))) fun S_42 => bd1 (gd (inL y_34) <| if 1 ≤ y_34 then (gd ((0 ≤ y_32 ∧ y_32 ≤ 9223372036854775807) ∧ (0 < y_34 ∧ y_34 ≤ 9223372036854775807)) <| some ((y_32 % y_34))) else (some (0))) fun z_43 => nx (v_12 - y_33) fun x_46 => mX9_pushTerm_66 y_3 f (v_9 - 1) x_26 z_43 x_46 S_42))
def mX9_pushTerm_6 (S0 : St) (a1 : Int) (a2 : Int) (a3 : Int) : Nat → Int → Int → Option (Int)
  | 0, _, _ => none
  | f + 1, v_1, v_2 => gd (inI v_1) <| if v_1 = (-1) then (some (v_2)) else (gd (inI v_2) <| if 24 ≤ v_2 then (some (v_2)) else (gd (0 ≤ v_1 ∧ v_1 < 24) <| nx (S0 6 v_1) fun x_79 => mX9_pushTerm_6 S0 a1 a2 a3 f x_79 (v_2 + 1)))
def mX9_pushTerm (S0 : St) (a1 : Int) (a2 : Int) (a3 : Int) : Option (St) := bd1 (mX9_pushTerm_6 S0 a1 a2 a3 FU a1 0) fun y_3 => gd (inI ((S0 60 12) + y_3)) <| if ((S0 60 12) + y_3) ≤ 1100 then (nx (y_3 - 1) fun x_8 => bd1 (mX9_pushTerm_66 y_3 FU x_8 a1 a3 a2 S0) fun S_14 => nx (up S_14 60 12 ((S_14 60 12) + y_3)) fun S_17 => some (S_17)) else (some (S0))
set_option maxHeartbeats 4000000 in
set_option maxRecDepth 100000 in
theorem vX9_pushTerm (l : Launch) {D : va_G} {cy : Nat → ClassId} {b n : Nat} (hn : 102 ≤ n) {X : Nat → va_E} {S0 : St} (a1 : Int) (a2 : Int) (a3 : Int) {o1 : St} (hM : mX9_pushTerm S0 a1 a2 a3 = some o1) : gV l yX9_pushTerm cX9_pushTerm 17 1 0 0 D cy b n (enc b cy X S0) [.ref (b + 58), .int (iI a1), .int (iI a2), .long (jJ a3)] (fun u => u = (n, enc b cy X o1)) := by
  refine gV_of (by decide) (Nat.le_of_ble_eq_true rfl) ?_
  intro p e s m args below meth c S hr hlk hin hsz ls hl hG
  have hx := S.1
  have hb := S.2.1
  have hl : lv_has ls 17 [(0, .ref (b + 58)), (1, .int (iI a1)), (2, .int (iI a2)), (3, .long (jJ a3))] := hl
  replace hG : gW D cy b n s s.heap [] (enc b cy X S0) := hG
  obtain ⟨H, eH⟩ : ∃ H, H = s.heap := ⟨_, rfl⟩
  obtain ⟨locs, elocs⟩ : ∃ locs : List Loc, locs = [] := ⟨_, rfl⟩
  rw [← eH, ← elocs] at hG
  rw [← eH, ← elocs]
  clear eH elocs
  unfold mX9_pushTerm at hM
  refine lv_iconst (v := iI 0) hx hb dX9_pushTerm_0 (by decide) ?_
  refine lv_istore (lv' := [(5, .int (iI 0)), (0, .ref (b + 58)), (1, .int (iI a1)), (2, .int (iI a2)), (3, .long (jJ a3))]) hx hb dX9_pushTerm_1 hl (by decide) rfl (fun ls hl => ?_)
  refine lv_iload_n hx hb dX9_pushTerm_3 rfl (lv_at hl 2 rfl) ?_
  refine lv_istore (lv' := [(6, .int (iI a1)), (5, .int (iI 0)), (0, .ref (b + 58)), (1, .int (iI a1)), (2, .int (iI a2)), (3, .long (jJ a3))]) hx hb dX9_pushTerm_4 hl (by decide) rfl (fun ls hl => ?_)
  obtain ⟨y_3, hc_4, hM⟩ := bd1_some hM
  have hK_5 : ∀ (H : Heap) (locs : List Loc) (ls : Array Slot), gW D cy b n s H locs (enc b cy X S0) → lv_has ls 17 [(0, .ref (b + 58)), (1, .int (iI a1)), (2, .int (iI a2)), (3, .long (jJ a3)), (5, .int (iI y_3))] → W p l e (gRm 1 0 0) s m args below meth c H locs 0 0 (gQV D cy b s args below 0 0 (fun u => u = (n, enc b cy X o1))) (F0 m 37 ls []) := by
    intro H locs ls hG hl
    refine lv_aload_n hx hb dX9_pushTerm_37 rfl (lv_at hl 0 rfl) ?_
    refine m_get S hG 58 60 12 rfl ec_60 cpX9 wm_517 dX9_pushTerm_38 rfl (Nat.lt_of_lt_of_le (Nat.le_of_ble_eq_true rfl) hn) (by decide) ?_
    refine lv_iload hx hb dX9_pushTerm_41 (lv_at hl 4 rfl) ?_
    refine gi_add hx hb dX9_pushTerm_43 ?_
    refine lv_sipush (v := iI 1100) hx hb dX9_pushTerm_44 (by decide) ?_
    obtain ⟨hg_6, hM⟩ := gd_some hM
    refine gi_icmp_le (tgt := 51) hx hb dX9_pushTerm_47 (by decide) hg_6 (by decide) (fun c_7 => ?_) (fun c_7 => ?_)
    · replace hM := ifp hM c_7
      refine lv_iload_n hx hb dX9_pushTerm_51 rfl (lv_at hl 2 rfl) ?_
      refine lv_istore (lv' := [(6, .int (iI a2)), (0, .ref (b + 58)), (1, .int (iI a1)), (2, .int (iI a2)), (3, .long (jJ a3)), (5, .int (iI y_3))]) hx hb dX9_pushTerm_52 hl (by decide) rfl (fun ls hl => ?_)
      refine lv_lload_n hx hb dX9_pushTerm_54 rfl (lv_at hl 4 rfl) ?_
      refine lv_lstore (lv' := [(7, .long (jJ a3)), (6, .int (iI a2)), (0, .ref (b + 58)), (1, .int (iI a1)), (2, .int (iI a2)), (3, .long (jJ a3)), (5, .int (iI y_3))]) hx hb dX9_pushTerm_55 hl (by decide) rfl (fun ls hl => ?_)
      refine lv_iload_n hx hb dX9_pushTerm_57 rfl (lv_at hl 3 rfl) ?_
      refine lv_istore (lv' := [(9, .int (iI a1)), (7, .long (jJ a3)), (6, .int (iI a2)), (0, .ref (b + 58)), (1, .int (iI a1)), (2, .int (iI a2)), (3, .long (jJ a3)), (5, .int (iI y_3))]) hx hb dX9_pushTerm_58 hl (by decide) rfl (fun ls hl => ?_)
      refine lv_iload hx hb dX9_pushTerm_60 (lv_at hl 7 rfl) ?_
      refine lv_iconst (v := iI 1) hx hb dX9_pushTerm_62 (by decide) ?_
      refine gi_sub hx hb dX9_pushTerm_63 ?_
      refine gi_nm (fun x_8 ex_8 => ?_)
      replace hM := nx_at hM ex_8
      clear ex_8
      refine lv_istore (lv' := [(10, .int (iI x_8)), (9, .int (iI a1)), (7, .long (jJ a3)), (6, .int (iI a2)), (0, .ref (b + 58)), (1, .int (iI a1)), (2, .int (iI a2)), (3, .long (jJ a3)), (5, .int (iI y_3))]) hx hb dX9_pushTerm_64 hl (by decide) rfl (fun ls hl => ?_)
      obtain ⟨S_14, hc_15, hM⟩ := bd1_some hM
      have hK_16 : ∀ (H : Heap) (locs : List Loc) (ls : Array Slot), gW D cy b n s H locs (enc b cy X S_14) → lv_has ls 17 [(0, .ref (b + 58)), (5, .int (iI y_3))] → W p l e (gRm 1 0 0) s m args below meth c H locs 0 0 (gQV D cy b s args below 0 0 (fun u => u = (n, enc b cy X o1))) (F0 m 264 ls []) := by
        intro H locs ls hG hl
        refine lv_aload_n hx hb dX9_pushTerm_264 rfl (lv_at hl 0 rfl) ?_
        refine lv_dup hx hb dX9_pushTerm_265 rfl ?_
        refine m_get S hG 58 60 12 rfl ec_60 cpX9 wm_517 dX9_pushTerm_266 rfl (Nat.lt_of_lt_of_le (Nat.le_of_ble_eq_true rfl) hn) (by decide) ?_
        refine lv_iload hx hb dX9_pushTerm_269 (lv_at hl 1 rfl) ?_
        refine gi_add hx hb dX9_pushTerm_271 ?_
        refine m_put S hG 58 60 12 rfl 12 ((S_14 60 12) + y_3) ec_60 cpX9 wm_517 dX9_pushTerm_272 (pf_60_12) (Nat.lt_of_lt_of_le (Nat.le_of_ble_eq_true rfl) hn) (by decide) (Nat.le_of_ble_eq_true rfl) rfl rfl rfl (fun H locs S_17 eS_17 hG => ?_)
        replace hM := nx_at hM eS_17
        clear eS_17
        cases hM
        exact g_vret S hr hlk hG hsz dX9_pushTerm_275 ⟨Nat.le_of_ble_eq_true rfl, Nat.le_of_ble_eq_true rfl⟩ rfl
      have loop_18 : ∀ (f : Nat) (v_9 : Int) (v_10 : Int) (v_11 : Int) (v_12 : Int) (S_13 : St) (H : Heap) (locs : List Loc) (ls : Array Slot), mX9_pushTerm_66 y_3 f v_9 v_10 v_11 v_12 S_13 = some S_14 → gW D cy b n s H locs (enc b cy X S_13) → lv_has ls 17 [(10, .int (iI v_9)), (9, .int (iI v_10)), (7, .long (jJ v_11)), (6, .int (iI v_12)), (0, .ref (b + 58)), (5, .int (iI y_3))] → W p l e (gRm 1 0 0) s m args below meth c H locs 0 0 (gQV D cy b s args below 0 0 (fun u => u = (n, enc b cy X o1))) (F0 m 66 ls []) := by
        clear hM
        intro f
        induction f with
        | zero => intro v_9 v_10 v_11 v_12 S_13 H locs ls hM; rw [mX9_pushTerm_66] at hM; cases hM
        | succ f_20 ih_19 =>
          intro v_9 v_10 v_11 v_12 S_13 H locs ls hM hG hl
          rw [mX9_pushTerm_66] at hM
          refine lv_iload hx hb dX9_pushTerm_66 (lv_at hl 0 rfl) ?_
          obtain ⟨hg_21, hM⟩ := gd_some hM
          refine gi_if_lt (tgt := 264) hx hb dX9_pushTerm_68 (by decide) hg_21 (fun c_22 => ?_) (fun c_22 => ?_)
          · replace hM := ifp hM c_22
            cases hM
            exact hK_16 H locs ls hG (lv_sub hl [4, 5] rfl)
          · replace hM := ifn hM c_22
            refine lv_iload hx hb dX9_pushTerm_71 (lv_at hl 1 rfl) ?_
            refine lv_iconst (v := iI (-1)) hx hb dX9_pushTerm_73 (by decide) ?_
            obtain ⟨hg_23, hM⟩ := gd_some hM
            refine gi_icmp_eq (tgt := 264) hx hb dX9_pushTerm_74 (by decide) hg_23 (by decide) (fun c_24 => ?_) (fun c_24 => ?_)
            · replace hM := ifp hM c_24
              cases hM
              exact hK_16 H locs ls hG (lv_sub hl [4, 5] rfl)
            · replace hM := ifn hM c_24
              refine lv_aload_n hx hb dX9_pushTerm_77 rfl (lv_at hl 4 rfl) ?_
              refine m_get S hG 58 60 0 rfl ec_60 cpX9 wm_495 dX9_pushTerm_78 rfl (Nat.lt_of_lt_of_le (Nat.le_of_ble_eq_true rfl) hn) (by decide) ?_
              refine m_get S hG 2 2 8 rfl ec_2 cpX2 wm_256 dX9_pushTerm_81 rfl (Nat.lt_of_lt_of_le (Nat.le_of_ble_eq_true rfl) hn) (by decide) ?_
              refine lv_iload hx hb dX9_pushTerm_84 (lv_at hl 1 rfl) ?_
              obtain ⟨hg_25, hM⟩ := gd_some hM
              refine mi_ald S hG 6 6 rfl ec_6 (Nat.lt_of_lt_of_le (Nat.le_of_ble_eq_true rfl) hn) dX9_pushTerm_86 hg_25 (by decide) ?_
              refine gi_nm (fun x_26 ex_26 => ?_)
              replace hM := nx_at hM ex_26
              clear ex_26
              refine lv_istore (lv' := [(11, .int (iI x_26)), (10, .int (iI v_9)), (9, .int (iI v_10)), (7, .long (jJ v_11)), (6, .int (iI v_12)), (0, .ref (b + 58)), (5, .int (iI y_3))]) hx hb dX9_pushTerm_87 hl (by decide) rfl (fun ls hl => ?_)
              refine lv_iconst (v := iI 0) hx hb dX9_pushTerm_89 (by decide) ?_
              refine lv_istore (lv' := [(12, .int (iI 0)), (11, .int (iI x_26)), (10, .int (iI v_9)), (9, .int (iI v_10)), (7, .long (jJ v_11)), (6, .int (iI v_12)), (0, .ref (b + 58)), (5, .int (iI y_3))]) hx hb dX9_pushTerm_90 hl (by decide) rfl (fun ls hl => ?_)
              refine lv_aload_n hx hb dX9_pushTerm_92 rfl (lv_at hl 6 rfl) ?_
              refine m_get S hG 58 60 1 rfl ec_60 cpX9 wm_496 dX9_pushTerm_93 rfl (Nat.lt_of_lt_of_le (Nat.le_of_ble_eq_true rfl) hn) (by decide) ?_
              refine lv_iload hx hb dX9_pushTerm_96 (lv_at hl 1 rfl) ?_
              refine lv_iload hx hb dX9_pushTerm_98 (lv_at hl 5 rfl) ?_
              obtain ⟨r_28, hc_27, hM⟩ := bd1_some hM
              refine g_vl (As := [.int (iI x_26), .int (iI v_12)]) (rest := []) S hG hsz (vX0_from_40 l hn x_26 v_12 hc_27) wV_9_112 (ec_40 _) cpX0 (Nat.lt_of_lt_of_le (Nat.le_of_ble_eq_true rfl) hn) dX9_pushTerm_100 rfl hl.1 (ar := 2) (by decide +kernel) rfl ⟨Nat.le_of_ble_eq_true rfl, Nat.le_of_ble_eq_true rfl, Nat.le_of_ble_eq_true rfl, Nat.le_of_ble_eq_true rfl⟩ (Nat.le_of_ble_eq_true rfl) (fun rv uu H locs hp hG => ?_)
              obtain ⟨rfl, rfl⟩ := hp
              replace hG : gW D cy b n s H locs (enc b cy X S_13) := hG
              refine lv_lstore (lv' := [(13, .long (jJ r_28)), (12, .int (iI 0)), (11, .int (iI x_26)), (10, .int (iI v_9)), (9, .int (iI v_10)), (7, .long (jJ v_11)), (6, .int (iI v_12)), (0, .ref (b + 58)), (5, .int (iI y_3))]) hx hb dX9_pushTerm_103 hl (by decide) rfl (fun ls hl => ?_)
              obtain ⟨y_32, y_33, y_34, hc_35, hM⟩ := bd3_some hM
              have hK_36 : ∀ (H : Heap) (locs : List Loc) (ls : Array Slot), gW D cy b n s H locs (enc b cy X S_13) → lv_has ls 17 [(11, .int (iI x_26)), (10, .int (iI v_9)), (9, .int (iI v_10)), (6, .int (iI v_12)), (0, .ref (b + 58)), (5, .int (iI y_3)), (7, .long (jJ y_32)), (12, .int (iI y_33)), (13, .long (jJ y_34))] → W p l e (gRm 1 0 0) s m args below meth c H locs 0 0 (gQV D cy b s args below 0 0 (fun u => u = (n, enc b cy X o1))) (F0 m 177 ls []) := by
                intro H locs ls hG hl
                refine lv_lload hx hb dX9_pushTerm_177 (lv_at hl 8 rfl) ?_
                refine lv_lconst (v := jJ 1) hx hb dX9_pushTerm_179 (by decide) ?_
                obtain ⟨z_37, hc_38, hM⟩ := bd1_some hM
                have hK_39 : ∀ (H : Heap) (locs : List Loc) (ls : Array Slot), gW D cy b n s H locs (enc b cy X S_13) → lv_has ls 17 [(11, .int (iI x_26)), (10, .int (iI v_9)), (9, .int (iI v_10)), (6, .int (iI v_12)), (0, .ref (b + 58)), (5, .int (iI y_3)), (7, .long (jJ y_32)), (12, .int (iI y_33)), (13, .long (jJ y_34))] → W p l e (gRm 1 0 0) s m args below meth c H locs 0 0 (gQV D cy b s args below 0 0 (fun u => u = (n, enc b cy X o1))) (F0 m 193 ls [.long (jJ z_37)]) := by
                  intro H locs ls hG hl
                  refine lv_lstore (lv' := [(15, .long (jJ z_37)), (11, .int (iI x_26)), (10, .int (iI v_9)), (9, .int (iI v_10)), (6, .int (iI v_12)), (0, .ref (b + 58)), (5, .int (iI y_3)), (7, .long (jJ y_32)), (12, .int (iI y_33)), (13, .long (jJ y_34))]) hx hb dX9_pushTerm_193 hl (by decide) rfl (fun ls hl => ?_)
                  refine lv_aload_n hx hb dX9_pushTerm_195 rfl (lv_at hl 5 rfl) ?_
                  refine m_get S hG 58 60 11 rfl ec_60 cpX9 wm_516 dX9_pushTerm_196 rfl (Nat.lt_of_lt_of_le (Nat.le_of_ble_eq_true rfl) hn) (by decide) ?_
                  refine lv_aload_n hx hb dX9_pushTerm_199 rfl (lv_at hl 5 rfl) ?_
                  refine m_get S hG 58 60 12 rfl ec_60 cpX9 wm_517 dX9_pushTerm_200 rfl (Nat.lt_of_lt_of_le (Nat.le_of_ble_eq_true rfl) hn) (by decide) ?_
                  refine lv_iload hx hb dX9_pushTerm_203 (lv_at hl 2 rfl) ?_
                  refine gi_add hx hb dX9_pushTerm_205 ?_
                  refine lv_iload hx hb dX9_pushTerm_206 (lv_at hl 3 rfl) ?_
                  refine lv_bipush (v := iI 8) hx hb dX9_pushTerm_208 (by decide) ?_
                  refine gi_mul hx hb dX9_pushTerm_210 ?_
                  refine lv_iload hx hb dX9_pushTerm_211 (lv_at hl 8 rfl) ?_
                  refine gi_add hx hb dX9_pushTerm_213 ?_
                  refine lv_sipush (v := iI 1024) hx hb dX9_pushTerm_214 (by decide) ?_
                  refine gi_mul hx hb dX9_pushTerm_217 ?_
                  refine lv_lload hx hb dX9_pushTerm_218 (lv_at hl 0 rfl) ?_
                  refine lv_ldc2 (v := 1023) hx hb S.2.2.2.1 (S.2.2.2.2 _ wm_1310) dX9_pushTerm_220 ?_
                  refine gj_as 1023 (by decide) ?_
                  obtain ⟨hg_40, hM⟩ := gd_some hM
                  refine gj_min S wm_1311 wm_1149 wm_190 wm_1150 hl.1 dX9_pushTerm_223 ⟨Nat.le_of_ble_eq_true rfl, Nat.le_of_ble_eq_true rfl, Nat.le_of_ble_eq_true rfl, Nat.le_of_ble_eq_true rfl⟩ hg_40 (by decide) ?_
                  refine gj_l2i hx hb dX9_pushTerm_226 ?_
                  refine gi_add hx hb dX9_pushTerm_227 ?_
                  obtain ⟨hg_41, hM⟩ := gd_some hM
                  refine mi_ast S hG 64 66 rfl ec_66 (Nat.lt_of_lt_of_le (Nat.le_of_ble_eq_true rfl) hn) dX9_pushTerm_228 hg_41 (by decide) (fun H locs S_42 eS_42 hG => ?_)
                  replace hM := nx_at hM eS_42
                  clear eS_42
                  refine lv_lload hx hb dX9_pushTerm_229 (lv_at hl 9 rfl) ?_
                  refine lv_lconst (v := jJ 1) hx hb dX9_pushTerm_231 (by decide) ?_
                  obtain ⟨z_43, hc_44, hM⟩ := bd1_some hM
                  have hK_45 : ∀ (H : Heap) (locs : List Loc) (ls : Array Slot), gW D cy b n s H locs (enc b cy X S_42) → lv_has ls 17 [(11, .int (iI x_26)), (10, .int (iI v_9)), (6, .int (iI v_12)), (0, .ref (b + 58)), (5, .int (iI y_3)), (12, .int (iI y_33))] → W p l e (gRm 1 0 0) s m args below meth c H locs 0 0 (gQV D cy b s args below 0 0 (fun u => u = (n, enc b cy X o1))) (F0 m 245 ls [.long (jJ z_43)]) := by
                    intro H locs ls hG hl
                    refine lv_lstore (lv' := [(7, .long (jJ z_43)), (11, .int (iI x_26)), (10, .int (iI v_9)), (6, .int (iI v_12)), (0, .ref (b + 58)), (5, .int (iI y_3)), (12, .int (iI y_33))]) hx hb dX9_pushTerm_245 hl (by decide) rfl (fun ls hl => ?_)
                    refine lv_iload hx hb dX9_pushTerm_247 (lv_at hl 3 rfl) ?_
                    refine lv_iload hx hb dX9_pushTerm_249 (lv_at hl 6 rfl) ?_
                    refine gi_sub hx hb dX9_pushTerm_251 ?_
                    refine gi_nm (fun x_46 ex_46 => ?_)
                    replace hM := nx_at hM ex_46
                    clear ex_46
                    refine lv_istore (lv' := [(6, .int (iI x_46)), (7, .long (jJ z_43)), (11, .int (iI x_26)), (10, .int (iI v_9)), (0, .ref (b + 58)), (5, .int (iI y_3)), (12, .int (iI y_33))]) hx hb dX9_pushTerm_252 hl (by decide) rfl (fun ls hl => ?_)
                    refine lv_iload hx hb dX9_pushTerm_254 (lv_at hl 2 rfl) ?_
                    refine lv_istore (lv' := [(9, .int (iI x_26)), (6, .int (iI x_46)), (7, .long (jJ z_43)), (11, .int (iI x_26)), (10, .int (iI v_9)), (0, .ref (b + 58)), (5, .int (iI y_3)), (12, .int (iI y_33))]) hx hb dX9_pushTerm_256 hl (by decide) rfl (fun ls hl => ?_)
                    refine lv_iinc (v := iI (v_9 - 1)) (lv' := [(10, .int (iI (v_9 - 1))), (9, .int (iI x_26)), (6, .int (iI x_46)), (7, .long (jJ z_43)), (11, .int (iI x_26)), (0, .ref (b + 58)), (5, .int (iI y_3)), (12, .int (iI y_33))]) hx hb dX9_pushTerm_258 hl (k := 4) rfl ((iI_add v_9 (-1)).trans (congrArg iI (by omega))) (by decide) rfl (fun ls hl => ?_)
                    refine lv_goto (tgt := 66) hx hb dX9_pushTerm_261 (by decide) ?_
                    exact ih_19 (v_9 - 1) x_26 z_43 x_46 S_42 H locs ls hM hG (lv_sub hl [0, 1, 3, 2, 5, 6] rfl)
                  clear hM
                  replace hM := hc_44
                  obtain ⟨hg_47, hM⟩ := gd_some hM
                  refine gj_cmp_ge (tgt := 240) hx hb dX9_pushTerm_232 dX9_pushTerm_233 (by decide) hg_47 (by decide) (fun c_48 => ?_) (fun c_48 => ?_)
                  · replace hM := ifp hM c_48
                    refine lv_lload hx hb dX9_pushTerm_240 (lv_at hl 7 rfl) ?_
                    refine lv_lload hx hb dX9_pushTerm_242 (lv_at hl 9 rfl) ?_
                    obtain ⟨hg_49, hM⟩ := gd_some hM
                    refine gj_rem hx hb dX9_pushTerm_244 hg_49.1 hg_49.2 ?_
                    cases hM
                    exact hK_45 H locs ls hG (lv_sub hl [1, 2, 4, 5, 6, 8] rfl)
                  · replace hM := ifn hM c_48
                    refine lv_lconst (v := jJ 0) hx hb dX9_pushTerm_236 (by decide) ?_
                    refine lv_goto (tgt := 245) hx hb dX9_pushTerm_237 (by decide) ?_
                    cases hM
                    exact hK_45 H locs ls hG (lv_sub hl [1, 2, 4, 5, 6, 8] rfl)
                clear hM
                replace hM := hc_38
                obtain ⟨hg_50, hM⟩ := gd_some hM
                refine gj_cmp_ge (tgt := 188) hx hb dX9_pushTerm_180 dX9_pushTerm_181 (by decide) hg_50 (by decide) (fun c_51 => ?_) (fun c_51 => ?_)
                · replace hM := ifp hM c_51
                  refine lv_lload hx hb dX9_pushTerm_188 (lv_at hl 6 rfl) ?_
                  refine lv_lload hx hb dX9_pushTerm_190 (lv_at hl 8 rfl) ?_
                  obtain ⟨hg_52, hM⟩ := gd_some hM
                  refine gj_div hx hb dX9_pushTerm_192 hg_52.1 hg_52.2 ?_
                  cases hM
                  exact hK_39 H locs ls hG (lv_sub hl [0, 1, 2, 3, 4, 5, 6, 7, 8] rfl)
                · replace hM := ifn hM c_51
                  refine lv_lconst (v := jJ 0) hx hb dX9_pushTerm_184 (by decide) ?_
                  refine lv_goto (tgt := 193) hx hb dX9_pushTerm_185 (by decide) ?_
                  cases hM
                  exact hK_39 H locs ls hG (lv_sub hl [0, 1, 2, 3, 4, 5, 6, 7, 8] rfl)
              have loop_53 : ∀ (f : Nat) (v_29 : Int) (v_30 : Int) (v_31 : Int) (H : Heap) (locs : List Loc) (ls : Array Slot), mX9_pushTerm_105 S_13 x_26 v_9 v_10 v_12 y_3 f v_29 v_30 v_31 = some (y_32, y_33, y_34) → gW D cy b n s H locs (enc b cy X S_13) → lv_has ls 17 [(13, .long (jJ v_29)), (12, .int (iI v_30)), (11, .int (iI x_26)), (10, .int (iI v_9)), (9, .int (iI v_10)), (7, .long (jJ v_31)), (6, .int (iI v_12)), (0, .ref (b + 58)), (5, .int (iI y_3))] → W p l e (gRm 1 0 0) s m args below meth c H locs 0 0 (gQV D cy b s args below 0 0 (fun u => u = (n, enc b cy X o1))) (F0 m 105 ls []) := by
                clear hM
                intro f
                induction f with
                | zero => intro v_29 v_30 v_31 H locs ls hM; rw [mX9_pushTerm_105] at hM; cases hM
                | succ f_55 ih_54 =>
                  intro v_29 v_30 v_31 H locs ls hM hG hl
                  rw [mX9_pushTerm_105] at hM
                  refine lv_iload hx hb dX9_pushTerm_105 (lv_at hl 1 rfl) ?_
                  refine lv_iload hx hb dX9_pushTerm_107 (lv_at hl 6 rfl) ?_
                  obtain ⟨hg_56, hM⟩ := gd_some hM
                  refine gi_icmp_ge (tgt := 177) hx hb dX9_pushTerm_109 (by decide) hg_56.1 hg_56.2 (fun c_57 => ?_) (fun c_57 => ?_)
                  · replace hM := ifp hM c_57
                    cases hM
                    exact hK_36 H locs ls hG (lv_sub hl [2, 3, 4, 6, 7, 8, 5, 1, 0] rfl)
                  · replace hM := ifn hM c_57
                    refine lv_lload hx hb dX9_pushTerm_112 (lv_at hl 5 rfl) ?_
                    refine lv_aload_n hx hb dX9_pushTerm_114 rfl (lv_at hl 7 rfl) ?_
                    refine m_get S hG 58 60 1 rfl ec_60 cpX9 wm_496 dX9_pushTerm_115 rfl (Nat.lt_of_lt_of_le (Nat.le_of_ble_eq_true rfl) hn) (by decide) ?_
                    refine lv_iload hx hb dX9_pushTerm_118 (lv_at hl 4 rfl) ?_
                    refine lv_iload hx hb dX9_pushTerm_120 (lv_at hl 1 rfl) ?_
                    obtain ⟨r_59, hc_58, hM⟩ := bd1_some hM
                    refine g_vl (As := [.int (iI v_10), .int (iI v_30)]) (rest := [.long (jJ v_31)]) S hG hsz (vX0_of_40 l hn v_10 v_30 hc_58) wV_9_116 (ec_40 _) cpX0 (Nat.lt_of_lt_of_le (Nat.le_of_ble_eq_true rfl) hn) dX9_pushTerm_122 rfl hl.1 (ar := 2) (by decide +kernel) rfl ⟨Nat.le_of_ble_eq_true rfl, Nat.le_of_ble_eq_true rfl, Nat.le_of_ble_eq_true rfl, Nat.le_of_ble_eq_true rfl⟩ (Nat.le_of_ble_eq_true rfl) (fun rv uu H locs hp hG => ?_)
                    obtain ⟨rfl, rfl⟩ := hp
                    replace hG : gW D cy b n s H locs (enc b cy X S_13) := hG
                    refine lv_lload hx hb dX9_pushTerm_125 (lv_at hl 0 rfl) ?_
                    obtain ⟨r_61, hc_60, hM⟩ := bd1_some hM
                    refine g_slN (As := [.long (jJ r_59), .long (jJ v_29)]) (rest := [.long (jJ v_31)]) S hG hsz (vX11_times l hn r_59 v_29 hc_60) (y := yX11_times) (host := "GrownKinds") (by decide +kernel) ⟨wm_1053, wm_177, wm_1054, by decide +kernel, by decide +kernel⟩ dX9_pushTerm_127 rfl hl.1 (ar := 2) (by decide +kernel) rfl ⟨Nat.le_of_ble_eq_true rfl, Nat.le_of_ble_eq_true rfl, Nat.le_of_ble_eq_true rfl, Nat.le_of_ble_eq_true rfl⟩ (Nat.le_of_ble_eq_true rfl) (fun rv uu H locs hp hG => ?_)
                    obtain ⟨rfl, rfl⟩ := hp
                    replace hG : gW D cy b n s H locs (enc b cy X S_13) := hG
                    obtain ⟨hg_62, hM⟩ := gd_some hM
                    refine gj_cmp_lt (tgt := 177) hx hb dX9_pushTerm_130 dX9_pushTerm_131 (by decide) hg_62.1 hg_62.2 (fun c_63 => ?_) (fun c_63 => ?_)
                    · replace hM := ifp hM c_63
                      cases hM
                      exact hK_36 H locs ls hG (lv_sub hl [2, 3, 4, 6, 7, 8, 5, 1, 0] rfl)
                    · replace hM := ifn hM c_63
                      refine lv_lload hx hb dX9_pushTerm_134 (lv_at hl 5 rfl) ?_
                      refine lv_aload_n hx hb dX9_pushTerm_136 rfl (lv_at hl 7 rfl) ?_
                      refine m_get S hG 58 60 1 rfl ec_60 cpX9 wm_496 dX9_pushTerm_137 rfl (Nat.lt_of_lt_of_le (Nat.le_of_ble_eq_true rfl) hn) (by decide) ?_
                      refine lv_iload hx hb dX9_pushTerm_140 (lv_at hl 4 rfl) ?_
                      refine lv_iload hx hb dX9_pushTerm_142 (lv_at hl 1 rfl) ?_
                      obtain ⟨r_65, hc_64, hM⟩ := bd1_some hM
                      refine g_vl (As := [.int (iI v_10), .int (iI v_30)]) (rest := [.long (jJ v_31)]) S hG hsz (vX0_of_40 l hn v_10 v_30 hc_64) wV_9_116 (ec_40 _) cpX0 (Nat.lt_of_lt_of_le (Nat.le_of_ble_eq_true rfl) hn) dX9_pushTerm_144 rfl hl.1 (ar := 2) (by decide +kernel) rfl ⟨Nat.le_of_ble_eq_true rfl, Nat.le_of_ble_eq_true rfl, Nat.le_of_ble_eq_true rfl, Nat.le_of_ble_eq_true rfl⟩ (Nat.le_of_ble_eq_true rfl) (fun rv uu H locs hp hG => ?_)
                      obtain ⟨rfl, rfl⟩ := hp
                      replace hG : gW D cy b n s H locs (enc b cy X S_13) := hG
                      refine lv_lload hx hb dX9_pushTerm_147 (lv_at hl 0 rfl) ?_
                      obtain ⟨r_67, hc_66, hM⟩ := bd1_some hM
                      refine g_slN (As := [.long (jJ r_65), .long (jJ v_29)]) (rest := [.long (jJ v_31)]) S hG hsz (vX11_times l hn r_65 v_29 hc_66) (y := yX11_times) (host := "GrownKinds") (by decide +kernel) ⟨wm_1053, wm_177, wm_1054, by decide +kernel, by decide +kernel⟩ dX9_pushTerm_149 rfl hl.1 (ar := 2) (by decide +kernel) rfl ⟨Nat.le_of_ble_eq_true rfl, Nat.le_of_ble_eq_true rfl, Nat.le_of_ble_eq_true rfl, Nat.le_of_ble_eq_true rfl⟩ (Nat.le_of_ble_eq_true rfl) (fun rv uu H locs hp hG => ?_)
                      obtain ⟨rfl, rfl⟩ := hp
                      replace hG : gW D cy b n s H locs (enc b cy X S_13) := hG
                      refine gj_sub hx hb dX9_pushTerm_152 ?_
                      refine gj_nm (fun x_68 ex_68 => ?_)
                      replace hM := nx_at hM ex_68
                      clear ex_68
                      refine lv_lstore (lv' := [(7, .long (jJ x_68)), (13, .long (jJ v_29)), (12, .int (iI v_30)), (11, .int (iI x_26)), (10, .int (iI v_9)), (9, .int (iI v_10)), (6, .int (iI v_12)), (0, .ref (b + 58)), (5, .int (iI y_3))]) hx hb dX9_pushTerm_153 hl (by decide) rfl (fun ls hl => ?_)
                      refine lv_iinc (v := iI (v_30 + 1)) (lv' := [(12, .int (iI (v_30 + 1))), (7, .long (jJ x_68)), (13, .long (jJ v_29)), (11, .int (iI x_26)), (10, .int (iI v_9)), (9, .int (iI v_10)), (6, .int (iI v_12)), (0, .ref (b + 58)), (5, .int (iI y_3))]) hx hb dX9_pushTerm_155 hl (k := 2) rfl ((iI_add v_30 (1)).trans (congrArg iI (by omega))) (by decide) rfl (fun ls hl => ?_)
                      refine lv_aload_n hx hb dX9_pushTerm_158 rfl (lv_at hl 7 rfl) ?_
                      refine m_get S hG 58 60 1 rfl ec_60 cpX9 wm_496 dX9_pushTerm_159 rfl (Nat.lt_of_lt_of_le (Nat.le_of_ble_eq_true rfl) hn) (by decide) ?_
                      refine lv_iload hx hb dX9_pushTerm_162 (lv_at hl 3 rfl) ?_
                      refine lv_iload hx hb dX9_pushTerm_164 (lv_at hl 6 rfl) ?_
                      refine lv_iload hx hb dX9_pushTerm_166 (lv_at hl 0 rfl) ?_
                      refine gi_sub hx hb dX9_pushTerm_168 ?_
                      obtain ⟨r_70, hc_69, hM⟩ := bd1_some hM
                      refine g_vl (As := [.int (iI x_26), .int (iI (v_12 - (v_30 + 1)))]) (rest := []) S hG hsz (vX0_from_40 l hn x_26 (v_12 - (v_30 + 1)) hc_69) wV_9_112 (ec_40 _) cpX0 (Nat.lt_of_lt_of_le (Nat.le_of_ble_eq_true rfl) hn) dX9_pushTerm_169 rfl hl.1 (ar := 2) (by decide +kernel) rfl ⟨Nat.le_of_ble_eq_true rfl, Nat.le_of_ble_eq_true rfl, Nat.le_of_ble_eq_true rfl, Nat.le_of_ble_eq_true rfl⟩ (Nat.le_of_ble_eq_true rfl) (fun rv uu H locs hp hG => ?_)
                      obtain ⟨rfl, rfl⟩ := hp
                      replace hG : gW D cy b n s H locs (enc b cy X S_13) := hG
                      refine lv_lstore (lv' := [(13, .long (jJ r_70)), (12, .int (iI (v_30 + 1))), (7, .long (jJ x_68)), (11, .int (iI x_26)), (10, .int (iI v_9)), (9, .int (iI v_10)), (6, .int (iI v_12)), (0, .ref (b + 58)), (5, .int (iI y_3))]) hx hb dX9_pushTerm_172 hl (by decide) rfl (fun ls hl => ?_)
                      refine lv_goto (tgt := 105) hx hb dX9_pushTerm_174 (by decide) ?_
                      exact ih_54 r_70 (v_30 + 1) x_68 H locs ls hM hG (lv_sub hl [0, 1, 3, 4, 5, 2, 6, 7, 8] rfl)
              exact loop_53 FU r_28 0 v_11 H locs ls hc_35 hG (lv_sub hl [0, 1, 2, 3, 4, 5, 6, 7, 8] rfl)
      exact loop_18 FU x_8 a1 a3 a2 S0 H locs ls hc_15 hG (lv_sub hl [0, 1, 2, 3, 4, 8] rfl)
    · replace hM := ifn hM c_7
      cases hM
      exact g_vret S hr hlk hG hsz dX9_pushTerm_50 ⟨Nat.le_of_ble_eq_true rfl, Nat.le_of_ble_eq_true rfl⟩ rfl
  have loop_71 : ∀ (f : Nat) (v_1 : Int) (v_2 : Int) (H : Heap) (locs : List Loc) (ls : Array Slot), mX9_pushTerm_6 S0 a1 a2 a3 f v_1 v_2 = some y_3 → gW D cy b n s H locs (enc b cy X S0) → lv_has ls 17 [(6, .int (iI v_1)), (5, .int (iI v_2)), (0, .ref (b + 58)), (1, .int (iI a1)), (2, .int (iI a2)), (3, .long (jJ a3))] → W p l e (gRm 1 0 0) s m args below meth c H locs 0 0 (gQV D cy b s args below 0 0 (fun u => u = (n, enc b cy X o1))) (F0 m 6 ls []) := by
    clear hM
    intro f
    induction f with
    | zero => intro v_1 v_2 H locs ls hM; rw [mX9_pushTerm_6] at hM; cases hM
    | succ f_73 ih_72 =>
      intro v_1 v_2 H locs ls hM hG hl
      rw [mX9_pushTerm_6] at hM
      refine lv_iload hx hb dX9_pushTerm_6 (lv_at hl 0 rfl) ?_
      refine lv_iconst (v := iI (-1)) hx hb dX9_pushTerm_8 (by decide) ?_
      obtain ⟨hg_74, hM⟩ := gd_some hM
      refine gi_icmp_eq (tgt := 37) hx hb dX9_pushTerm_9 (by decide) hg_74 (by decide) (fun c_75 => ?_) (fun c_75 => ?_)
      · replace hM := ifp hM c_75
        cases hM
        exact hK_5 H locs ls hG (lv_sub hl [2, 3, 4, 5, 1] rfl)
      · replace hM := ifn hM c_75
        refine lv_iload hx hb dX9_pushTerm_12 (lv_at hl 1 rfl) ?_
        refine lv_bipush (v := iI 24) hx hb dX9_pushTerm_14 (by decide) ?_
        obtain ⟨hg_76, hM⟩ := gd_some hM
        refine gi_icmp_ge (tgt := 37) hx hb dX9_pushTerm_16 (by decide) hg_76 (by decide) (fun c_77 => ?_) (fun c_77 => ?_)
        · replace hM := ifp hM c_77
          cases hM
          exact hK_5 H locs ls hG (lv_sub hl [2, 3, 4, 5, 1] rfl)
        · replace hM := ifn hM c_77
          refine lv_iinc (v := iI (v_2 + 1)) (lv' := [(5, .int (iI (v_2 + 1))), (6, .int (iI v_1)), (0, .ref (b + 58)), (1, .int (iI a1)), (2, .int (iI a2)), (3, .long (jJ a3))]) hx hb dX9_pushTerm_19 hl (k := 1) rfl ((iI_add v_2 (1)).trans (congrArg iI (by omega))) (by decide) rfl (fun ls hl => ?_)
          refine lv_aload_n hx hb dX9_pushTerm_22 rfl (lv_at hl 2 rfl) ?_
          refine m_get S hG 58 60 0 rfl ec_60 cpX9 wm_495 dX9_pushTerm_23 rfl (Nat.lt_of_lt_of_le (Nat.le_of_ble_eq_true rfl) hn) (by decide) ?_
          refine m_get S hG 2 2 8 rfl ec_2 cpX2 wm_256 dX9_pushTerm_26 rfl (Nat.lt_of_lt_of_le (Nat.le_of_ble_eq_true rfl) hn) (by decide) ?_
          refine lv_iload hx hb dX9_pushTerm_29 (lv_at hl 1 rfl) ?_
          obtain ⟨hg_78, hM⟩ := gd_some hM
          refine mi_ald S hG 6 6 rfl ec_6 (Nat.lt_of_lt_of_le (Nat.le_of_ble_eq_true rfl) hn) dX9_pushTerm_31 hg_78 (by decide) ?_
          refine gi_nm (fun x_79 ex_79 => ?_)
          replace hM := nx_at hM ex_79
          clear ex_79
          refine lv_istore (lv' := [(6, .int (iI x_79)), (5, .int (iI (v_2 + 1))), (0, .ref (b + 58)), (1, .int (iI a1)), (2, .int (iI a2)), (3, .long (jJ a3))]) hx hb dX9_pushTerm_32 hl (by decide) rfl (fun ls hl => ?_)
          refine lv_goto (tgt := 6) hx hb dX9_pushTerm_34 (by decide) ?_
          exact ih_72 x_79 (v_2 + 1) H locs ls hM hG (lv_sub hl [0, 1, 2, 3, 4, 5] rfl)
  exact loop_71 FU a1 0 H locs ls hc_4 hG (lv_sub hl [0, 1, 2, 3, 4, 5] rfl)
def mX9_weightOf (a1 : Int) : Option (Int) := some (((a1 * a1) * a1))
set_option maxHeartbeats 4000000 in
set_option maxRecDepth 100000 in
theorem vX9_weightOf (l : Launch) {D : va_G} {cy : Nat → ClassId} {b n : Nat} (hn : 102 ≤ n) {X : Nat → va_E} {S0 : St} (a1 : Int) {o1 : Int} (hM : mX9_weightOf a1 = some o1) : gI l yX9_weightOf cX9_weightOf 1 (some .int) 0 0 0 D cy b n (enc b cy X S0) [.int (iI a1)] (fun r u => r = iI o1 ∧ u = (n, enc b cy X S0)) := by
  refine gI_of (by decide) (Nat.le_of_ble_eq_true rfl) ?_
  intro p e s m args below meth c S hr hlk hin hsz ls hl hG
  have hx := S.1
  have hb := S.2.1
  have hl : lv_has ls 1 [(0, .int (iI a1))] := hl
  replace hG : gW D cy b n s s.heap [] (enc b cy X S0) := hG
  obtain ⟨H, eH⟩ : ∃ H, H = s.heap := ⟨_, rfl⟩
  obtain ⟨locs, elocs⟩ : ∃ locs : List Loc, locs = [] := ⟨_, rfl⟩
  rw [← eH, ← elocs] at hG
  rw [← eH, ← elocs]
  clear eH elocs
  unfold mX9_weightOf at hM
  refine lv_iload_n hx hb dX9_weightOf_0 rfl (lv_at hl 0 rfl) ?_
  refine lv_iload_n hx hb dX9_weightOf_1 rfl (lv_at hl 0 rfl) ?_
  refine gi_mul hx hb dX9_weightOf_2 ?_
  refine lv_iload_n hx hb dX9_weightOf_3 rfl (lv_at hl 0 rfl) ?_
  refine gi_mul hx hb dX9_weightOf_4 ?_
  cases hM
  exact g_iret S hr hlk hG hsz dX9_weightOf_5 ⟨Nat.le_of_ble_eq_true rfl, Nat.le_of_ble_eq_true rfl⟩ ⟨rfl, rfl⟩
