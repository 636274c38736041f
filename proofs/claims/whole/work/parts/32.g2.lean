theorem dX9_spellExpr_0 : decode cX9_spellExpr 0 = .ok (.iload_n 3, 1) := by decide +kernel
theorem dX9_spellExpr_1 : decode cX9_spellExpr 1 = .ok (.i2l, 1) := by decide +kernel
theorem dX9_spellExpr_2 : decode cX9_spellExpr 2 = .ok (.lstore 4, 2) := by decide +kernel
theorem dX9_spellExpr_4 : decode cX9_spellExpr 4 = .ok (.iconst 0, 1) := by decide +kernel
theorem dX9_spellExpr_5 : decode cX9_spellExpr 5 = .ok (.istore 6, 2) := by decide +kernel
theorem dX9_spellExpr_7 : decode cX9_spellExpr 7 = .ok (.iload 6, 2) := by decide +kernel
theorem dX9_spellExpr_9 : decode cX9_spellExpr 9 = .ok (.aload_n 0, 1) := by decide +kernel
theorem dX9_spellExpr_10 : decode cX9_spellExpr 10 = .ok (.getfield 50, 3) := by decide +kernel
theorem dX9_spellExpr_13 : decode cX9_spellExpr 13 = .ok (.getfield 90, 3) := by decide +kernel
theorem wm_265 : (Jvm.Cond.fieldLink "GrownKinds$Speller" (90 : Nat) "GrownKinds$Grammar" "termCount" "[I") ∈ gT := gT_in (List.mem_of_getElem? (i := 265) (by decide +kernel)) (by decide +kernel)
theorem dX9_spellExpr_16 : decode cX9_spellExpr 16 = .ok (.iload_n 1, 1) := by decide +kernel
theorem dX9_spellExpr_17 : decode cX9_spellExpr 17 = .ok (.iaload, 1) := by decide +kernel
theorem dX9_spellExpr_18 : decode cX9_spellExpr 18 = .ok (.iconst 1, 1) := by decide +kernel
theorem dX9_spellExpr_19 : decode cX9_spellExpr 19 = .ok (.isub, 1) := by decide +kernel
theorem dX9_spellExpr_20 : decode cX9_spellExpr 20 = .ok (.if_icmp .ge 42, 3) := by decide +kernel
theorem dX9_spellExpr_23 : decode cX9_spellExpr 23 = .ok (.lload 4, 2) := by decide +kernel
theorem dX9_spellExpr_25 : decode cX9_spellExpr 25 = .ok (.aload_n 0, 1) := by decide +kernel
theorem dX9_spellExpr_26 : decode cX9_spellExpr 26 = .ok (.getfield 54, 3) := by decide +kernel
theorem dX9_spellExpr_29 : decode cX9_spellExpr 29 = .ok (.iload_n 1, 1) := by decide +kernel
theorem dX9_spellExpr_30 : decode cX9_spellExpr 30 = .ok (.iload 6, 2) := by decide +kernel
theorem dX9_spellExpr_32 : decode cX9_spellExpr 32 = .ok (.iload_n 2, 1) := by decide +kernel
theorem dX9_spellExpr_33 : decode cX9_spellExpr 33 = .ok (.invokevirtual 95, 3) := by decide +kernel
theorem wm_1278 : (Jvm.Cond.methodLink "GrownKinds$Speller" (95 : Nat) ({ cls := "GrownKinds$Census", name := "byTerm", desc := "(III)J" } : Jvm.MethodName)) ∈ gT := gT_in (List.mem_of_getElem? (i := 1278) (by decide +kernel)) (by decide +kernel)
theorem dX9_spellExpr_36 : decode cX9_spellExpr 36 = .ok (.lcmp, 1) := by decide +kernel
theorem dX9_spellExpr_37 : decode cX9_spellExpr 37 = .ok (.ifCond .lt 25, 3) := by decide +kernel
theorem dX9_spellExpr_40 : decode cX9_spellExpr 40 = .ok (.lload 4, 2) := by decide +kernel
theorem dX9_spellExpr_42 : decode cX9_spellExpr 42 = .ok (.aload_n 0, 1) := by decide +kernel
theorem dX9_spellExpr_43 : decode cX9_spellExpr 43 = .ok (.getfield 54, 3) := by decide +kernel
theorem dX9_spellExpr_46 : decode cX9_spellExpr 46 = .ok (.iload_n 1, 1) := by decide +kernel
theorem dX9_spellExpr_47 : decode cX9_spellExpr 47 = .ok (.iload 6, 2) := by decide +kernel
theorem dX9_spellExpr_49 : decode cX9_spellExpr 49 = .ok (.iload_n 2, 1) := by decide +kernel
theorem dX9_spellExpr_50 : decode cX9_spellExpr 50 = .ok (.invokevirtual 95, 3) := by decide +kernel
theorem dX9_spellExpr_53 : decode cX9_spellExpr 53 = .ok (.lsub, 1) := by decide +kernel
theorem dX9_spellExpr_54 : decode cX9_spellExpr 54 = .ok (.lstore 4, 2) := by decide +kernel
theorem dX9_spellExpr_56 : decode cX9_spellExpr 56 = .ok (.iinc 6 1, 3) := by decide +kernel
theorem dX9_spellExpr_59 : decode cX9_spellExpr 59 = .ok (.goto (-52), 3) := by decide +kernel
theorem dX9_spellExpr_62 : decode cX9_spellExpr 62 = .ok (.aload_n 0, 1) := by decide +kernel
theorem dX9_spellExpr_63 : decode cX9_spellExpr 63 = .ok (.getfield 50, 3) := by decide +kernel
theorem dX9_spellExpr_66 : decode cX9_spellExpr 66 = .ok (.getfield 90, 3) := by decide +kernel
theorem dX9_spellExpr_69 : decode cX9_spellExpr 69 = .ok (.iload_n 1, 1) := by decide +kernel
theorem dX9_spellExpr_70 : decode cX9_spellExpr 70 = .ok (.iaload, 1) := by decide +kernel
theorem dX9_spellExpr_71 : decode cX9_spellExpr 71 = .ok (.iconst 1, 1) := by decide +kernel
theorem dX9_spellExpr_72 : decode cX9_spellExpr 72 = .ok (.if_icmp .le 12, 3) := by decide +kernel
theorem dX9_spellExpr_75 : decode cX9_spellExpr 75 = .ok (.aload_n 0, 1) := by decide +kernel
theorem dX9_spellExpr_76 : decode cX9_spellExpr 76 = .ok (.bipush 48, 2) := by decide +kernel
theorem dX9_spellExpr_78 : decode cX9_spellExpr 78 = .ok (.iload 6, 2) := by decide +kernel
theorem dX9_spellExpr_80 : decode cX9_spellExpr 80 = .ok (.iadd, 1) := by decide +kernel
theorem dX9_spellExpr_81 : decode cX9_spellExpr 81 = .ok (.invokevirtual 73, 3) := by decide +kernel
theorem wm_1279 : (Jvm.Cond.methodLink "GrownKinds$Speller" (73 : Nat) ({ cls := "GrownKinds$Speller", name := "put", desc := "(I)V" } : Jvm.MethodName)) ∈ gT := gT_in (List.mem_of_getElem? (i := 1279) (by decide +kernel)) (by decide +kernel)
theorem wm_1281 : (Jvm.Cond.instanceMethod ({ cls := "GrownKinds$Speller", name := "put", desc := "(I)V" } : Jvm.MethodName)) ∈ gT := gT_in (List.mem_of_getElem? (i := 1281) (by decide +kernel)) (by decide +kernel)
theorem wm_57 : Cond.selects "GrownKinds$Speller" ⟨"GrownKinds$Speller", "put", "(I)V"⟩ ⟨"GrownKinds$Speller", "put", "(I)V"⟩ ∈ gT := gT_in (List.mem_of_getElem? (i := 57) (by decide +kernel)) (by decide +kernel)
theorem wm_1282 : (Jvm.Cond.code ({ cls := "GrownKinds$Speller", name := "put", desc := "(I)V" } : Jvm.MethodName) prog_11_method_5_code (2 : Nat) (Option.none : Option Jvm.ClassFile.FieldType)) ∈ gT := gT_in (List.mem_of_getElem? (i := 1282) (by decide +kernel)) (by decide +kernel)
theorem dX9_spellExpr_84 : decode cX9_spellExpr 84 = .ok (.aload_n 0, 1) := by decide +kernel
theorem dX9_spellExpr_85 : decode cX9_spellExpr 85 = .ok (.aload_n 0, 1) := by decide +kernel
theorem dX9_spellExpr_86 : decode cX9_spellExpr 86 = .ok (.getfield 50, 3) := by decide +kernel
theorem dX9_spellExpr_89 : decode cX9_spellExpr 89 = .ok (.iload_n 1, 1) := by decide +kernel
theorem dX9_spellExpr_90 : decode cX9_spellExpr 90 = .ok (.iload 6, 2) := by decide +kernel
theorem dX9_spellExpr_92 : decode cX9_spellExpr 92 = .ok (.invokevirtual 101, 3) := by decide +kernel
theorem wm_1299 : (Jvm.Cond.methodLink "GrownKinds$Speller" (101 : Nat) ({ cls := "GrownKinds$Grammar", name := "start", desc := "(II)I" } : Jvm.MethodName)) ∈ gT := gT_in (List.mem_of_getElem? (i := 1299) (by decide +kernel)) (by decide +kernel)
theorem dX9_spellExpr_95 : decode cX9_spellExpr 95 = .ok (.iload_n 2, 1) := by decide +kernel
theorem dX9_spellExpr_96 : decode cX9_spellExpr 96 = .ok (.lload 4, 2) := by decide +kernel
theorem dX9_spellExpr_98 : decode cX9_spellExpr 98 = .ok (.invokevirtual 105, 3) := by decide +kernel
theorem wm_1300 : (Jvm.Cond.methodLink "GrownKinds$Speller" (105 : Nat) ({ cls := "GrownKinds$Speller", name := "pushTerm", desc := "(IIJ)V" } : Jvm.MethodName)) ∈ gT := gT_in (List.mem_of_getElem? (i := 1300) (by decide +kernel)) (by decide +kernel)
theorem wm_1302 : (Jvm.Cond.instanceMethod ({ cls := "GrownKinds$Speller", name := "pushTerm", desc := "(IIJ)V" } : Jvm.MethodName)) ∈ gT := gT_in (List.mem_of_getElem? (i := 1302) (by decide +kernel)) (by decide +kernel)
theorem wm_58 : Cond.selects "GrownKinds$Speller" ⟨"GrownKinds$Speller", "pushTerm", "(IIJ)V"⟩ ⟨"GrownKinds$Speller", "pushTerm", "(IIJ)V"⟩ ∈ gT := gT_in (List.mem_of_getElem? (i := 58) (by decide +kernel)) (by decide +kernel)
theorem wm_1303 : (Jvm.Cond.code ({ cls := "GrownKinds$Speller", name := "pushTerm", desc := "(IIJ)V" } : Jvm.MethodName) prog_11_method_8_code (17 : Nat) (Option.none : Option Jvm.ClassFile.FieldType)) ∈ gT := gT_in (List.mem_of_getElem? (i := 1303) (by decide +kernel)) (by decide +kernel)
theorem dX9_spellExpr_101 : decode cX9_spellExpr 101 = .ok (.iload 6, 2) := by decide +kernel
theorem dX9_spellExpr_103 : decode cX9_spellExpr 103 = .ok (.ireturn, 1) := by decide +kernel
theorem dX9_spellSequence_0 : decode cX9_spellSequence 0 = .ok (.aload_n 0, 1) := by decide +kernel
theorem dX9_spellSequence_1 : decode cX9_spellSequence 1 = .ok (.dup, 1) := by decide +kernel
theorem dX9_spellSequence_2 : decode cX9_spellSequence 2 = .ok (.getfield 35, 3) := by decide +kernel
theorem dX9_spellSequence_5 : decode cX9_spellSequence 5 = .ok (.iconst 1, 1) := by decide +kernel
theorem dX9_spellSequence_6 : decode cX9_spellSequence 6 = .ok (.iadd, 1) := by decide +kernel
theorem dX9_spellSequence_7 : decode cX9_spellSequence 7 = .ok (.putfield 35, 3) := by decide +kernel
theorem dX9_spellSequence_10 : decode cX9_spellSequence 10 = .ok (.aload_n 0, 1) := by decide +kernel
theorem dX9_spellSequence_11 : decode cX9_spellSequence 11 = .ok (.aload_n 0, 1) := by decide +kernel
theorem dX9_spellSequence_12 : decode cX9_spellSequence 12 = .ok (.getfield 19, 3) := by decide +kernel
theorem dX9_spellSequence_15 : decode cX9_spellSequence 15 = .ok (.aload_n 0, 1) := by decide +kernel
theorem dX9_spellSequence_16 : decode cX9_spellSequence 16 = .ok (.getfield 35, 3) := by decide +kernel
theorem dX9_spellSequence_19 : decode cX9_spellSequence 19 = .ok (.invokestatic 161, 3) := by decide +kernel
theorem wm_1337 : (Jvm.Cond.methodLink "GrownKinds$Speller" (161 : Nat) ({ cls := "java/lang/Math", name := "max", desc := "(II)I" } : Jvm.MethodName)) ∈ gT := gT_in (List.mem_of_getElem? (i := 1337) (by decide +kernel)) (by decide +kernel)
theorem dX9_spellSequence_22 : decode cX9_spellSequence 22 = .ok (.putfield 19, 3) := by decide +kernel
theorem dX9_spellSequence_25 : decode cX9_spellSequence 25 = .ok (.aload_n 0, 1) := by decide +kernel
theorem dX9_spellSequence_26 : decode cX9_spellSequence 26 = .ok (.aload_n 0, 1) := by decide +kernel
theorem dX9_spellSequence_27 : decode cX9_spellSequence 27 = .ok (.getfield 50, 3) := by decide +kernel
theorem dX9_spellSequence_30 : decode cX9_spellSequence 30 = .ok (.getfield 130, 3) := by decide +kernel
theorem wm_238 : (Jvm.Cond.fieldLink "GrownKinds$Speller" (130 : Nat) "GrownKinds$Grammar" "type" "[I") ∈ gT := gT_in (List.mem_of_getElem? (i := 238) (by decide +kernel)) (by decide +kernel)
theorem dX9_spellSequence_33 : decode cX9_spellSequence 33 = .ok (.iload_n 1, 1) := by decide +kernel
theorem dX9_spellSequence_34 : decode cX9_spellSequence 34 = .ok (.iaload, 1) := by decide +kernel
theorem dX9_spellSequence_35 : decode cX9_spellSequence 35 = .ok (.invokestatic 164, 3) := by decide +kernel
theorem dX9_spellSequence_38 : decode cX9_spellSequence 38 = .ok (.invokevirtual 73, 3) := by decide +kernel
theorem dX9_spellSequence_41 : decode cX9_spellSequence 41 = .ok (.aload_n 0, 1) := by decide +kernel
theorem dX9_spellSequence_42 : decode cX9_spellSequence 42 = .ok (.aload_n 0, 1) := by decide +kernel
theorem dX9_spellSequence_43 : decode cX9_spellSequence 43 = .ok (.getfield 50, 3) := by decide +kernel
theorem dX9_spellSequence_46 : decode cX9_spellSequence 46 = .ok (.getfield 130, 3) := by decide +kernel
theorem dX9_spellSequence_49 : decode cX9_spellSequence 49 = .ok (.iload_n 1, 1) := by decide +kernel
theorem dX9_spellSequence_50 : decode cX9_spellSequence 50 = .ok (.iaload, 1) := by decide +kernel
theorem dX9_spellSequence_51 : decode cX9_spellSequence 51 = .ok (.invokestatic 167, 3) := by decide +kernel
theorem dX9_spellSequence_54 : decode cX9_spellSequence 54 = .ok (.ineg, 1) := by decide +kernel
theorem dX9_spellSequence_55 : decode cX9_spellSequence 55 = .ok (.invokevirtual 170, 3) := by decide +kernel
theorem wm_1346 : (Jvm.Cond.methodLink "GrownKinds$Speller" (170 : Nat) ({ cls := "GrownKinds$Speller", name := "push", desc := "(I)V" } : Jvm.MethodName)) ∈ gT := gT_in (List.mem_of_getElem? (i := 1346) (by decide +kernel)) (by decide +kernel)
theorem wm_1348 : (Jvm.Cond.instanceMethod ({ cls := "GrownKinds$Speller", name := "push", desc := "(I)V" } : Jvm.MethodName)) ∈ gT := gT_in (List.mem_of_getElem? (i := 1348) (by decide +kernel)) (by decide +kernel)
theorem wm_62 : Cond.selects "GrownKinds$Speller" ⟨"GrownKinds$Speller", "push", "(I)V"⟩ ⟨"GrownKinds$Speller", "push", "(I)V"⟩ ∈ gT := gT_in (List.mem_of_getElem? (i := 62) (by decide +kernel)) (by decide +kernel)
theorem wm_1349 : (Jvm.Cond.code ({ cls := "GrownKinds$Speller", name := "push", desc := "(I)V" } : Jvm.MethodName) prog_11_method_6_code (2 : Nat) (Option.none : Option Jvm.ClassFile.FieldType)) ∈ gT := gT_in (List.mem_of_getElem? (i := 1349) (by decide +kernel)) (by decide +kernel)
theorem dX9_spellSequence_58 : decode cX9_spellSequence 58 = .ok (.aload_n 0, 1) := by decide +kernel
theorem dX9_spellSequence_59 : decode cX9_spellSequence 59 = .ok (.getfield 58, 3) := by decide +kernel
theorem dX9_spellSequence_62 : decode cX9_spellSequence 62 = .ok (.getfield 173, 3) := by decide +kernel
theorem wm_473 : (Jvm.Cond.fieldLink "GrownKinds$Speller" (173 : Nat) "GrownKinds$Sequences" "many" "I") ∈ gT := gT_in (List.mem_of_getElem? (i := 473) (by decide +kernel)) (by decide +kernel)
theorem dX9_spellSequence_65 : decode cX9_spellSequence 65 = .ok (.iconst 1, 1) := by decide +kernel
theorem dX9_spellSequence_66 : decode cX9_spellSequence 66 = .ok (.isub, 1) := by decide +kernel
theorem dX9_spellSequence_67 : decode cX9_spellSequence 67 = .ok (.istore_n 2, 1) := by decide +kernel
theorem dX9_spellSequence_68 : decode cX9_spellSequence 68 = .ok (.iload_n 2, 1) := by decide +kernel
theorem dX9_spellSequence_69 : decode cX9_spellSequence 69 = .ok (.ifCond .lt 51, 3) := by decide +kernel
theorem dX9_spellSequence_72 : decode cX9_spellSequence 72 = .ok (.aload_n 0, 1) := by decide +kernel
theorem dX9_spellSequence_73 : decode cX9_spellSequence 73 = .ok (.getfield 58, 3) := by decide +kernel
theorem dX9_spellSequence_76 : decode cX9_spellSequence 76 = .ok (.getfield 176, 3) := by decide +kernel
theorem wm_475 : (Jvm.Cond.fieldLink "GrownKinds$Speller" (176 : Nat) "GrownKinds$Sequences" "codes" "[I") ∈ gT := gT_in (List.mem_of_getElem? (i := 475) (by decide +kernel)) (by decide +kernel)
theorem dX9_spellSequence_79 : decode cX9_spellSequence 79 = .ok (.iload_n 2, 1) := by decide +kernel
theorem dX9_spellSequence_80 : decode cX9_spellSequence 80 = .ok (.iaload, 1) := by decide +kernel
theorem dX9_spellSequence_81 : decode cX9_spellSequence 81 = .ok (.istore_n 3, 1) := by decide +kernel
theorem dX9_spellSequence_82 : decode cX9_spellSequence 82 = .ok (.aload_n 0, 1) := by decide +kernel
theorem dX9_spellSequence_83 : decode cX9_spellSequence 83 = .ok (.aload_n 0, 1) := by decide +kernel
theorem dX9_spellSequence_84 : decode cX9_spellSequence 84 = .ok (.getfield 50, 3) := by decide +kernel
theorem dX9_spellSequence_87 : decode cX9_spellSequence 87 = .ok (.getfield 179, 3) := by decide +kernel
theorem wm_251 : (Jvm.Cond.fieldLink "GrownKinds$Speller" (179 : Nat) "GrownKinds$Grammar" "inside" "[I") ∈ gT := gT_in (List.mem_of_getElem? (i := 251) (by decide +kernel)) (by decide +kernel)
theorem dX9_spellSequence_90 : decode cX9_spellSequence 90 = .ok (.iload_n 1, 1) := by decide +kernel
theorem dX9_spellSequence_91 : decode cX9_spellSequence 91 = .ok (.iaload, 1) := by decide +kernel
theorem dX9_spellSequence_92 : decode cX9_spellSequence 92 = .ok (.bipush 8, 2) := by decide +kernel
theorem dX9_spellSequence_94 : decode cX9_spellSequence 94 = .ok (.imul, 1) := by decide +kernel
theorem dX9_spellSequence_95 : decode cX9_spellSequence 95 = .ok (.iload_n 3, 1) := by decide +kernel
theorem dX9_spellSequence_96 : decode cX9_spellSequence 96 = .ok (.sipush 1024, 3) := by decide +kernel
theorem dX9_spellSequence_99 : decode cX9_spellSequence 99 = .ok (.idiv, 1) := by decide +kernel
theorem dX9_spellSequence_100 : decode cX9_spellSequence 100 = .ok (.iadd, 1) := by decide +kernel
theorem dX9_spellSequence_101 : decode cX9_spellSequence 101 = .ok (.sipush 1024, 3) := by decide +kernel
theorem dX9_spellSequence_104 : decode cX9_spellSequence 104 = .ok (.imul, 1) := by decide +kernel
theorem dX9_spellSequence_105 : decode cX9_spellSequence 105 = .ok (.iload_n 3, 1) := by decide +kernel
theorem dX9_spellSequence_106 : decode cX9_spellSequence 106 = .ok (.sipush 1024, 3) := by decide +kernel
theorem dX9_spellSequence_109 : decode cX9_spellSequence 109 = .ok (.irem, 1) := by decide +kernel
theorem dX9_spellSequence_110 : decode cX9_spellSequence 110 = .ok (.iadd, 1) := by decide +kernel
theorem dX9_spellSequence_111 : decode cX9_spellSequence 111 = .ok (.invokevirtual 170, 3) := by decide +kernel
theorem dX9_spellSequence_114 : decode cX9_spellSequence 114 = .ok (.iinc 2 (-1), 3) := by decide +kernel
theorem dX9_spellSequence_117 : decode cX9_spellSequence 117 = .ok (.goto (-49), 3) := by decide +kernel
theorem dX9_spellSequence_120 : decode cX9_spellSequence 120 = .ok (.return_, 1) := by decide +kernel
theorem dX9_spellPart_0 : decode cX9_spellPart 0 = .ok (.aload_n 0, 1) := by decide +kernel
theorem dX9_spellPart_1 : decode cX9_spellPart 1 = .ok (.getfield 50, 3) := by decide +kernel
theorem dX9_spellPart_4 : decode cX9_spellPart 4 = .ok (.getfield 130, 3) := by decide +kernel
theorem dX9_spellPart_7 : decode cX9_spellPart 7 = .ok (.iload_n 1, 1) := by decide +kernel
theorem dX9_spellPart_8 : decode cX9_spellPart 8 = .ok (.iaload, 1) := by decide +kernel
theorem dX9_spellPart_9 : decode cX9_spellPart 9 = .ok (.tableswitch 197 0 6 #[43, 80, 197, 89, 107, 141, 159], 43) := by decide +kernel
theorem dX9_spellPart_52 : decode cX9_spellPart 52 = .ok (.aload_n 0, 1) := by decide +kernel
theorem dX9_spellPart_53 : decode cX9_spellPart 53 = .ok (.getfield 31, 3) := by decide +kernel
theorem dX9_spellPart_56 : decode cX9_spellPart 56 = .ok (.aload_n 0, 1) := by decide +kernel
theorem dX9_spellPart_57 : decode cX9_spellPart 57 = .ok (.getfield 50, 3) := by decide +kernel
theorem dX9_spellPart_60 : decode cX9_spellPart 60 = .ok (.getfield 133, 3) := by decide +kernel
theorem wm_244 : (Jvm.Cond.fieldLink "GrownKinds$Speller" (133 : Nat) "GrownKinds$Grammar" "value" "[I") ∈ gT := gT_in (List.mem_of_getElem? (i := 244) (by decide +kernel)) (by decide +kernel)
theorem dX9_spellPart_63 : decode cX9_spellPart 63 = .ok (.iload_n 1, 1) := by decide +kernel
theorem dX9_spellPart_64 : decode cX9_spellPart 64 = .ok (.iaload, 1) := by decide +kernel
theorem dX9_spellPart_65 : decode cX9_spellPart 65 = .ok (.dup2, 1) := by decide +kernel
theorem dX9_spellPart_66 : decode cX9_spellPart 66 = .ok (.iaload, 1) := by decide +kernel
theorem dX9_spellPart_67 : decode cX9_spellPart 67 = .ok (.iconst 1, 1) := by decide +kernel
theorem dX9_spellPart_68 : decode cX9_spellPart 68 = .ok (.iadd, 1) := by decide +kernel
theorem dX9_spellPart_69 : decode cX9_spellPart 69 = .ok (.iastore, 1) := by decide +kernel
theorem dX9_spellPart_70 : decode cX9_spellPart 70 = .ok (.aload_n 0, 1) := by decide +kernel
theorem dX9_spellPart_71 : decode cX9_spellPart 71 = .ok (.bipush 97, 2) := by decide +kernel
theorem dX9_spellPart_73 : decode cX9_spellPart 73 = .ok (.aload_n 0, 1) := by decide +kernel
theorem dX9_spellPart_74 : decode cX9_spellPart 74 = .ok (.getfield 50, 3) := by decide +kernel
theorem dX9_spellPart_77 : decode cX9_spellPart 77 = .ok (.getfield 133, 3) := by decide +kernel
theorem dX9_spellPart_80 : decode cX9_spellPart 80 = .ok (.iload_n 1, 1) := by decide +kernel
theorem dX9_spellPart_81 : decode cX9_spellPart 81 = .ok (.iaload, 1) := by decide +kernel
theorem dX9_spellPart_82 : decode cX9_spellPart 82 = .ok (.iadd, 1) := by decide +kernel
theorem dX9_spellPart_83 : decode cX9_spellPart 83 = .ok (.invokevirtual 73, 3) := by decide +kernel
theorem dX9_spellPart_86 : decode cX9_spellPart 86 = .ok (.goto 135, 3) := by decide +kernel
theorem dX9_spellPart_221 : decode cX9_spellPart 221 = .ok (.return_, 1) := by decide +kernel
theorem dX9_spellPart_89 : decode cX9_spellPart 89 = .ok (.aload_n 0, 1) := by decide +kernel
theorem dX9_spellPart_90 : decode cX9_spellPart 90 = .ok (.bipush 45, 2) := by decide +kernel
theorem dX9_spellPart_92 : decode cX9_spellPart 92 = .ok (.invokevirtual 73, 3) := by decide +kernel
theorem dX9_spellPart_95 : decode cX9_spellPart 95 = .ok (.goto 126, 3) := by decide +kernel
theorem dX9_spellPart_206 : decode cX9_spellPart 206 = .ok (.aload_n 0, 1) := by decide +kernel
theorem dX9_spellPart_207 : decode cX9_spellPart 207 = .ok (.aload_n 0, 1) := by decide +kernel
theorem dX9_spellPart_208 : decode cX9_spellPart 208 = .ok (.getfield 50, 3) := by decide +kernel
theorem dX9_spellPart_211 : decode cX9_spellPart 211 = .ok (.iload_n 1, 1) := by decide +kernel
theorem dX9_spellPart_212 : decode cX9_spellPart 212 = .ok (.invokevirtual 158, 3) := by decide +kernel
theorem wm_1417 : (Jvm.Cond.methodLink "GrownKinds$Speller" (158 : Nat) ({ cls := "GrownKinds$Grammar", name := "exprOf", desc := "(I)I" } : Jvm.MethodName)) ∈ gT := gT_in (List.mem_of_getElem? (i := 1417) (by decide +kernel)) (by decide +kernel)
theorem dX9_spellPart_215 : decode cX9_spellPart 215 = .ok (.iload_n 2, 1) := by decide +kernel
theorem dX9_spellPart_216 : decode cX9_spellPart 216 = .ok (.iload_n 3, 1) := by decide +kernel
theorem dX9_spellPart_217 : decode cX9_spellPart 217 = .ok (.invokevirtual 68, 3) := by decide +kernel
theorem wm_1274 : (Jvm.Cond.methodLink "GrownKinds$Speller" (68 : Nat) ({ cls := "GrownKinds$Speller", name := "spellExpr", desc := "(III)I" } : Jvm.MethodName)) ∈ gT := gT_in (List.mem_of_getElem? (i := 1274) (by decide +kernel)) (by decide +kernel)
theorem wm_1276 : (Jvm.Cond.instanceMethod ({ cls := "GrownKinds$Speller", name := "spellExpr", desc := "(III)I" } : Jvm.MethodName)) ∈ gT := gT_in (List.mem_of_getElem? (i := 1276) (by decide +kernel)) (by decide +kernel)
theorem wm_56 : Cond.selects "GrownKinds$Speller" ⟨"GrownKinds$Speller", "spellExpr", "(III)I"⟩ ⟨"GrownKinds$Speller", "spellExpr", "(III)I"⟩ ∈ gT := gT_in (List.mem_of_getElem? (i := 56) (by decide +kernel)) (by decide +kernel)
theorem wm_1277 : (Jvm.Cond.code ({ cls := "GrownKinds$Speller", name := "spellExpr", desc := "(III)I" } : Jvm.MethodName) prog_11_method_7_code (7 : Nat) (Option.some Jvm.ClassFile.FieldType.int)) ∈ gT := gT_in (List.mem_of_getElem? (i := 1277) (by decide +kernel)) (by decide +kernel)
theorem dX9_spellPart_220 : decode cX9_spellPart 220 = .ok (.pop, 1) := by decide +kernel
theorem dX9_spellPart_98 : decode cX9_spellPart 98 = .ok (.aload_n 0, 1) := by decide +kernel
theorem dX9_spellPart_99 : decode cX9_spellPart 99 = .ok (.getfield 58, 3) := by decide +kernel
theorem dX9_spellPart_102 : decode cX9_spellPart 102 = .ok (.iload_n 1, 1) := by decide +kernel
theorem dX9_spellPart_103 : decode cX9_spellPart 103 = .ok (.iload_n 2, 1) := by decide +kernel
theorem dX9_spellPart_104 : decode cX9_spellPart 104 = .ok (.iload_n 3, 1) := by decide +kernel
theorem dX9_spellPart_105 : decode cX9_spellPart 105 = .ok (.invokevirtual 136, 3) := by decide +kernel
theorem wm_1317 : (Jvm.Cond.methodLink "GrownKinds$Speller" (136 : Nat) ({ cls := "GrownKinds$Sequences", name := "findRow", desc := "(III)V" } : Jvm.MethodName)) ∈ gT := gT_in (List.mem_of_getElem? (i := 1317) (by decide +kernel)) (by decide +kernel)
theorem wm_1318 : (Jvm.Cond.instanceMethod ({ cls := "GrownKinds$Sequences", name := "findRow", desc := "(III)V" } : Jvm.MethodName)) ∈ gT := gT_in (List.mem_of_getElem? (i := 1318) (by decide +kernel)) (by decide +kernel)
theorem wm_1319 : (Jvm.Cond.selects "GrownKinds$Sequences" ({ cls := "GrownKinds$Sequences", name := "findRow", desc := "(III)V" } : Jvm.MethodName) ({ cls := "GrownKinds$Sequences", name := "findRow", desc := "(III)V" } : Jvm.MethodName)) ∈ gT := gT_in (List.mem_of_getElem? (i := 1319) (by decide +kernel)) (by decide +kernel)
theorem wm_1320 : (Jvm.Cond.code ({ cls := "GrownKinds$Sequences", name := "findRow", desc := "(III)V" } : Jvm.MethodName) prog_10_method_2_code (11 : Nat) (Option.none : Option Jvm.ClassFile.FieldType)) ∈ gT := gT_in (List.mem_of_getElem? (i := 1320) (by decide +kernel)) (by decide +kernel)
theorem dX9_spellPart_108 : decode cX9_spellPart 108 = .ok (.aload_n 0, 1) := by decide +kernel
theorem dX9_spellPart_109 : decode cX9_spellPart 109 = .ok (.iload_n 1, 1) := by decide +kernel
theorem dX9_spellPart_110 : decode cX9_spellPart 110 = .ok (.invokevirtual 141, 3) := by decide +kernel
theorem wm_1333 : (Jvm.Cond.methodLink "GrownKinds$Speller" (141 : Nat) ({ cls := "GrownKinds$Speller", name := "spellSequence", desc := "(I)V" } : Jvm.MethodName)) ∈ gT := gT_in (List.mem_of_getElem? (i := 1333) (by decide +kernel)) (by decide +kernel)
theorem wm_1335 : (Jvm.Cond.instanceMethod ({ cls := "GrownKinds$Speller", name := "spellSequence", desc := "(I)V" } : Jvm.MethodName)) ∈ gT := gT_in (List.mem_of_getElem? (i := 1335) (by decide +kernel)) (by decide +kernel)
theorem wm_61 : Cond.selects "GrownKinds$Speller" ⟨"GrownKinds$Speller", "spellSequence", "(I)V"⟩ ⟨"GrownKinds$Speller", "spellSequence", "(I)V"⟩ ∈ gT := gT_in (List.mem_of_getElem? (i := 61) (by decide +kernel)) (by decide +kernel)
theorem wm_1336 : (Jvm.Cond.code ({ cls := "GrownKinds$Speller", name := "spellSequence", desc := "(I)V" } : Jvm.MethodName) prog_11_method_10_code (4 : Nat) (Option.none : Option Jvm.ClassFile.FieldType)) ∈ gT := gT_in (List.mem_of_getElem? (i := 1336) (by decide +kernel)) (by decide +kernel)
theorem dX9_spellPart_113 : decode cX9_spellPart 113 = .ok (.goto 108, 3) := by decide +kernel
theorem dX9_spellPart_116 : decode cX9_spellPart 116 = .ok (.aload_n 0, 1) := by decide +kernel
theorem dX9_spellPart_117 : decode cX9_spellPart 117 = .ok (.getfield 58, 3) := by decide +kernel
theorem dX9_spellPart_120 : decode cX9_spellPart 120 = .ok (.iload_n 1, 1) := by decide +kernel
theorem dX9_spellPart_121 : decode cX9_spellPart 121 = .ok (.iload_n 2, 1) := by decide +kernel
theorem dX9_spellPart_122 : decode cX9_spellPart 122 = .ok (.iload_n 3, 1) := by decide +kernel
theorem dX9_spellPart_123 : decode cX9_spellPart 123 = .ok (.invokevirtual 144, 3) := by decide +kernel
theorem wm_1350 : (Jvm.Cond.methodLink "GrownKinds$Speller" (144 : Nat) ({ cls := "GrownKinds$Sequences", name := "findBag", desc := "(III)V" } : Jvm.MethodName)) ∈ gT := gT_in (List.mem_of_getElem? (i := 1350) (by decide +kernel)) (by decide +kernel)
theorem wm_1351 : (Jvm.Cond.instanceMethod ({ cls := "GrownKinds$Sequences", name := "findBag", desc := "(III)V" } : Jvm.MethodName)) ∈ gT := gT_in (List.mem_of_getElem? (i := 1351) (by decide +kernel)) (by decide +kernel)
theorem wm_1352 : (Jvm.Cond.selects "GrownKinds$Sequences" ({ cls := "GrownKinds$Sequences", name := "findBag", desc := "(III)V" } : Jvm.MethodName) ({ cls := "GrownKinds$Sequences", name := "findBag", desc := "(III)V" } : Jvm.MethodName)) ∈ gT := gT_in (List.mem_of_getElem? (i := 1352) (by decide +kernel)) (by decide +kernel)
theorem wm_1353 : (Jvm.Cond.code ({ cls := "GrownKinds$Sequences", name := "findBag", desc := "(III)V" } : Jvm.MethodName) prog_10_method_5_code (16 : Nat) (Option.none : Option Jvm.ClassFile.FieldType)) ∈ gT := gT_in (List.mem_of_getElem? (i := 1353) (by decide +kernel)) (by decide +kernel)
theorem dX9_spellPart_126 : decode cX9_spellPart 126 = .ok (.aload_n 0, 1) := by decide +kernel
theorem dX9_spellPart_127 : decode cX9_spellPart 127 = .ok (.dup, 1) := by decide +kernel
theorem dX9_spellPart_128 : decode cX9_spellPart 128 = .ok (.getfield 22, 3) := by decide +kernel
theorem dX9_spellPart_131 : decode cX9_spellPart 131 = .ok (.aload_n 0, 1) := by decide +kernel
theorem dX9_spellPart_132 : decode cX9_spellPart 132 = .ok (.getfield 58, 3) := by decide +kernel
theorem dX9_spellPart_135 : decode cX9_spellPart 135 = .ok (.invokevirtual 147, 3) := by decide +kernel
theorem wm_1367 : (Jvm.Cond.methodLink "GrownKinds$Speller" (147 : Nat) ({ cls := "GrownKinds$Sequences", name := "changesAlike", desc := "()I" } : Jvm.MethodName)) ∈ gT := gT_in (List.mem_of_getElem? (i := 1367) (by decide +kernel)) (by decide +kernel)
theorem wm_1368 : (Jvm.Cond.instanceMethod ({ cls := "GrownKinds$Sequences", name := "changesAlike", desc := "()I" } : Jvm.MethodName)) ∈ gT := gT_in (List.mem_of_getElem? (i := 1368) (by decide +kernel)) (by decide +kernel)
theorem wm_1369 : (Jvm.Cond.selects "GrownKinds$Sequences" ({ cls := "GrownKinds$Sequences", name := "changesAlike", desc := "()I" } : Jvm.MethodName) ({ cls := "GrownKinds$Sequences", name := "changesAlike", desc := "()I" } : Jvm.MethodName)) ∈ gT := gT_in (List.mem_of_getElem? (i := 1369) (by decide +kernel)) (by decide +kernel)
theorem wm_1370 : (Jvm.Cond.code ({ cls := "GrownKinds$Sequences", name := "changesAlike", desc := "()I" } : Jvm.MethodName) prog_10_method_13_code (4 : Nat) (Option.some Jvm.ClassFile.FieldType.int)) ∈ gT := gT_in (List.mem_of_getElem? (i := 1370) (by decide +kernel)) (by decide +kernel)
theorem dX9_spellPart_138 : decode cX9_spellPart 138 = .ok (.imul, 1) := by decide +kernel
theorem dX9_spellPart_139 : decode cX9_spellPart 139 = .ok (.putfield 22, 3) := by decide +kernel
theorem dX9_spellPart_142 : decode cX9_spellPart 142 = .ok (.aload_n 0, 1) := by decide +kernel
theorem dX9_spellPart_143 : decode cX9_spellPart 143 = .ok (.iload_n 1, 1) := by decide +kernel
theorem dX9_spellPart_144 : decode cX9_spellPart 144 = .ok (.invokevirtual 141, 3) := by decide +kernel
theorem dX9_spellPart_147 : decode cX9_spellPart 147 = .ok (.goto 74, 3) := by decide +kernel
theorem dX9_spellPart_150 : decode cX9_spellPart 150 = .ok (.aload_n 0, 1) := by decide +kernel
theorem dX9_spellPart_151 : decode cX9_spellPart 151 = .ok (.getfield 58, 3) := by decide +kernel
theorem dX9_spellPart_154 : decode cX9_spellPart 154 = .ok (.iload_n 1, 1) := by decide +kernel
theorem dX9_spellPart_155 : decode cX9_spellPart 155 = .ok (.iload_n 2, 1) := by decide +kernel
theorem dX9_spellPart_156 : decode cX9_spellPart 156 = .ok (.iload_n 3, 1) := by decide +kernel
theorem dX9_spellPart_157 : decode cX9_spellPart 157 = .ok (.invokevirtual 144, 3) := by decide +kernel
theorem dX9_spellPart_160 : decode cX9_spellPart 160 = .ok (.aload_n 0, 1) := by decide +kernel
theorem dX9_spellPart_161 : decode cX9_spellPart 161 = .ok (.iload_n 1, 1) := by decide +kernel
theorem dX9_spellPart_162 : decode cX9_spellPart 162 = .ok (.invokevirtual 141, 3) := by decide +kernel
theorem dX9_spellPart_165 : decode cX9_spellPart 165 = .ok (.goto 56, 3) := by decide +kernel
theorem dX9_spellPart_168 : decode cX9_spellPart 168 = .ok (.aload_n 0, 1) := by decide +kernel
theorem dX9_spellPart_169 : decode cX9_spellPart 169 = .ok (.getfield 58, 3) := by decide +kernel
theorem dX9_spellPart_172 : decode cX9_spellPart 172 = .ok (.iload_n 1, 1) := by decide +kernel
theorem dX9_spellPart_173 : decode cX9_spellPart 173 = .ok (.iload_n 2, 1) := by decide +kernel
theorem dX9_spellPart_174 : decode cX9_spellPart 174 = .ok (.iload_n 3, 1) := by decide +kernel
theorem dX9_spellPart_175 : decode cX9_spellPart 175 = .ok (.aload_n 0, 1) := by decide +kernel
theorem dX9_spellPart_176 : decode cX9_spellPart 176 = .ok (.getfield 44, 3) := by decide +kernel
theorem dX9_spellPart_179 : decode cX9_spellPart 179 = .ok (.invokevirtual 151, 3) := by decide +kernel
theorem wm_1371 : (Jvm.Cond.methodLink "GrownKinds$Speller" (151 : Nat) ({ cls := "GrownKinds$Sequences", name := "findRing", desc := "(IIII)V" } : Jvm.MethodName)) ∈ gT := gT_in (List.mem_of_getElem? (i := 1371) (by decide +kernel)) (by decide +kernel)
theorem wm_1372 : (Jvm.Cond.instanceMethod ({ cls := "GrownKinds$Sequences", name := "findRing", desc := "(IIII)V" } : Jvm.MethodName)) ∈ gT := gT_in (List.mem_of_getElem? (i := 1372) (by decide +kernel)) (by decide +kernel)
theorem wm_1373 : (Jvm.Cond.selects "GrownKinds$Sequences" ({ cls := "GrownKinds$Sequences", name := "findRing", desc := "(IIII)V" } : Jvm.MethodName) ({ cls := "GrownKinds$Sequences", name := "findRing", desc := "(IIII)V" } : Jvm.MethodName)) ∈ gT := gT_in (List.mem_of_getElem? (i := 1373) (by decide +kernel)) (by decide +kernel)
theorem wm_1374 : (Jvm.Cond.code ({ cls := "GrownKinds$Sequences", name := "findRing", desc := "(IIII)V" } : Jvm.MethodName) prog_10_method_6_code (8 : Nat) (Option.none : Option Jvm.ClassFile.FieldType)) ∈ gT := gT_in (List.mem_of_getElem? (i := 1374) (by decide +kernel)) (by decide +kernel)
theorem dX9_spellPart_182 : decode cX9_spellPart 182 = .ok (.aload_n 0, 1) := by decide +kernel
theorem dX9_spellPart_183 : decode cX9_spellPart 183 = .ok (.dup, 1) := by decide +kernel
theorem dX9_spellPart_184 : decode cX9_spellPart 184 = .ok (.getfield 22, 3) := by decide +kernel
theorem dX9_spellPart_187 : decode cX9_spellPart 187 = .ok (.aload_n 0, 1) := by decide +kernel
theorem dX9_spellPart_188 : decode cX9_spellPart 188 = .ok (.getfield 58, 3) := by decide +kernel
theorem dX9_spellPart_191 : decode cX9_spellPart 191 = .ok (.invokevirtual 155, 3) := by decide +kernel
theorem wm_1413 : (Jvm.Cond.methodLink "GrownKinds$Speller" (155 : Nat) ({ cls := "GrownKinds$Sequences", name := "turnsAlike", desc := "()I" } : Jvm.MethodName)) ∈ gT := gT_in (List.mem_of_getElem? (i := 1413) (by decide +kernel)) (by decide +kernel)
theorem wm_1414 : (Jvm.Cond.instanceMethod ({ cls := "GrownKinds$Sequences", name := "turnsAlike", desc := "()I" } : Jvm.MethodName)) ∈ gT := gT_in (List.mem_of_getElem? (i := 1414) (by decide +kernel)) (by decide +kernel)
theorem wm_1415 : (Jvm.Cond.selects "GrownKinds$Sequences" ({ cls := "GrownKinds$Sequences", name := "turnsAlike", desc := "()I" } : Jvm.MethodName) ({ cls := "GrownKinds$Sequences", name := "turnsAlike", desc := "()I" } : Jvm.MethodName)) ∈ gT := gT_in (List.mem_of_getElem? (i := 1415) (by decide +kernel)) (by decide +kernel)
theorem wm_1416 : (Jvm.Cond.code ({ cls := "GrownKinds$Sequences", name := "turnsAlike", desc := "()I" } : Jvm.MethodName) prog_10_method_12_code (3 : Nat) (Option.some Jvm.ClassFile.FieldType.int)) ∈ gT := gT_in (List.mem_of_getElem? (i := 1416) (by decide +kernel)) (by decide +kernel)
theorem dX9_spellPart_194 : decode cX9_spellPart 194 = .ok (.imul, 1) := by decide +kernel
theorem dX9_spellPart_195 : decode cX9_spellPart 195 = .ok (.putfield 22, 3) := by decide +kernel
theorem dX9_spellPart_198 : decode cX9_spellPart 198 = .ok (.aload_n 0, 1) := by decide +kernel
theorem dX9_spellPart_199 : decode cX9_spellPart 199 = .ok (.iload_n 1, 1) := by decide +kernel
theorem dX9_spellPart_200 : decode cX9_spellPart 200 = .ok (.invokevirtual 141, 3) := by decide +kernel
theorem dX9_spellPart_203 : decode cX9_spellPart 203 = .ok (.goto 18, 3) := by decide +kernel
theorem dX9_spell_0 : decode cX9_spell 0 = .ok (.iload_n 1, 1) := by decide +kernel
theorem dX9_spell_1 : decode cX9_spell 1 = .ok (.bipush 8, 2) := by decide +kernel
theorem dX9_spell_3 : decode cX9_spell 3 = .ok (.imul, 1) := by decide +kernel
theorem dX9_spell_4 : decode cX9_spell 4 = .ok (.iload_n 2, 1) := by decide +kernel
theorem dX9_spell_5 : decode cX9_spell 5 = .ok (.iadd, 1) := by decide +kernel
theorem dX9_spell_6 : decode cX9_spell 6 = .ok (.sipush 1024, 3) := by decide +kernel
theorem dX9_spell_9 : decode cX9_spell 9 = .ok (.imul, 1) := by decide +kernel
theorem dX9_spell_10 : decode cX9_spell 10 = .ok (.iload_n 3, 1) := by decide +kernel
theorem dX9_spell_11 : decode cX9_spell 11 = .ok (.iadd, 1) := by decide +kernel
theorem dX9_spell_12 : decode cX9_spell 12 = .ok (.istore 5, 2) := by decide +kernel
theorem dX9_spell_14 : decode cX9_spell 14 = .ok (.iload 4, 2) := by decide +kernel
theorem dX9_spell_16 : decode cX9_spell 16 = .ok (.aload_n 0, 1) := by decide +kernel
theorem dX9_spell_17 : decode cX9_spell 17 = .ok (.getfield 44, 3) := by decide +kernel
theorem dX9_spell_20 : decode cX9_spell 20 = .ok (.if_icmp .ne 13, 3) := by decide +kernel
theorem dX9_spell_23 : decode cX9_spell 23 = .ok (.iload 5, 2) := by decide +kernel
theorem dX9_spell_25 : decode cX9_spell 25 = .ok (.aload_n 0, 1) := by decide +kernel
theorem dX9_spell_26 : decode cX9_spell 26 = .ok (.getfield 47, 3) := by decide +kernel
theorem dX9_spell_29 : decode cX9_spell 29 = .ok (.if_icmp .ne 4, 3) := by decide +kernel
theorem dX9_spell_32 : decode cX9_spell 32 = .ok (.return_, 1) := by decide +kernel
theorem dX9_spell_33 : decode cX9_spell 33 = .ok (.aload_n 0, 1) := by decide +kernel
theorem dX9_spell_34 : decode cX9_spell 34 = .ok (.iload 4, 2) := by decide +kernel
theorem dX9_spell_36 : decode cX9_spell 36 = .ok (.putfield 44, 3) := by decide +kernel
theorem dX9_spell_39 : decode cX9_spell 39 = .ok (.aload_n 0, 1) := by decide +kernel
theorem dX9_spell_40 : decode cX9_spell 40 = .ok (.iload 5, 2) := by decide +kernel
theorem dX9_spell_42 : decode cX9_spell 42 = .ok (.putfield 47, 3) := by decide +kernel
theorem dX9_spell_45 : decode cX9_spell 45 = .ok (.aload_n 0, 1) := by decide +kernel
theorem dX9_spell_46 : decode cX9_spell 46 = .ok (.iconst 0, 1) := by decide +kernel
theorem dX9_spell_47 : decode cX9_spell 47 = .ok (.putfield 15, 3) := by decide +kernel
theorem dX9_spell_50 : decode cX9_spell 50 = .ok (.aload_n 0, 1) := by decide +kernel
theorem dX9_spell_51 : decode cX9_spell 51 = .ok (.iconst 0, 1) := by decide +kernel
theorem dX9_spell_52 : decode cX9_spell 52 = .ok (.putfield 19, 3) := by decide +kernel
theorem dX9_spell_55 : decode cX9_spell 55 = .ok (.aload_n 0, 1) := by decide +kernel
theorem dX9_spell_56 : decode cX9_spell 56 = .ok (.iconst 1, 1) := by decide +kernel
theorem dX9_spell_57 : decode cX9_spell 57 = .ok (.putfield 22, 3) := by decide +kernel
theorem dX9_spell_60 : decode cX9_spell 60 = .ok (.aload_n 0, 1) := by decide +kernel
theorem dX9_spell_61 : decode cX9_spell 61 = .ok (.iconst 0, 1) := by decide +kernel
theorem dX9_spell_62 : decode cX9_spell 62 = .ok (.putfield 28, 3) := by decide +kernel
theorem dX9_spell_65 : decode cX9_spell 65 = .ok (.aload_n 0, 1) := by decide +kernel
theorem dX9_spell_66 : decode cX9_spell 66 = .ok (.iconst 0, 1) := by decide +kernel
theorem dX9_spell_67 : decode cX9_spell 67 = .ok (.putfield 35, 3) := by decide +kernel
theorem dX9_spell_70 : decode cX9_spell 70 = .ok (.aload_n 0, 1) := by decide +kernel
theorem dX9_spell_71 : decode cX9_spell 71 = .ok (.iconst 0, 1) := by decide +kernel
theorem dX9_spell_72 : decode cX9_spell 72 = .ok (.putfield 41, 3) := by decide +kernel
theorem dX9_spell_75 : decode cX9_spell 75 = .ok (.aload_n 0, 1) := by decide +kernel
theorem dX9_spell_76 : decode cX9_spell 76 = .ok (.getfield 31, 3) := by decide +kernel
theorem dX9_spell_79 : decode cX9_spell 79 = .ok (.iconst 0, 1) := by decide +kernel
theorem dX9_spell_80 : decode cX9_spell 80 = .ok (.invokestatic 62, 3) := by decide +kernel
theorem wm_1273 : (Jvm.Cond.methodLink "GrownKinds$Speller" (62 : Nat) ({ cls := "java/util/Arrays", name := "fill", desc := "([II)V" } : Jvm.MethodName)) ∈ gT := gT_in (List.mem_of_getElem? (i := 1273) (by decide +kernel)) (by decide +kernel)
theorem dX9_spell_83 : decode cX9_spell 83 = .ok (.aload_n 0, 1) := by decide +kernel
theorem dX9_spell_84 : decode cX9_spell 84 = .ok (.aload_n 0, 1) := by decide +kernel
theorem dX9_spell_85 : decode cX9_spell 85 = .ok (.iload_n 1, 1) := by decide +kernel
theorem dX9_spell_86 : decode cX9_spell 86 = .ok (.iload_n 2, 1) := by decide +kernel
theorem dX9_spell_87 : decode cX9_spell 87 = .ok (.iload_n 3, 1) := by decide +kernel
theorem dX9_spell_88 : decode cX9_spell 88 = .ok (.invokevirtual 68, 3) := by decide +kernel
theorem dX9_spell_91 : decode cX9_spell 91 = .ok (.putfield 25, 3) := by decide +kernel
theorem dX9_spell_94 : decode cX9_spell 94 = .ok (.iconst 0, 1) := by decide +kernel
theorem dX9_spell_95 : decode cX9_spell 95 = .ok (.istore 6, 2) := by decide +kernel
theorem dX9_spell_97 : decode cX9_spell 97 = .ok (.iload 6, 2) := by decide +kernel
theorem dX9_spell_99 : decode cX9_spell 99 = .ok (.ldc 72, 2) := by decide +kernel
theorem wm_1312 : (Jvm.Cond.constant "GrownKinds$Speller" (72 : Nat) (1000000 : Int32)) ∈ gT := gT_in (List.mem_of_getElem? (i := 1312) (by decide +kernel)) (by decide +kernel)
theorem dX9_spell_101 : decode cX9_spell 101 = .ok (.if_icmp .ge 90, 3) := by decide +kernel
theorem dX9_spell_104 : decode cX9_spell 104 = .ok (.aload_n 0, 1) := by decide +kernel
theorem dX9_spell_105 : decode cX9_spell 105 = .ok (.getfield 41, 3) := by decide +kernel
theorem dX9_spell_108 : decode cX9_spell 108 = .ok (.ifCond .le 83, 3) := by decide +kernel
theorem dX9_spell_111 : decode cX9_spell 111 = .ok (.aload_n 0, 1) := by decide +kernel
theorem dX9_spell_112 : decode cX9_spell 112 = .ok (.dup, 1) := by decide +kernel
theorem dX9_spell_113 : decode cX9_spell 113 = .ok (.getfield 41, 3) := by decide +kernel
theorem dX9_spell_116 : decode cX9_spell 116 = .ok (.iconst 1, 1) := by decide +kernel
theorem dX9_spell_117 : decode cX9_spell 117 = .ok (.isub, 1) := by decide +kernel
theorem dX9_spell_118 : decode cX9_spell 118 = .ok (.putfield 41, 3) := by decide +kernel
theorem dX9_spell_121 : decode cX9_spell 121 = .ok (.aload_n 0, 1) := by decide +kernel
theorem dX9_spell_122 : decode cX9_spell 122 = .ok (.getfield 38, 3) := by decide +kernel
theorem dX9_spell_125 : decode cX9_spell 125 = .ok (.aload_n 0, 1) := by decide +kernel
theorem dX9_spell_126 : decode cX9_spell 126 = .ok (.getfield 41, 3) := by decide +kernel
theorem dX9_spell_129 : decode cX9_spell 129 = .ok (.iaload, 1) := by decide +kernel
theorem dX9_spell_130 : decode cX9_spell 130 = .ok (.istore 7, 2) := by decide +kernel
theorem dX9_spell_132 : decode cX9_spell 132 = .ok (.iload 7, 2) := by decide +kernel
theorem dX9_spell_134 : decode cX9_spell 134 = .ok (.ifCond .ge 23, 3) := by decide +kernel
theorem dX9_spell_157 : decode cX9_spell 157 = .ok (.aload_n 0, 1) := by decide +kernel
theorem dX9_spell_158 : decode cX9_spell 158 = .ok (.iload 7, 2) := by decide +kernel
theorem dX9_spell_160 : decode cX9_spell 160 = .ok (.sipush 1024, 3) := by decide +kernel
theorem dX9_spell_163 : decode cX9_spell 163 = .ok (.idiv, 1) := by decide +kernel
theorem dX9_spell_164 : decode cX9_spell 164 = .ok (.bipush 8, 2) := by decide +kernel
theorem dX9_spell_166 : decode cX9_spell 166 = .ok (.idiv, 1) := by decide +kernel
theorem dX9_spell_167 : decode cX9_spell 167 = .ok (.iload 7, 2) := by decide +kernel
theorem dX9_spell_169 : decode cX9_spell 169 = .ok (.sipush 1024, 3) := by decide +kernel
theorem dX9_spell_172 : decode cX9_spell 172 = .ok (.idiv, 1) := by decide +kernel
theorem dX9_spell_173 : decode cX9_spell 173 = .ok (.bipush 8, 2) := by decide +kernel
theorem dX9_spell_175 : decode cX9_spell 175 = .ok (.irem, 1) := by decide +kernel
theorem dX9_spell_176 : decode cX9_spell 176 = .ok (.iload 7, 2) := by decide +kernel
theorem dX9_spell_178 : decode cX9_spell 178 = .ok (.sipush 1024, 3) := by decide +kernel
theorem dX9_spell_181 : decode cX9_spell 181 = .ok (.irem, 1) := by decide +kernel
theorem dX9_spell_182 : decode cX9_spell 182 = .ok (.invokevirtual 77, 3) := by decide +kernel
theorem wm_1313 : (Jvm.Cond.methodLink "GrownKinds$Speller" (77 : Nat) ({ cls := "GrownKinds$Speller", name := "spellPart", desc := "(III)V" } : Jvm.MethodName)) ∈ gT := gT_in (List.mem_of_getElem? (i := 1313) (by decide +kernel)) (by decide +kernel)
theorem wm_1315 : (Jvm.Cond.instanceMethod ({ cls := "GrownKinds$Speller", name := "spellPart", desc := "(III)V" } : Jvm.MethodName)) ∈ gT := gT_in (List.mem_of_getElem? (i := 1315) (by decide +kernel)) (by decide +kernel)
theorem wm_59 : Cond.selects "GrownKinds$Speller" ⟨"GrownKinds$Speller", "spellPart", "(III)V"⟩ ⟨"GrownKinds$Speller", "spellPart", "(III)V"⟩ ∈ gT := gT_in (List.mem_of_getElem? (i := 59) (by decide +kernel)) (by decide +kernel)
theorem wm_1316 : (Jvm.Cond.code ({ cls := "GrownKinds$Speller", name := "spellPart", desc := "(III)V" } : Jvm.MethodName) prog_11_method_9_code (4 : Nat) (Option.none : Option Jvm.ClassFile.FieldType)) ∈ gT := gT_in (List.mem_of_getElem? (i := 1316) (by decide +kernel)) (by decide +kernel)
theorem dX9_spell_185 : decode cX9_spell 185 = .ok (.iinc 6 1, 3) := by decide +kernel
theorem dX9_spell_188 : decode cX9_spell 188 = .ok (.goto (-91), 3) := by decide +kernel
theorem dX9_spell_137 : decode cX9_spell 137 = .ok (.aload_n 0, 1) := by decide +kernel
theorem dX9_spell_138 : decode cX9_spell 138 = .ok (.dup, 1) := by decide +kernel
theorem dX9_spell_139 : decode cX9_spell 139 = .ok (.getfield 35, 3) := by decide +kernel
theorem dX9_spell_142 : decode cX9_spell 142 = .ok (.iconst 1, 1) := by decide +kernel
theorem dX9_spell_143 : decode cX9_spell 143 = .ok (.isub, 1) := by decide +kernel
theorem dX9_spell_144 : decode cX9_spell 144 = .ok (.putfield 35, 3) := by decide +kernel
theorem dX9_spell_147 : decode cX9_spell 147 = .ok (.aload_n 0, 1) := by decide +kernel
theorem dX9_spell_148 : decode cX9_spell 148 = .ok (.iload 7, 2) := by decide +kernel
theorem dX9_spell_150 : decode cX9_spell 150 = .ok (.ineg, 1) := by decide +kernel
theorem dX9_spell_151 : decode cX9_spell 151 = .ok (.invokevirtual 73, 3) := by decide +kernel
theorem dX9_spell_154 : decode cX9_spell 154 = .ok (.goto 31, 3) := by decide +kernel
theorem dX9_spell_191 : decode cX9_spell 191 = .ok (.return_, 1) := by decide +kernel
theorem wV_9_95 : gWV "GrownKinds$Speller" 95 yX0_byTerm cX0_byTerm 4 (some .long) := ⟨wm_1278, wm_1221, wm_1222, wm_181, wm_1223, by decide +kernel, by decide +kernel⟩
theorem wV_9_73 : gWV "GrownKinds$Speller" 73 yX9_put cX9_put 2 none := ⟨wm_1279, wm_1281, wm_57, wm_183, wm_1282, by decide +kernel, by decide +kernel⟩
theorem wV_9_101 : gWV "GrownKinds$Speller" 101 yX2_start cX2_start 3 (some .int) := ⟨wm_1299, wm_910, wm_911, wm_178, wm_912, by decide +kernel, by decide +kernel⟩
theorem wV_9_105 : gWV "GrownKinds$Speller" 105 yX9_pushTerm cX9_pushTerm 17 none := ⟨wm_1300, wm_1302, wm_58, wm_183, wm_1303, by decide +kernel, by decide +kernel⟩
def mX9_spellExpr_7 (S0 : St) (a1 : Int) (a2 : Int) : Nat → Int → Int → Option (Int × Int)
  | 0, _, _ => none
  | f + 1, v_2, v_3 => gd (0 ≤ a1 ∧ a1 < 30) <| gd ((inI v_2) ∧ (inI ((S0 8 a1) - 1))) <| if ((S0 8 a1) - 1) ≤ v_2 then (some (v_3, v_2)) else (bd1 (mX0_byTerm_40 S0 a1 v_2 a2) fun r_34 => gd ((inL v_3) ∧ (inL r_34)) <| if v_3 < r_34 then (some (v_3, v_2)) else (bd1 (mX0_byTerm_40 S0 a1 v_2 a2) fun r_38 => nx (v_3 - r_38) fun x_39 => mX9_spellExpr_7 S0 a1 a2 f (v_2 + 1) x_39))
def mX9_spellExpr (S0 : St) (a1 : Int) (a2 : Int) (a3 : Int) : Option (Int × St) := entG S0 (fun o : Int × St => o.2) (gd (inI a3) <| bd2 (mX9_spellExpr_7 S0 a1 a2 FU 0 a3) fun y_4 y_5 => gd (0 ≤ a1 ∧ a1 < 30) <| bdG1 S0 (fun o : Int × St => o.2) (gd (inI (S0 8 a1)) <| if (S0 8 a1) ≤ 1 then (some (S0)) else (bdG1 S0 (fun o : St => o) (mX9_put S0 (48 + y_5)) fun S_23 => some (S_23))) fun S_9 => bd1 (mX2_start_2 S_9 a1 y_5) fun r_16 => bd1 (mX9_pushTerm S_9 r_16 a2 y_4) fun S_18 => nx (msk S_18 S_9) fun S_19 => some (y_5, S_19))
set_option maxHeartbeats 4000000 in
set_option maxRecDepth 100000 in
theorem vX9_spellExpr (l : Launch) {D : va_G} {cy : Nat → ClassId} {b : Nat} {S0 : St} (hn : 102 ≤ nn S0 - 3) (a1 : Int) (a2 : Int) (a3 : Int) {o1 : Int} {o2 : St} (hM : mX9_spellExpr S0 a1 a2 a3 = some (o1, o2)) : gI l yX9_spellExpr cX9_spellExpr 7 (some .int) 3 (nn o2 - nn S0) (zz o2 - zz S0) D cy b (nn S0 - 3) (eG b cy S0) [.ref (b + 58), .int (iI a1), .int (iI a2), .int (iI a3)] (fun r u => r = iI o1 ∧ u = (nn o2 - 3, eG b cy o2)) := by
  refine gI_of (by decide) (Nat.le_of_ble_eq_true rfl) ?_
  intro p e s m args below meth c S hr hlk hin hsz ls hl hG
  have hx := S.1
  have hb := S.2.1
  have hl : lv_has ls 7 [(0, .ref (b + 58)), (1, .int (iI a1)), (2, .int (iI a2)), (3, .int (iI a3))] := hl
  replace hG : gW D cy b (nn S0 - 3) s s.heap [] (eG b cy S0) := hG
  obtain ⟨H, eH⟩ : ∃ H, H = s.heap := ⟨_, rfl⟩
  obtain ⟨locs, elocs⟩ : ∃ locs : List Loc, locs = [] := ⟨_, rfl⟩
  rw [← eH, ← elocs] at hG
  rw [← eH, ← elocs]
  clear eH elocs
  unfold mX9_spellExpr at hM
  obtain ⟨hge, hM⟩ := entG_some hM
  replace hG : gX D cy b s H locs S0 0 0 S0 o2 := gX.start hG hsz hn hge
  refine lv_iload_n hx hb dX9_spellExpr_0 rfl (lv_at hl 3 rfl) ?_
  obtain ⟨hg_1, hM⟩ := gd_some hM
  refine gi_i2l hx hb dX9_spellExpr_1 hg_1 ?_
  refine lv_lstore (lv' := [(4, .long (jJ a3)), (0, .ref (b + 58)), (1, .int (iI a1)), (2, .int (iI a2)), (3, .int (iI a3))]) hx hb dX9_spellExpr_2 hl (by decide) rfl (fun ls hl => ?_)
  refine lv_iconst (v := iI 0) hx hb dX9_spellExpr_4 (by decide) ?_
  refine lv_istore (lv' := [(6, .int (iI 0)), (4, .long (jJ a3)), (0, .ref (b + 58)), (1, .int (iI a1)), (2, .int (iI a2)), (3, .int (iI a3))]) hx hb dX9_spellExpr_5 hl (by decide) rfl (fun ls hl => ?_)
  obtain ⟨y_4, y_5, hc_6, hM⟩ := bd2_some hM
  have hK_7 : ∀ (ce sl : Nat) (H : Heap) (locs : List Loc) (ls : Array Slot), gX D cy b s H locs S0 ce sl S0 o2 → lv_has ls 7 [(0, .ref (b + 58)), (1, .int (iI a1)), (2, .int (iI a2)), (4, .long (jJ y_4)), (6, .int (iI y_5))] → W p l e (gRm 3 (nn o2 - nn S0) (zz o2 - zz S0)) s m args below meth c H locs ce sl (gQI D cy b s args below (nn o2 - nn S0) (zz o2 - zz S0) (fun r u => r = iI o1 ∧ u = (nn o2 - 3, eG b cy o2))) (F0 m 62 ls []) := by
    intro ce sl H locs ls hG hl
    refine lv_aload_n hx hb dX9_spellExpr_62 rfl (lv_at hl 0 rfl) ?_
    refine m_get S hG.1 58 60 0 rfl ec_60 cpX9 wm_495 dX9_spellExpr_63 rfl (Nat.lt_of_lt_of_le (Nat.le_of_ble_eq_true rfl) hG.2.2.2.1) (by decide) ?_
    refine m_get S hG.1 2 2 10 rfl ec_2 cpX2 wm_265 dX9_spellExpr_66 rfl (Nat.lt_of_lt_of_le (Nat.le_of_ble_eq_true rfl) hG.2.2.2.1) (by decide) ?_
    refine lv_iload_n hx hb dX9_spellExpr_69 rfl (lv_at hl 1 rfl) ?_
    obtain ⟨hg_8, hM⟩ := gd_some hM
    refine mi_ald S hG.1 8 8 rfl ec_8 (Nat.lt_of_lt_of_le (Nat.le_of_ble_eq_true rfl) hG.2.2.2.1) dX9_spellExpr_70 hg_8 (by decide) ?_
    refine lv_iconst (v := iI 1) hx hb dX9_spellExpr_71 (by decide) ?_
    obtain ⟨S_9, hc_10, hg_11, hg_12, hM⟩ := bdG1_some hM
    have hub_13 : gle S_9 o2 := ⟨Nat.le_trans hg_12.1 gle_rfl.1, Nat.le_trans hg_12.2 gle_rfl.2⟩
    have hK_14 : ∀ (ce sl : Nat) (H : Heap) (locs : List Loc) (ls : Array Slot), gX D cy b s H locs S_9 ce sl S0 o2 → lv_has ls 7 [(0, .ref (b + 58)), (1, .int (iI a1)), (2, .int (iI a2)), (4, .long (jJ y_4)), (6, .int (iI y_5))] → W p l e (gRm 3 (nn o2 - nn S0) (zz o2 - zz S0)) s m args below meth c H locs ce sl (gQI D cy b s args below (nn o2 - nn S0) (zz o2 - zz S0) (fun r u => r = iI o1 ∧ u = (nn o2 - 3, eG b cy o2))) (F0 m 84 ls []) := by
      intro ce sl H locs ls hG hl
      refine lv_aload_n hx hb dX9_spellExpr_84 rfl (lv_at hl 0 rfl) ?_
      refine lv_aload_n hx hb dX9_spellExpr_85 rfl (lv_at hl 0 rfl) ?_
      refine m_get S hG.1 58 60 0 rfl ec_60 cpX9 wm_495 dX9_spellExpr_86 rfl (Nat.lt_of_lt_of_le (Nat.le_of_ble_eq_true rfl) hG.2.2.2.1) (by decide) ?_
      refine lv_iload_n hx hb dX9_spellExpr_89 rfl (lv_at hl 1 rfl) ?_
      refine lv_iload hx hb dX9_spellExpr_90 (lv_at hl 4 rfl) ?_
      obtain ⟨r_16, hc_15, hM⟩ := bd1_some hM
      refine g_vi (As := [.int (iI a1), .int (iI y_5)]) (rest := [.ref (b + 58)]) S hG.1 hG.2.1 (vX2_start_2 l hG.2.2.2.1 a1 y_5 hc_15) wV_9_101 (ec_2 (b := b) (cy := cy) (X := XD b cy S_9) _) cpX2 (Nat.lt_of_lt_of_le (Nat.le_of_ble_eq_true rfl) hG.2.2.2.1) dX9_spellExpr_92 rfl hl.1 (ar := 2) (by decide +kernel) rfl ⟨Nat.le_of_ble_eq_true rfl, Nat.le_of_ble_eq_true rfl, hG.rc, hG.rs⟩ (Nat.le_of_ble_eq_true rfl) (fun rv uu H locs hp hGc => ?_)
      obtain ⟨rfl, rfl⟩ := hp
      refine wz ?_
      replace hG := hG.same hGc
      clear hGc
      refine lv_iload_n hx hb dX9_spellExpr_95 rfl (lv_at hl 2 rfl) ?_
      refine lv_lload hx hb dX9_spellExpr_96 (lv_at hl 3 rfl) ?_
      obtain ⟨S_18, hc_17, hM⟩ := bd1_some hM
      refine g_vv (As := [.int (iI r_16), .int (iI a2), .long (jJ y_4)]) (rest := []) S hG.1 hG.2.1 (vX9_pushTerm l hG.2.2.2.1 r_16 a2 y_4 hc_17) wV_9_105 (ec_60 (b := b) (cy := cy) (X := XD b cy S_9) _) cpX9 (Nat.lt_of_lt_of_le (Nat.le_of_ble_eq_true rfl) hG.2.2.2.1) dX9_spellExpr_98 rfl hl.1 (ar := 3) (by decide +kernel) rfl ⟨Nat.le_of_ble_eq_true rfl, Nat.le_of_ble_eq_true rfl, hG.rc, hG.rs⟩ (Nat.le_of_ble_eq_true rfl) (fun uu H locs hp hGc => ?_)
      obtain rfl := hp
      refine wz ?_
      replace hG := hG.back hGc
      clear hGc
      obtain ⟨S_19, eS_19⟩ : ∃ q, q = msk S_18 S_9 := ⟨_, rfl⟩
      rw [← eS_19] at hG
      replace hM := nx_at hM eS_19
      clear eS_19
      refine lv_iload hx hb dX9_spellExpr_101 (lv_at hl 4 rfl) ?_
      cases hM
      exact g_iret S hr hlk hG.1 hG.2.1 dX9_spellExpr_103 ⟨hG.rc, hG.rs⟩ ⟨rfl, rfl⟩
    clear hM
    replace hM := hc_10
    obtain ⟨hg_20, hM⟩ := gd_some hM
    refine gi_icmp_le (tgt := 84) hx hb dX9_spellExpr_72 (by decide) hg_20 (by decide) (fun c_21 => ?_) (fun c_21 => ?_)
    · replace hM := ifp hM c_21
      cases hM
      exact hK_14 _ _ H locs ls hG (lv_sub hl [0, 1, 2, 3, 4] rfl)
    · replace hM := ifn hM c_21
      refine lv_aload_n hx hb dX9_spellExpr_75 rfl (lv_at hl 0 rfl) ?_
      refine lv_bipush (v := iI 48) hx hb dX9_spellExpr_76 (by decide) ?_
      refine lv_iload hx hb dX9_spellExpr_78 (lv_at hl 4 rfl) ?_
      refine gi_add hx hb dX9_spellExpr_80 ?_
      obtain ⟨S_23, hc_22, hg_24, hg_25, hM⟩ := bdG1_some hM
      have hg_26 : gle S_23 o2 := ⟨Nat.le_trans hg_25.1 hub_13.1, Nat.le_trans hg_25.2 hub_13.2⟩
      refine g_vv (As := [.int (iI (48 + y_5))]) (rest := []) S hG.1 hG.2.1 (vX9_put l hG.2.2.2.1 (48 + y_5) hc_22) wV_9_73 (ec_60 (b := b) (cy := cy) (X := XD b cy S0) _) cpX9 (Nat.lt_of_lt_of_le (Nat.le_of_ble_eq_true rfl) hG.2.2.2.1) dX9_spellExpr_81 rfl hl.1 (ar := 1) (by decide +kernel) rfl ⟨Nat.le_of_ble_eq_true rfl, Nat.le_of_ble_eq_true rfl, hG.gc hg_24 hg_26, hG.gs hg_24 hg_26⟩ (Nat.le_of_ble_eq_true rfl) (fun uu H locs hp hGc => ?_)
      obtain rfl := hp
      replace hG := hG.grow hg_24 hg_26 hGc
      clear hGc
      cases hM
      exact hK_14 _ _ H locs ls hG (lv_sub hl [0, 1, 2, 3, 4] rfl)
  have loop_27 : ∀ (f : Nat) (v_2 : Int) (v_3 : Int) (ce sl : Nat) (H : Heap) (locs : List Loc) (ls : Array Slot), mX9_spellExpr_7 S0 a1 a2 f v_2 v_3 = some (y_4, y_5) → gX D cy b s H locs S0 ce sl S0 o2 → lv_has ls 7 [(6, .int (iI v_2)), (4, .long (jJ v_3)), (0, .ref (b + 58)), (1, .int (iI a1)), (2, .int (iI a2))] → W p l e (gRm 3 (nn o2 - nn S0) (zz o2 - zz S0)) s m args below meth c H locs ce sl (gQI D cy b s args below (nn o2 - nn S0) (zz o2 - zz S0) (fun r u => r = iI o1 ∧ u = (nn o2 - 3, eG b cy o2))) (F0 m 7 ls []) := by
    clear hM
    intro f
    induction f with
    | zero => intro v_2 v_3 ce sl H locs ls hM; rw [mX9_spellExpr_7] at hM; cases hM
    | succ f_29 ih_28 =>
      intro v_2 v_3 ce sl H locs ls hM hG hl
      rw [mX9_spellExpr_7] at hM
      refine lv_iload hx hb dX9_spellExpr_7 (lv_at hl 0 rfl) ?_
      refine lv_aload_n hx hb dX9_spellExpr_9 rfl (lv_at hl 2 rfl) ?_
      refine m_get S hG.1 58 60 0 rfl ec_60 cpX9 wm_495 dX9_spellExpr_10 rfl (Nat.lt_of_lt_of_le (Nat.le_of_ble_eq_true rfl) hG.2.2.2.1) (by decide) ?_
      refine m_get S hG.1 2 2 10 rfl ec_2 cpX2 wm_265 dX9_spellExpr_13 rfl (Nat.lt_of_lt_of_le (Nat.le_of_ble_eq_true rfl) hG.2.2.2.1) (by decide) ?_
      refine lv_iload_n hx hb dX9_spellExpr_16 rfl (lv_at hl 3 rfl) ?_
      obtain ⟨hg_30, hM⟩ := gd_some hM
      refine mi_ald S hG.1 8 8 rfl ec_8 (Nat.lt_of_lt_of_le (Nat.le_of_ble_eq_true rfl) hG.2.2.2.1) dX9_spellExpr_17 hg_30 (by decide) ?_
      refine lv_iconst (v := iI 1) hx hb dX9_spellExpr_18 (by decide) ?_
      refine gi_sub hx hb dX9_spellExpr_19 ?_
      obtain ⟨hg_31, hM⟩ := gd_some hM
      refine gi_icmp_ge (tgt := 62) hx hb dX9_spellExpr_20 (by decide) hg_31.1 hg_31.2 (fun c_32 => ?_) (fun c_32 => ?_)
      · replace hM := ifp hM c_32
        cases hM
        exact hK_7 _ _ H locs ls hG (lv_sub hl [2, 3, 4, 1, 0] rfl)
      · replace hM := ifn hM c_32
        refine lv_lload hx hb dX9_spellExpr_23 (lv_at hl 1 rfl) ?_
        refine lv_aload_n hx hb dX9_spellExpr_25 rfl (lv_at hl 2 rfl) ?_
        refine m_get S hG.1 58 60 1 rfl ec_60 cpX9 wm_496 dX9_spellExpr_26 rfl (Nat.lt_of_lt_of_le (Nat.le_of_ble_eq_true rfl) hG.2.2.2.1) (by decide) ?_
        refine lv_iload_n hx hb dX9_spellExpr_29 rfl (lv_at hl 3 rfl) ?_
        refine lv_iload hx hb dX9_spellExpr_30 (lv_at hl 0 rfl) ?_
        refine lv_iload_n hx hb dX9_spellExpr_32 rfl (lv_at hl 4 rfl) ?_
        obtain ⟨r_34, hc_33, hM⟩ := bd1_some hM
        refine g_vl (As := [.int (iI a1), .int (iI v_2), .int (iI a2)]) (rest := [.long (jJ v_3)]) S hG.1 hG.2.1 (vX0_byTerm_40 l hG.2.2.2.1 a1 v_2 a2 hc_33) wV_9_95 (ec_40 (b := b) (cy := cy) (X := XD b cy S0) _) cpX0 (Nat.lt_of_lt_of_le (Nat.le_of_ble_eq_true rfl) hG.2.2.2.1) dX9_spellExpr_33 rfl hl.1 (ar := 3) (by decide +kernel) rfl ⟨Nat.le_of_ble_eq_true rfl, Nat.le_of_ble_eq_true rfl, hG.rc, hG.rs⟩ (Nat.le_of_ble_eq_true rfl) (fun rv uu H locs hp hGc => ?_)
        obtain ⟨rfl, rfl⟩ := hp
        refine wz ?_
        replace hG := hG.same hGc
        clear hGc
        obtain ⟨hg_35, hM⟩ := gd_some hM
        refine gj_cmp_lt (tgt := 62) hx hb dX9_spellExpr_36 dX9_spellExpr_37 (by decide) hg_35.1 hg_35.2 (fun c_36 => ?_) (fun c_36 => ?_)
        · replace hM := ifp hM c_36
          cases hM
          exact hK_7 _ _ H locs ls hG (lv_sub hl [2, 3, 4, 1, 0] rfl)
        · replace hM := ifn hM c_36
          refine lv_lload hx hb dX9_spellExpr_40 (lv_at hl 1 rfl) ?_
          refine lv_aload_n hx hb dX9_spellExpr_42 rfl (lv_at hl 2 rfl) ?_
          refine m_get S hG.1 58 60 1 rfl ec_60 cpX9 wm_496 dX9_spellExpr_43 rfl (Nat.lt_of_lt_of_le (Nat.le_of_ble_eq_true rfl) hG.2.2.2.1) (by decide) ?_
          refine lv_iload_n hx hb dX9_spellExpr_46 rfl (lv_at hl 3 rfl) ?_
          refine lv_iload hx hb dX9_spellExpr_47 (lv_at hl 0 rfl) ?_
          refine lv_iload_n hx hb dX9_spellExpr_49 rfl (lv_at hl 4 rfl) ?_
          obtain ⟨r_38, hc_37, hM⟩ := bd1_some hM
          refine g_vl (As := [.int (iI a1), .int (iI v_2), .int (iI a2)]) (rest := [.long (jJ v_3)]) S hG.1 hG.2.1 (vX0_byTerm_40 l hG.2.2.2.1 a1 v_2 a2 hc_37) wV_9_95 (ec_40 (b := b) (cy := cy) (X := XD b cy S0) _) cpX0 (Nat.lt_of_lt_of_le (Nat.le_of_ble_eq_true rfl) hG.2.2.2.1) dX9_spellExpr_50 rfl hl.1 (ar := 3) (by decide +kernel) rfl ⟨Nat.le_of_ble_eq_true rfl, Nat.le_of_ble_eq_true rfl, hG.rc, hG.rs⟩ (Nat.le_of_ble_eq_true rfl) (fun rv uu H locs hp hGc => ?_)
          obtain ⟨rfl, rfl⟩ := hp
          refine wz ?_
          replace hG := hG.same hGc
          clear hGc
          refine gj_sub hx hb dX9_spellExpr_53 ?_
          refine gj_nm (fun x_39 ex_39 => ?_)
          replace hM := nx_at hM ex_39
          clear ex_39
          refine lv_lstore (lv' := [(4, .long (jJ x_39)), (6, .int (iI v_2)), (0, .ref (b + 58)), (1, .int (iI a1)), (2, .int (iI a2))]) hx hb dX9_spellExpr_54 hl (by decide) rfl (fun ls hl => ?_)
          refine lv_iinc (v := iI (v_2 + 1)) (lv' := [(6, .int (iI (v_2 + 1))), (4, .long (jJ x_39)), (0, .ref (b + 58)), (1, .int (iI a1)), (2, .int (iI a2))]) hx hb dX9_spellExpr_56 hl (k := 1) rfl ((iI_add v_2 (1)).trans (congrArg iI (by omega))) (by decide) rfl (fun ls hl => ?_)
          refine lv_goto (tgt := 7) hx hb dX9_spellExpr_59 (by decide) ?_
          exact ih_28 (v_2 + 1) x_39 _ _ H locs ls hM hG (lv_sub hl [0, 1, 2, 3, 4] rfl)
  exact loop_27 FU 0 a3 _ _ H locs ls hc_6 hG (lv_sub hl [0, 1, 2, 3, 4] rfl)
theorem wV_9_170 : gWV "GrownKinds$Speller" 170 yX9_push cX9_push 2 none := ⟨wm_1346, wm_1348, wm_62, wm_183, wm_1349, by decide +kernel, by decide +kernel⟩
def mX9_spellSequence_68 (a1 : Int) : Nat → Int → St → Option (St)
  | 0, _, _ => none
  | f + 1, v_18, S_19 => gd (inI v_18) <| if v_18 < 0 then (some (S_19)) else (gd (0 ≤ v_18 ∧ v_18 < 8) <| nx (S_19 62 v_18) fun x_29 => gd (0 ≤ x_29 ∧ x_29 ≤ 2147483647) <| bd1 (mX9_push S_19 (((((S_19 5 a1) * 8) + (x_29 / 1024)) * 1024) + (x_29 % 1024))) fun S_32 => nx (msk S_32 S_19) fun S_33 => mX9_spellSequence_68 a1 f (v_18 - 1) S_33)
def mX9_spellSequence (S0 : St) (a1 : Int) : Option (St) := entG S0 (fun o : St => o) (nx (up S0 60 10 ((S0 60 10) + 1)) fun S_1 => gd ((inI (S_1 60 5)) ∧ (inI (S_1 60 10))) <| nx (up S_1 60 5 (max (S_1 60 5) (S_1 60 10))) fun S_3 => gd (0 ≤ a1 ∧ a1 < 24) <| bd1 (mX11_openSign (S_3 3 a1)) fun r_6 => bdG1 S_3 (fun o : St => o) (mX9_put S_3 r_6) fun S_8 => bd1 (mX11_closeSign (S_8 3 a1)) fun r_13 => bd1 (mX9_push S_8 (-r_13)) fun S_15 => nx (msk S_15 S_8) fun S_16 => nx ((S_16 61 2) - 1) fun x_17 => bd1 (mX9_spellSequence_68 a1 FU x_17 S_16) fun S_20 => some (S_20))
set_option maxHeartbeats 4000000 in
set_option maxRecDepth 100000 in
theorem vX9_spellSequence (l : Launch) {D : va_G} {cy : Nat → ClassId} {b : Nat} {S0 : St} (hn : 102 ≤ nn S0 - 3) (a1 : Int) {o1 : St} (hM : mX9_spellSequence S0 a1 = some o1) : gV l yX9_spellSequence cX9_spellSequence 4 3 (nn o1 - nn S0) (zz o1 - zz S0) D cy b (nn S0 - 3) (eG b cy S0) [.ref (b + 58), .int (iI a1)] (fun u => u = (nn o1 - 3, eG b cy o1)) := by
  refine gV_of (by decide) (Nat.le_of_ble_eq_true rfl) ?_
  intro p e s m args below meth c S hr hlk hin hsz ls hl hG
  have hx := S.1
  have hb := S.2.1
  have hl : lv_has ls 4 [(0, .ref (b + 58)), (1, .int (iI a1))] := hl
  replace hG : gW D cy b (nn S0 - 3) s s.heap [] (eG b cy S0) := hG
  obtain ⟨H, eH⟩ : ∃ H, H = s.heap := ⟨_, rfl⟩
  obtain ⟨locs, elocs⟩ : ∃ locs : List Loc, locs = [] := ⟨_, rfl⟩
  rw [← eH, ← elocs] at hG
  rw [← eH, ← elocs]
  clear eH elocs
  unfold mX9_spellSequence at hM
  obtain ⟨hge, hM⟩ := entG_some hM
  replace hG : gX D cy b s H locs S0 0 0 S0 o1 := gX.start hG hsz hn hge
  refine lv_aload_n hx hb dX9_spellSequence_0 rfl (lv_at hl 0 rfl) ?_
  refine lv_dup hx hb dX9_spellSequence_1 rfl ?_
  refine m_get S hG.1 58 60 10 rfl ec_60 cpX9 wm_515 dX9_spellSequence_2 rfl (Nat.lt_of_lt_of_le (Nat.le_of_ble_eq_true rfl) hG.2.2.2.1) (by decide) ?_
  refine lv_iconst (v := iI 1) hx hb dX9_spellSequence_5 (by decide) ?_
  refine gi_add hx hb dX9_spellSequence_6 ?_
  refine n_put S hG 58 60 10 rfl 10 ((S0 60 10) + 1) ec_60 cpX9 wm_515 dX9_spellSequence_7 (pf_60_10) (by decide) (by decide) (Nat.le_of_ble_eq_true rfl) rfl rfl rfl (fun H locs S_1 eS_1 hG => ?_)
  replace hM := nx_at hM eS_1
  clear eS_1
  refine lv_aload_n hx hb dX9_spellSequence_10 rfl (lv_at hl 0 rfl) ?_
  refine lv_aload_n hx hb dX9_spellSequence_11 rfl (lv_at hl 0 rfl) ?_
  refine m_get S hG.1 58 60 5 rfl ec_60 cpX9 wm_502 dX9_spellSequence_12 rfl (Nat.lt_of_lt_of_le (Nat.le_of_ble_eq_true rfl) hG.2.2.2.1) (by decide) ?_
  refine lv_aload_n hx hb dX9_spellSequence_15 rfl (lv_at hl 0 rfl) ?_
  refine m_get S hG.1 58 60 10 rfl ec_60 cpX9 wm_515 dX9_spellSequence_16 rfl (Nat.lt_of_lt_of_le (Nat.le_of_ble_eq_true rfl) hG.2.2.2.1) (by decide) ?_
  obtain ⟨hg_2, hM⟩ := gd_some hM
  refine gi_max S wm_1337 wm_1338 wm_190 wm_1339 hl.1 dX9_spellSequence_19 ⟨Nat.le_of_ble_eq_true rfl, Nat.le_of_ble_eq_true rfl, hG.rc, hG.rs⟩ hg_2.1 hg_2.2 ?_
  refine n_put S hG 58 60 5 rfl 5 (max (S_1 60 5) (S_1 60 10)) ec_60 cpX9 wm_502 dX9_spellSequence_22 (pf_60_5) (by decide) (by decide) (Nat.le_of_ble_eq_true rfl) rfl rfl rfl (fun H locs S_3 eS_3 hG => ?_)
  replace hM := nx_at hM eS_3
  clear eS_3
  refine lv_aload_n hx hb dX9_spellSequence_25 rfl (lv_at hl 0 rfl) ?_
  refine lv_aload_n hx hb dX9_spellSequence_26 rfl (lv_at hl 0 rfl) ?_
  refine m_get S hG.1 58 60 0 rfl ec_60 cpX9 wm_495 dX9_spellSequence_27 rfl (Nat.lt_of_lt_of_le (Nat.le_of_ble_eq_true rfl) hG.2.2.2.1) (by decide) ?_
  refine m_get S hG.1 2 2 5 rfl ec_2 cpX2 wm_238 dX9_spellSequence_30 rfl (Nat.lt_of_lt_of_le (Nat.le_of_ble_eq_true rfl) hG.2.2.2.1) (by decide) ?_
  refine lv_iload_n hx hb dX9_spellSequence_33 rfl (lv_at hl 1 rfl) ?_
  obtain ⟨hg_4, hM⟩ := gd_some hM
  refine mi_ald S hG.1 3 3 rfl ec_3 (Nat.lt_of_lt_of_le (Nat.le_of_ble_eq_true rfl) hG.2.2.2.1) dX9_spellSequence_34 hg_4 (by decide) ?_
  obtain ⟨r_6, hc_5, hM⟩ := bd1_some hM
  refine g_siN (As := [.int (iI (S_3 3 a1))]) (rest := [.ref (b + 58)]) S hG.1 hG.2.1 (vX11_openSign l hG.2.2.2.1 (S_3 3 a1) hc_5) (y := yX11_openSign) (host := "GrownKinds") (by decide +kernel) ⟨wm_1341, wm_177, wm_1342, by decide +kernel, by decide +kernel⟩ dX9_spellSequence_35 rfl hl.1 (ar := 1) (by decide +kernel) rfl ⟨Nat.le_of_ble_eq_true rfl, Nat.le_of_ble_eq_true rfl, hG.rc, hG.rs⟩ (Nat.le_of_ble_eq_true rfl) (fun rv uu H locs hp hGc => ?_)
  obtain ⟨rfl, rfl⟩ := hp
  refine wz ?_
  replace hG := hG.same hGc
  clear hGc
  obtain ⟨S_8, hc_7, hg_9, hg_10, hM⟩ := bdG1_some hM
  have hg_11 : gle S_8 o1 := ⟨Nat.le_trans hg_10.1 gle_rfl.1, Nat.le_trans hg_10.2 gle_rfl.2⟩
  refine g_vv (As := [.int (iI r_6)]) (rest := []) S hG.1 hG.2.1 (vX9_put l hG.2.2.2.1 r_6 hc_7) wV_9_73 (ec_60 (b := b) (cy := cy) (X := XD b cy S_3) _) cpX9 (Nat.lt_of_lt_of_le (Nat.le_of_ble_eq_true rfl) hG.2.2.2.1) dX9_spellSequence_38 rfl hl.1 (ar := 1) (by decide +kernel) rfl ⟨Nat.le_of_ble_eq_true rfl, Nat.le_of_ble_eq_true rfl, hG.gc hg_9 hg_11, hG.gs hg_9 hg_11⟩ (Nat.le_of_ble_eq_true rfl) (fun uu H locs hp hGc => ?_)
  obtain rfl := hp
  replace hG := hG.grow hg_9 hg_11 hGc
  clear hGc
  refine lv_aload_n hx hb dX9_spellSequence_41 rfl (lv_at hl 0 rfl) ?_
  refine lv_aload_n hx hb dX9_spellSequence_42 rfl (lv_at hl 0 rfl) ?_
  refine m_get S hG.1 58 60 0 rfl ec_60 cpX9 wm_495 dX9_spellSequence_43 rfl (Nat.lt_of_lt_of_le (Nat.le_of_ble_eq_true rfl) hG.2.2.2.1) (by decide) ?_
  refine m_get S hG.1 2 2 5 rfl ec_2 cpX2 wm_238 dX9_spellSequence_46 rfl (Nat.lt_of_lt_of_le (Nat.le_of_ble_eq_true rfl) hG.2.2.2.1) (by decide) ?_
  refine lv_iload_n hx hb dX9_spellSequence_49 rfl (lv_at hl 1 rfl) ?_
  refine mi_ald S hG.1 3 3 rfl ec_3 (Nat.lt_of_lt_of_le (Nat.le_of_ble_eq_true rfl) hG.2.2.2.1) dX9_spellSequence_50 hg_4 (by decide) ?_
  obtain ⟨r_13, hc_12, hM⟩ := bd1_some hM
  refine g_siN (As := [.int (iI (S_8 3 a1))]) (rest := [.ref (b + 58)]) S hG.1 hG.2.1 (vX11_closeSign l hG.2.2.2.1 (S_8 3 a1) hc_12) (y := yX11_closeSign) (host := "GrownKinds") (by decide +kernel) ⟨wm_1344, wm_177, wm_1345, by decide +kernel, by decide +kernel⟩ dX9_spellSequence_51 rfl hl.1 (ar := 1) (by decide +kernel) rfl ⟨Nat.le_of_ble_eq_true rfl, Nat.le_of_ble_eq_true rfl, hG.rc, hG.rs⟩ (Nat.le_of_ble_eq_true rfl) (fun rv uu H locs hp hGc => ?_)
  obtain ⟨rfl, rfl⟩ := hp
  refine wz ?_
  replace hG := hG.same hGc
  clear hGc
  refine gi_neg hx hb dX9_spellSequence_54 ?_
  obtain ⟨S_15, hc_14, hM⟩ := bd1_some hM
  refine g_vv (As := [.int (iI (-r_13))]) (rest := []) S hG.1 hG.2.1 (vX9_push l hG.2.2.2.1 (-r_13) hc_14) wV_9_170 (ec_60 (b := b) (cy := cy) (X := XD b cy S_8) _) cpX9 (Nat.lt_of_lt_of_le (Nat.le_of_ble_eq_true rfl) hG.2.2.2.1) dX9_spellSequence_55 rfl hl.1 (ar := 1) (by decide +kernel) rfl ⟨Nat.le_of_ble_eq_true rfl, Nat.le_of_ble_eq_true rfl, hG.rc, hG.rs⟩ (Nat.le_of_ble_eq_true rfl) (fun uu H locs hp hGc => ?_)
  obtain rfl := hp
  refine wz ?_
  replace hG := hG.back hGc
  clear hGc
  obtain ⟨S_16, eS_16⟩ : ∃ q, q = msk S_15 S_8 := ⟨_, rfl⟩
  rw [← eS_16] at hG
  replace hM := nx_at hM eS_16
  clear eS_16
  refine lv_aload_n hx hb dX9_spellSequence_58 rfl (lv_at hl 0 rfl) ?_
  refine m_get S hG.1 58 60 2 rfl ec_60 cpX9 wm_497 dX9_spellSequence_59 rfl (Nat.lt_of_lt_of_le (Nat.le_of_ble_eq_true rfl) hG.2.2.2.1) (by decide) ?_
  refine m_get S hG.1 59 61 2 rfl ec_61 cpX8 wm_473 dX9_spellSequence_62 rfl (Nat.lt_of_lt_of_le (Nat.le_of_ble_eq_true rfl) hG.2.2.2.1) (by decide) ?_
  refine lv_iconst (v := iI 1) hx hb dX9_spellSequence_65 (by decide) ?_
  refine gi_sub hx hb dX9_spellSequence_66 ?_
  refine gi_nm (fun x_17 ex_17 => ?_)
  replace hM := nx_at hM ex_17
  clear ex_17
  refine lv_istore_n (lv' := [(2, .int (iI x_17)), (0, .ref (b + 58)), (1, .int (iI a1))]) hx hb dX9_spellSequence_67 rfl hl (by decide) rfl (fun ls hl => ?_)
  obtain ⟨S_20, hc_21, hM⟩ := bd1_some hM
  have hK_22 : ∀ (ce sl : Nat) (H : Heap) (locs : List Loc) (ls : Array Slot), gX D cy b s H locs S_20 ce sl S0 o1 → lv_has ls 4 [] → W p l e (gRm 3 (nn o1 - nn S0) (zz o1 - zz S0)) s m args below meth c H locs ce sl (gQV D cy b s args below (nn o1 - nn S0) (zz o1 - zz S0) (fun u => u = (nn o1 - 3, eG b cy o1))) (F0 m 120 ls []) := by
    intro ce sl H locs ls hG hl
    cases hM
    exact g_vret S hr hlk hG.1 hG.2.1 dX9_spellSequence_120 ⟨hG.rc, hG.rs⟩ rfl
  have loop_23 : ∀ (f : Nat) (v_18 : Int) (S_19 : St) (ce sl : Nat) (H : Heap) (locs : List Loc) (ls : Array Slot), mX9_spellSequence_68 a1 f v_18 S_19 = some S_20 → gX D cy b s H locs S_19 ce sl S0 o1 → lv_has ls 4 [(2, .int (iI v_18)), (0, .ref (b + 58)), (1, .int (iI a1))] → W p l e (gRm 3 (nn o1 - nn S0) (zz o1 - zz S0)) s m args below meth c H locs ce sl (gQV D cy b s args below (nn o1 - nn S0) (zz o1 - zz S0) (fun u => u = (nn o1 - 3, eG b cy o1))) (F0 m 68 ls []) := by
    clear hM
    intro f
    induction f with
    | zero => intro v_18 S_19 ce sl H locs ls hM; rw [mX9_spellSequence_68] at hM; cases hM
    | succ f_25 ih_24 =>
      intro v_18 S_19 ce sl H locs ls hM hG hl
      rw [mX9_spellSequence_68] at hM
      refine lv_iload_n hx hb dX9_spellSequence_68 rfl (lv_at hl 0 rfl) ?_
      obtain ⟨hg_26, hM⟩ := gd_some hM
      refine gi_if_lt (tgt := 120) hx hb dX9_spellSequence_69 (by decide) hg_26 (fun c_27 => ?_) (fun c_27 => ?_)
      · replace hM := ifp hM c_27
        cases hM
        exact hK_22 _ _ H locs ls hG (lv_sub hl [] rfl)
      · replace hM := ifn hM c_27
        refine lv_aload_n hx hb dX9_spellSequence_72 rfl (lv_at hl 1 rfl) ?_
        refine m_get S hG.1 58 60 2 rfl ec_60 cpX9 wm_497 dX9_spellSequence_73 rfl (Nat.lt_of_lt_of_le (Nat.le_of_ble_eq_true rfl) hG.2.2.2.1) (by decide) ?_
        refine m_get S hG.1 59 61 3 rfl ec_61 cpX8 wm_475 dX9_spellSequence_76 rfl (Nat.lt_of_lt_of_le (Nat.le_of_ble_eq_true rfl) hG.2.2.2.1) (by decide) ?_
        refine lv_iload_n hx hb dX9_spellSequence_79 rfl (lv_at hl 0 rfl) ?_
        obtain ⟨hg_28, hM⟩ := gd_some hM
        refine mi_ald S hG.1 60 62 rfl ec_62 (Nat.lt_of_lt_of_le (Nat.le_of_ble_eq_true rfl) hG.2.2.2.1) dX9_spellSequence_80 hg_28 (by decide) ?_
        refine gi_nm (fun x_29 ex_29 => ?_)
        replace hM := nx_at hM ex_29
        clear ex_29
        refine lv_istore_n (lv' := [(3, .int (iI x_29)), (2, .int (iI v_18)), (0, .ref (b + 58)), (1, .int (iI a1))]) hx hb dX9_spellSequence_81 rfl hl (by decide) rfl (fun ls hl => ?_)
        refine lv_aload_n hx hb dX9_spellSequence_82 rfl (lv_at hl 2 rfl) ?_
        refine lv_aload_n hx hb dX9_spellSequence_83 rfl (lv_at hl 2 rfl) ?_
        refine m_get S hG.1 58 60 0 rfl ec_60 cpX9 wm_495 dX9_spellSequence_84 rfl (Nat.lt_of_lt_of_le (Nat.le_of_ble_eq_true rfl) hG.2.2.2.1) (by decide) ?_
        refine m_get S hG.1 2 2 7 rfl ec_2 cpX2 wm_251 dX9_spellSequence_87 rfl (Nat.lt_of_lt_of_le (Nat.le_of_ble_eq_true rfl) hG.2.2.2.1) (by decide) ?_
        refine lv_iload_n hx hb dX9_spellSequence_90 rfl (lv_at hl 3 rfl) ?_
        refine mi_ald S hG.1 5 5 rfl ec_5 (Nat.lt_of_lt_of_le (Nat.le_of_ble_eq_true rfl) hG.2.2.2.1) dX9_spellSequence_91 hg_4 (by decide) ?_
        refine lv_bipush (v := iI 8) hx hb dX9_spellSequence_92 (by decide) ?_
        refine gi_mul hx hb dX9_spellSequence_94 ?_
        refine lv_iload_n hx hb dX9_spellSequence_95 rfl (lv_at hl 0 rfl) ?_
        refine lv_sipush (v := iI 1024) hx hb dX9_spellSequence_96 (by decide) ?_
        obtain ⟨hg_30, hM⟩ := gd_some hM
        refine gi_div hx hb dX9_spellSequence_99 hg_30 (by decide) ?_
        refine gi_add hx hb dX9_spellSequence_100 ?_
        refine lv_sipush (v := iI 1024) hx hb dX9_spellSequence_101 (by decide) ?_
        refine gi_mul hx hb dX9_spellSequence_104 ?_
        refine lv_iload_n hx hb dX9_spellSequence_105 rfl (lv_at hl 0 rfl) ?_
        refine lv_sipush (v := iI 1024) hx hb dX9_spellSequence_106 (by decide) ?_
        refine gi_rem hx hb dX9_spellSequence_109 hg_30 (by decide) ?_
        refine gi_add hx hb dX9_spellSequence_110 ?_
        obtain ⟨S_32, hc_31, hM⟩ := bd1_some hM
        refine g_vv (As := [.int (iI (((((S_19 5 a1) * 8) + (x_29 / 1024)) * 1024) + (x_29 % 1024)))]) (rest := []) S hG.1 hG.2.1 (vX9_push l hG.2.2.2.1 (((((S_19 5 a1) * 8) + (x_29 / 1024)) * 1024) + (x_29 % 1024)) hc_31) wV_9_170 (ec_60 (b := b) (cy := cy) (X := XD b cy S_19) _) cpX9 (Nat.lt_of_lt_of_le (Nat.le_of_ble_eq_true rfl) hG.2.2.2.1) dX9_spellSequence_111 rfl hl.1 (ar := 1) (by decide +kernel) rfl ⟨Nat.le_of_ble_eq_true rfl, Nat.le_of_ble_eq_true rfl, hG.rc, hG.rs⟩ (Nat.le_of_ble_eq_true rfl) (fun uu H locs hp hGc => ?_)
        obtain rfl := hp
        refine wz ?_
        replace hG := hG.back hGc
        clear hGc
        obtain ⟨S_33, eS_33⟩ : ∃ q, q = msk S_32 S_19 := ⟨_, rfl⟩
        rw [← eS_33] at hG
        replace hM := nx_at hM eS_33
        clear eS_33
        refine lv_iinc (v := iI (v_18 - 1)) (lv' := [(2, .int (iI (v_18 - 1))), (3, .int (iI x_29)), (0, .ref (b + 58)), (1, .int (iI a1))]) hx hb dX9_spellSequence_114 hl (k := 1) rfl ((iI_add v_18 (-1)).trans (congrArg iI (by omega))) (by decide) rfl (fun ls hl => ?_)
        refine lv_goto (tgt := 68) hx hb dX9_spellSequence_117 (by decide) ?_
        exact ih_24 (v_18 - 1) S_33 _ _ H locs ls hM hG (lv_sub hl [0, 2, 3] rfl)
  exact loop_23 FU x_17 S_16 _ _ H locs ls hc_21 hG (lv_sub hl [0, 1, 2] rfl)
theorem wV_9_158 : gWV "GrownKinds$Speller" 158 yX2_exprOf cX2_exprOf 2 (some .int) := ⟨wm_1417, wm_1418, wm_1419, wm_178, wm_1420, by decide +kernel, by decide +kernel⟩
theorem wV_9_68 : gWV "GrownKinds$Speller" 68 yX9_spellExpr cX9_spellExpr 7 (some .int) := ⟨wm_1274, wm_1276, wm_56, wm_183, wm_1277, by decide +kernel, by decide +kernel⟩
theorem wV_9_136 : gWV "GrownKinds$Speller" 136 yX8_findRow cX8_findRow 11 none := ⟨wm_1317, wm_1318, wm_1319, wm_184, wm_1320, by decide +kernel, by decide +kernel⟩
theorem wV_9_141 : gWV "GrownKinds$Speller" 141 yX9_spellSequence cX9_spellSequence 4 none := ⟨wm_1333, wm_1335, wm_61, wm_183, wm_1336, by decide +kernel, by decide +kernel⟩
theorem wV_9_144 : gWV "GrownKinds$Speller" 144 yX8_findBag cX8_findBag 16 none := ⟨wm_1350, wm_1351, wm_1352, wm_184, wm_1353, by decide +kernel, by decide +kernel⟩
theorem wV_9_147 : gWV "GrownKinds$Speller" 147 yX8_changesAlike cX8_changesAlike 4 (some .int) := ⟨wm_1367, wm_1368, wm_1369, wm_184, wm_1370, by decide +kernel, by decide +kernel⟩
theorem wV_9_151 : gWV "GrownKinds$Speller" 151 yX8_findRing cX8_findRing 8 none := ⟨wm_1371, wm_1372, wm_1373, wm_184, wm_1374, by decide +kernel, by decide +kernel⟩
theorem wV_9_155 : gWV "GrownKinds$Speller" 155 yX8_turnsAlike cX8_turnsAlike 3 (some .int) := ⟨wm_1413, wm_1414, wm_1415, wm_184, wm_1416, by decide +kernel, by decide +kernel⟩
def mX9_spellPart (S0 : St) (a1 : Int) (a2 : Int) (a3 : Int) : Option (St) := entG S0 (fun o : St => o) (gd (0 ≤ a1 ∧ a1 < 24) <| nx (S0 3 a1) fun x_2 => gd (inI x_2) <| if x_2 = 0 then (nx (S0 4 a1) fun x_5 => gd (0 ≤ x_5 ∧ x_5 < 26) <| nx (up S0 65 x_5 ((S0 65 x_5) + 1)) fun S_7 => bdG1 S_7 (fun o : St => o) (mX9_put S_7 (97 + (S_7 4 a1))) fun S_9 => some (S_9)) else (if x_2 = 1 then (bdG1 S0 (fun o : St => o) (mX9_put S0 45) fun S_14 => some (S_14)) else (if x_2 = 2 then (bd1 (mX2_exprOf_2 S0 a1) fun r_19 => bdG2 S0 (fun o : St => o) (mX9_spellExpr S0 r_19 a2 a3) fun r_21 S_22 => some (S_22)) else (if x_2 = 3 then (bd1 (mX8_findRow S0 a1 a2 a3) fun S_27 => nx (msk S_27 S0) fun S_28 => bdG1 S_28 (fun o : St => o) (mX9_spellSequence S_28 a1) fun S_30 => some (S_30)) else (if x_2 = 4 then (bd1 (mX8_findBag S0 a1 a2 a3) fun S_35 => nx (msk S_35 S0) fun S_36 => bd1 (mX8_changesAlike S_36) fun r_38 => nx (up S_36 60 6 ((S_36 60 6) * r_38)) fun S_39 => bdG1 S_39 (fun o : St => o) (mX9_spellSequence S_39 a1) fun S_41 => some (S_41)) else (if x_2 = 5 then (bd1 (mX8_findBag S0 a1 a2 a3) fun S_46 => nx (msk S_46 S0) fun S_47 => bdG1 S_47 (fun o : St => o) (mX9_spellSequence S_47 a1) fun S_49 => some (S_49)) else (if x_2 = 6 then (bdG1 S0 (fun o : St => o) (mX8_findRing S0 a1 a2 a3 (S0 60 13)) fun S_54 => bd1 (mX8_turnsAlike S_54) fun r_59 => nx (up S_54 60 6 ((S_54 60 6) * r_59)) fun S_60 => bdG1 S_60 (fun o : St => o) (mX9_spellSequence S_60 a1) fun S_62 => some (S_62)) else (bd1 (mX2_exprOf_2 S0 a1) fun r_67 => bdG2 S0 (fun o : St => o) (mX9_spellExpr S0 r_67 a2 a3) fun r_69 S_70 => some (S_70)))))))))
set_option maxHeartbeats 4000000 in
set_option maxRecDepth 100000 in
theorem vX9_spellPart (l : Launch) {D : va_G} {cy : Nat → ClassId} {b : Nat} {S0 : St} (hn : 102 ≤ nn S0 - 3) (a1 : Int) (a2 : Int) (a3 : Int) {o1 : St} (hM : mX9_spellPart S0 a1 a2 a3 = some o1) : gV l yX9_spellPart cX9_spellPart 4 28 (nn o1 - nn S0) (zz o1 - zz S0) D cy b (nn S0 - 3) (eG b cy S0) [.ref (b + 58), .int (iI a1), .int (iI a2), .int (iI a3)] (fun u => u = (nn o1 - 3, eG b cy o1)) := by
  refine gV_of (by decide) (Nat.le_of_ble_eq_true rfl) ?_
  intro p e s m args below meth c S hr hlk hin hsz ls hl hG
  have hx := S.1
  have hb := S.2.1
  have hl : lv_has ls 4 [(0, .ref (b + 58)), (1, .int (iI a1)), (2, .int (iI a2)), (3, .int (iI a3))] := hl
  replace hG : gW D cy b (nn S0 - 3) s s.heap [] (eG b cy S0) := hG
  obtain ⟨H, eH⟩ : ∃ H, H = s.heap := ⟨_, rfl⟩
  obtain ⟨locs, elocs⟩ : ∃ locs : List Loc, locs = [] := ⟨_, rfl⟩
  rw [← eH, ← elocs] at hG
  rw [← eH, ← elocs]
  clear eH elocs
  unfold mX9_spellPart at hM
  obtain ⟨hge, hM⟩ := entG_some hM
  replace hG : gX D cy b s H locs S0 0 0 S0 o1 := gX.start hG hsz hn hge
  refine lv_aload_n hx hb dX9_spellPart_0 rfl (lv_at hl 0 rfl) ?_
  refine m_get S hG.1 58 60 0 rfl ec_60 cpX9 wm_495 dX9_spellPart_1 rfl (Nat.lt_of_lt_of_le (Nat.le_of_ble_eq_true rfl) hG.2.2.2.1) (by decide) ?_
  refine m_get S hG.1 2 2 5 rfl ec_2 cpX2 wm_238 dX9_spellPart_4 rfl (Nat.lt_of_lt_of_le (Nat.le_of_ble_eq_true rfl) hG.2.2.2.1) (by decide) ?_
  refine lv_iload_n hx hb dX9_spellPart_7 rfl (lv_at hl 1 rfl) ?_
  obtain ⟨hg_1, hM⟩ := gd_some hM
  refine mi_ald S hG.1 3 3 rfl ec_3 (Nat.lt_of_lt_of_le (Nat.le_of_ble_eq_true rfl) hG.2.2.2.1) dX9_spellPart_8 hg_1 (by decide) ?_
  refine gi_nm (fun x_2 ex_2 => ?_)
  replace hM := nx_at hM ex_2
  clear ex_2
  obtain ⟨hg_3, hM⟩ := gd_some hM
  rcases (show x_2 = 0 ∨ x_2 = 1 ∨ x_2 = 2 ∨ x_2 = 3 ∨ x_2 = 4 ∨ x_2 = 5 ∨ x_2 = 6 ∨ (x_2 < 0 ∨ 6 < x_2) by omega) with hs_4 | hs_4 | hs_4 | hs_4 | hs_4 | hs_4 | hs_4 | hs_4
  · replace hM := ifp hM hs_4
    refine gi_tsI (off := 43) (tgt := 52) hx hb 0 dX9_spellPart_9 hg_3 (by omega) (by omega) (by rfl) (by decide) ?_
    refine lv_aload_n hx hb dX9_spellPart_52 rfl (lv_at hl 0 rfl) ?_
    refine m_get S hG.1 58 60 9 rfl ec_60 cpX9 wm_512 dX9_spellPart_53 rfl (Nat.lt_of_lt_of_le (Nat.le_of_ble_eq_true rfl) hG.2.2.2.1) (by decide) ?_
    refine lv_aload_n hx hb dX9_spellPart_56 rfl (lv_at hl 0 rfl) ?_
    refine m_get S hG.1 58 60 0 rfl ec_60 cpX9 wm_495 dX9_spellPart_57 rfl (Nat.lt_of_lt_of_le (Nat.le_of_ble_eq_true rfl) hG.2.2.2.1) (by decide) ?_
    refine m_get S hG.1 2 2 6 rfl ec_2 cpX2 wm_244 dX9_spellPart_60 rfl (Nat.lt_of_lt_of_le (Nat.le_of_ble_eq_true rfl) hG.2.2.2.1) (by decide) ?_
    refine lv_iload_n hx hb dX9_spellPart_63 rfl (lv_at hl 1 rfl) ?_
    refine mi_ald S hG.1 4 4 rfl ec_4 (Nat.lt_of_lt_of_le (Nat.le_of_ble_eq_true rfl) hG.2.2.2.1) dX9_spellPart_64 hg_1 (by decide) ?_
    refine gi_nm (fun x_5 ex_5 => ?_)
    replace hM := nx_at hM ex_5
    clear ex_5
    refine lv_dup2_11 hx hb dX9_spellPart_65 rfl rfl ?_
    obtain ⟨hg_6, hM⟩ := gd_some hM
    refine mi_ald S hG.1 63 65 rfl ec_65 (Nat.lt_of_lt_of_le (Nat.le_of_ble_eq_true rfl) hG.2.2.2.1) dX9_spellPart_66 hg_6 (by decide) ?_
    refine lv_iconst (v := iI 1) hx hb dX9_spellPart_67 (by decide) ?_
    refine gi_add hx hb dX9_spellPart_68 ?_
    refine ni_ast S hG 63 65 rfl ec_65 (by decide) dX9_spellPart_69 hg_6 (by decide) (fun H locs S_7 eS_7 hG => ?_)
    replace hM := nx_at hM eS_7
    clear eS_7
    refine lv_aload_n hx hb dX9_spellPart_70 rfl (lv_at hl 0 rfl) ?_
    refine lv_bipush (v := iI 97) hx hb dX9_spellPart_71 (by decide) ?_
    refine lv_aload_n hx hb dX9_spellPart_73 rfl (lv_at hl 0 rfl) ?_
    refine m_get S hG.1 58 60 0 rfl ec_60 cpX9 wm_495 dX9_spellPart_74 rfl (Nat.lt_of_lt_of_le (Nat.le_of_ble_eq_true rfl) hG.2.2.2.1) (by decide) ?_
    refine m_get S hG.1 2 2 6 rfl ec_2 cpX2 wm_244 dX9_spellPart_77 rfl (Nat.lt_of_lt_of_le (Nat.le_of_ble_eq_true rfl) hG.2.2.2.1) (by decide) ?_
    refine lv_iload_n hx hb dX9_spellPart_80 rfl (lv_at hl 1 rfl) ?_
    refine mi_ald S hG.1 4 4 rfl ec_4 (Nat.lt_of_lt_of_le (Nat.le_of_ble_eq_true rfl) hG.2.2.2.1) dX9_spellPart_81 hg_1 (by decide) ?_
    refine gi_add hx hb dX9_spellPart_82 ?_
    obtain ⟨S_9, hc_8, hg_10, hg_11, hM⟩ := bdG1_some hM
    have hg_12 : gle S_9 o1 := ⟨Nat.le_trans hg_11.1 gle_rfl.1, Nat.le_trans hg_11.2 gle_rfl.2⟩
    refine g_vv (As := [.int (iI (97 + (S_7 4 a1)))]) (rest := []) S hG.1 hG.2.1 (vX9_put l hG.2.2.2.1 (97 + (S_7 4 a1)) hc_8) wV_9_73 (ec_60 (b := b) (cy := cy) (X := XD b cy S_7) _) cpX9 (Nat.lt_of_lt_of_le (Nat.le_of_ble_eq_true rfl) hG.2.2.2.1) dX9_spellPart_83 rfl hl.1 (ar := 1) (by decide +kernel) rfl ⟨Nat.le_of_ble_eq_true rfl, Nat.le_of_ble_eq_true rfl, hG.gc hg_10 hg_12, hG.gs hg_10 hg_12⟩ (Nat.le_of_ble_eq_true rfl) (fun uu H locs hp hGc => ?_)
    obtain rfl := hp
    replace hG := hG.grow hg_10 hg_12 hGc
    clear hGc
    refine lv_goto (tgt := 221) hx hb dX9_spellPart_86 (by decide) ?_
    cases hM
    exact g_vret S hr hlk hG.1 hG.2.1 dX9_spellPart_221 ⟨hG.rc, hG.rs⟩ rfl
  · replace hM := ifn hM (by omega)
    replace hM := ifp hM hs_4
    refine gi_tsI (off := 80) (tgt := 89) hx hb 1 dX9_spellPart_9 hg_3 (by omega) (by omega) (by rfl) (by decide) ?_
    refine lv_aload_n hx hb dX9_spellPart_89 rfl (lv_at hl 0 rfl) ?_
    refine lv_bipush (v := iI 45) hx hb dX9_spellPart_90 (by decide) ?_
    obtain ⟨S_14, hc_13, hg_15, hg_16, hM⟩ := bdG1_some hM
    have hg_17 : gle S_14 o1 := ⟨Nat.le_trans hg_16.1 gle_rfl.1, Nat.le_trans hg_16.2 gle_rfl.2⟩
    refine g_vv (As := [.int (iI 45)]) (rest := []) S hG.1 hG.2.1 (vX9_put l hG.2.2.2.1 45 hc_13) wV_9_73 (ec_60 (b := b) (cy := cy) (X := XD b cy S0) _) cpX9 (Nat.lt_of_lt_of_le (Nat.le_of_ble_eq_true rfl) hG.2.2.2.1) dX9_spellPart_92 rfl hl.1 (ar := 1) (by decide +kernel) rfl ⟨Nat.le_of_ble_eq_true rfl, Nat.le_of_ble_eq_true rfl, hG.gc hg_15 hg_17, hG.gs hg_15 hg_17⟩ (Nat.le_of_ble_eq_true rfl) (fun uu H locs hp hGc => ?_)
    obtain rfl := hp
    replace hG := hG.grow hg_15 hg_17 hGc
    clear hGc
    refine lv_goto (tgt := 221) hx hb dX9_spellPart_95 (by decide) ?_
    cases hM
    exact g_vret S hr hlk hG.1 hG.2.1 dX9_spellPart_221 ⟨hG.rc, hG.rs⟩ rfl
  · replace hM := ifn hM (by omega)
    replace hM := ifn hM (by omega)
    replace hM := ifp hM hs_4
    refine gi_tsI (off := 197) (tgt := 206) hx hb 2 dX9_spellPart_9 hg_3 (by omega) (by omega) (by rfl) (by decide) ?_
    refine lv_aload_n hx hb dX9_spellPart_206 rfl (lv_at hl 0 rfl) ?_
    refine lv_aload_n hx hb dX9_spellPart_207 rfl (lv_at hl 0 rfl) ?_
    refine m_get S hG.1 58 60 0 rfl ec_60 cpX9 wm_495 dX9_spellPart_208 rfl (Nat.lt_of_lt_of_le (Nat.le_of_ble_eq_true rfl) hG.2.2.2.1) (by decide) ?_
    refine lv_iload_n hx hb dX9_spellPart_211 rfl (lv_at hl 1 rfl) ?_
    obtain ⟨r_19, hc_18, hM⟩ := bd1_some hM
    refine g_vi (As := [.int (iI a1)]) (rest := [.ref (b + 58)]) S hG.1 hG.2.1 (vX2_exprOf_2 l hG.2.2.2.1 a1 hc_18) wV_9_158 (ec_2 (b := b) (cy := cy) (X := XD b cy S0) _) cpX2 (Nat.lt_of_lt_of_le (Nat.le_of_ble_eq_true rfl) hG.2.2.2.1) dX9_spellPart_212 rfl hl.1 (ar := 1) (by decide +kernel) rfl ⟨Nat.le_of_ble_eq_true rfl, Nat.le_of_ble_eq_true rfl, hG.rc, hG.rs⟩ (Nat.le_of_ble_eq_true rfl) (fun rv uu H locs hp hGc => ?_)
    obtain ⟨rfl, rfl⟩ := hp
    refine wz ?_
    replace hG := hG.same hGc
    clear hGc
    refine lv_iload_n hx hb dX9_spellPart_215 rfl (lv_at hl 2 rfl) ?_
    refine lv_iload_n hx hb dX9_spellPart_216 rfl (lv_at hl 3 rfl) ?_
    obtain ⟨r_21, S_22, hc_20, hg_23, hg_24, hM⟩ := bdG2_some hM
    have hg_25 : gle S_22 o1 := ⟨Nat.le_trans hg_24.1 gle_rfl.1, Nat.le_trans hg_24.2 gle_rfl.2⟩
    refine g_vi (As := [.int (iI r_19), .int (iI a2), .int (iI a3)]) (rest := []) S hG.1 hG.2.1 (vX9_spellExpr l hG.2.2.2.1 r_19 a2 a3 hc_20) wV_9_68 (ec_60 (b := b) (cy := cy) (X := XD b cy S0) _) cpX9 (Nat.lt_of_lt_of_le (Nat.le_of_ble_eq_true rfl) hG.2.2.2.1) dX9_spellPart_217 rfl hl.1 (ar := 3) (by decide +kernel) rfl ⟨Nat.le_of_ble_eq_true rfl, Nat.le_of_ble_eq_true rfl, hG.gc hg_23 hg_25, hG.gs hg_23 hg_25⟩ (Nat.le_of_ble_eq_true rfl) (fun rv uu H locs hp hGc => ?_)
    obtain ⟨rfl, rfl⟩ := hp
    replace hG := hG.grow hg_23 hg_25 hGc
    clear hGc
    refine lv_pop hx hb dX9_spellPart_220 rfl ?_
    cases hM
    exact g_vret S hr hlk hG.1 hG.2.1 dX9_spellPart_221 ⟨hG.rc, hG.rs⟩ rfl
  · replace hM := ifn hM (by omega)
    replace hM := ifn hM (by omega)
    replace hM := ifn hM (by omega)
    replace hM := ifp hM hs_4
    refine gi_tsI (off := 89) (tgt := 98) hx hb 3 dX9_spellPart_9 hg_3 (by omega) (by omega) (by rfl) (by decide) ?_
    refine lv_aload_n hx hb dX9_spellPart_98 rfl (lv_at hl 0 rfl) ?_
    refine m_get S hG.1 58 60 2 rfl ec_60 cpX9 wm_497 dX9_spellPart_99 rfl (Nat.lt_of_lt_of_le (Nat.le_of_ble_eq_true rfl) hG.2.2.2.1) (by decide) ?_
    refine lv_iload_n hx hb dX9_spellPart_102 rfl (lv_at hl 1 rfl) ?_
    refine lv_iload_n hx hb dX9_spellPart_103 rfl (lv_at hl 2 rfl) ?_
    refine lv_iload_n hx hb dX9_spellPart_104 rfl (lv_at hl 3 rfl) ?_
    obtain ⟨S_27, hc_26, hM⟩ := bd1_some hM
    refine g_vv (As := [.int (iI a1), .int (iI a2), .int (iI a3)]) (rest := []) S hG.1 hG.2.1 (vX8_findRow l hG.2.2.2.1 a1 a2 a3 hc_26) wV_9_136 (ec_61 (b := b) (cy := cy) (X := XD b cy S0) _) cpX8 (Nat.lt_of_lt_of_le (Nat.le_of_ble_eq_true rfl) hG.2.2.2.1) dX9_spellPart_105 rfl hl.1 (ar := 3) (by decide +kernel) rfl ⟨Nat.le_of_ble_eq_true rfl, Nat.le_of_ble_eq_true rfl, hG.rc, hG.rs⟩ (Nat.le_of_ble_eq_true rfl) (fun uu H locs hp hGc => ?_)
    obtain rfl := hp
    refine wz ?_
    replace hG := hG.back hGc
    clear hGc
    obtain ⟨S_28, eS_28⟩ : ∃ q, q = msk S_27 S0 := ⟨_, rfl⟩
    rw [← eS_28] at hG
    replace hM := nx_at hM eS_28
    clear eS_28
    refine lv_aload_n hx hb dX9_spellPart_108 rfl (lv_at hl 0 rfl) ?_
    refine lv_iload_n hx hb dX9_spellPart_109 rfl (lv_at hl 1 rfl) ?_
    obtain ⟨S_30, hc_29, hg_31, hg_32, hM⟩ := bdG1_some hM
    have hg_33 : gle S_30 o1 := ⟨Nat.le_trans hg_32.1 gle_rfl.1, Nat.le_trans hg_32.2 gle_rfl.2⟩
    refine g_vv (As := [.int (iI a1)]) (rest := []) S hG.1 hG.2.1 (vX9_spellSequence l hG.2.2.2.1 a1 hc_29) wV_9_141 (ec_60 (b := b) (cy := cy) (X := XD b cy S_28) _) cpX9 (Nat.lt_of_lt_of_le (Nat.le_of_ble_eq_true rfl) hG.2.2.2.1) dX9_spellPart_110 rfl hl.1 (ar := 1) (by decide +kernel) rfl ⟨Nat.le_of_ble_eq_true rfl, Nat.le_of_ble_eq_true rfl, hG.gc hg_31 hg_33, hG.gs hg_31 hg_33⟩ (Nat.le_of_ble_eq_true rfl) (fun uu H locs hp hGc => ?_)
    obtain rfl := hp
    replace hG := hG.grow hg_31 hg_33 hGc
    clear hGc
    refine lv_goto (tgt := 221) hx hb dX9_spellPart_113 (by decide) ?_
    cases hM
    exact g_vret S hr hlk hG.1 hG.2.1 dX9_spellPart_221 ⟨hG.rc, hG.rs⟩ rfl
  · replace hM := ifn hM (by omega)
    replace hM := ifn hM (by omega)
    replace hM := ifn hM (by omega)
    replace hM := ifn hM (by omega)
    replace hM := ifp hM hs_4
    refine gi_tsI (off := 107) (tgt := 116) hx hb 4 dX9_spellPart_9 hg_3 (by omega) (by omega) (by rfl) (by decide) ?_
    refine lv_aload_n hx hb dX9_spellPart_116 rfl (lv_at hl 0 rfl) ?_
    refine m_get S hG.1 58 60 2 rfl ec_60 cpX9 wm_497 dX9_spellPart_117 rfl (Nat.lt_of_lt_of_le (Nat.le_of_ble_eq_true rfl) hG.2.2.2.1) (by decide) ?_
    refine lv_iload_n hx hb dX9_spellPart_120 rfl (lv_at hl 1 rfl) ?_
    refine lv_iload_n hx hb dX9_spellPart_121 rfl (lv_at hl 2 rfl) ?_
    refine lv_iload_n hx hb dX9_spellPart_122 rfl (lv_at hl 3 rfl) ?_
    obtain ⟨S_35, hc_34, hM⟩ := bd1_some hM
    refine g_vv (As := [.int (iI a1), .int (iI a2), .int (iI a3)]) (rest := []) S hG.1 hG.2.1 (vX8_findBag l hG.2.2.2.1 a1 a2 a3 hc_34) wV_9_144 (ec_61 (b := b) (cy := cy) (X := XD b cy S0) _) cpX8 (Nat.lt_of_lt_of_le (Nat.le_of_ble_eq_true rfl) hG.2.2.2.1) dX9_spellPart_123 rfl hl.1 (ar := 3) (by decide +kernel) rfl ⟨Nat.le_of_ble_eq_true rfl, Nat.le_of_ble_eq_true rfl, hG.rc, hG.rs⟩ (Nat.le_of_ble_eq_true rfl) (fun uu H locs hp hGc => ?_)
    obtain rfl := hp
    refine wz ?_
    replace hG := hG.back hGc
    clear hGc
    obtain ⟨S_36, eS_36⟩ : ∃ q, q = msk S_35 S0 := ⟨_, rfl⟩
    rw [← eS_36] at hG
    replace hM := nx_at hM eS_36
    clear eS_36
    refine lv_aload_n hx hb dX9_spellPart_126 rfl (lv_at hl 0 rfl) ?_
    refine lv_dup hx hb dX9_spellPart_127 rfl ?_
    refine m_get S hG.1 58 60 6 rfl ec_60 cpX9 wm_505 dX9_spellPart_128 rfl (Nat.lt_of_lt_of_le (Nat.le_of_ble_eq_true rfl) hG.2.2.2.1) (by decide) ?_
    refine lv_aload_n hx hb dX9_spellPart_131 rfl (lv_at hl 0 rfl) ?_
    refine m_get S hG.1 58 60 2 rfl ec_60 cpX9 wm_497 dX9_spellPart_132 rfl (Nat.lt_of_lt_of_le (Nat.le_of_ble_eq_true rfl) hG.2.2.2.1) (by decide) ?_
    obtain ⟨r_38, hc_37, hM⟩ := bd1_some hM
    refine g_vi (As := []) (rest := [.int (iI (S_36 60 6)), .ref (b + 58)]) S hG.1 hG.2.1 (vX8_changesAlike l hG.2.2.2.1  hc_37) wV_9_147 (ec_61 (b := b) (cy := cy) (X := XD b cy S_36) _) cpX8 (Nat.lt_of_lt_of_le (Nat.le_of_ble_eq_true rfl) hG.2.2.2.1) dX9_spellPart_135 rfl hl.1 (ar := 0) (by decide +kernel) rfl ⟨Nat.le_of_ble_eq_true rfl, Nat.le_of_ble_eq_true rfl, hG.rc, hG.rs⟩ (Nat.le_of_ble_eq_true rfl) (fun rv uu H locs hp hGc => ?_)
    obtain ⟨rfl, rfl⟩ := hp
    refine wz ?_
    replace hG := hG.same hGc
    clear hGc
    refine gi_mul hx hb dX9_spellPart_138 ?_
    refine n_put S hG 58 60 6 rfl 6 ((S_36 60 6) * r_38) ec_60 cpX9 wm_505 dX9_spellPart_139 (pf_60_6) (by decide) (by decide) (Nat.le_of_ble_eq_true rfl) rfl rfl rfl (fun H locs S_39 eS_39 hG => ?_)
    replace hM := nx_at hM eS_39
    clear eS_39
    refine lv_aload_n hx hb dX9_spellPart_142 rfl (lv_at hl 0 rfl) ?_
    refine lv_iload_n hx hb dX9_spellPart_143 rfl (lv_at hl 1 rfl) ?_
    obtain ⟨S_41, hc_40, hg_42, hg_43, hM⟩ := bdG1_some hM
    have hg_44 : gle S_41 o1 := ⟨Nat.le_trans hg_43.1 gle_rfl.1, Nat.le_trans hg_43.2 gle_rfl.2⟩
    refine g_vv (As := [.int (iI a1)]) (rest := []) S hG.1 hG.2.1 (vX9_spellSequence l hG.2.2.2.1 a1 hc_40) wV_9_141 (ec_60 (b := b) (cy := cy) (X := XD b cy S_39) _) cpX9 (Nat.lt_of_lt_of_le (Nat.le_of_ble_eq_true rfl) hG.2.2.2.1) dX9_spellPart_144 rfl hl.1 (ar := 1) (by decide +kernel) rfl ⟨Nat.le_of_ble_eq_true rfl, Nat.le_of_ble_eq_true rfl, hG.gc hg_42 hg_44, hG.gs hg_42 hg_44⟩ (Nat.le_of_ble_eq_true rfl) (fun uu H locs hp hGc => ?_)
    obtain rfl := hp
    replace hG := hG.grow hg_42 hg_44 hGc
    clear hGc
    refine lv_goto (tgt := 221) hx hb dX9_spellPart_147 (by decide) ?_
    cases hM
    exact g_vret S hr hlk hG.1 hG.2.1 dX9_spellPart_221 ⟨hG.rc, hG.rs⟩ rfl
  · replace hM := ifn hM (by omega)
    replace hM := ifn hM (by omega)
    replace hM := ifn hM (by omega)
    replace hM := ifn hM (by omega)
    replace hM := ifn hM (by omega)
    replace hM := ifp hM hs_4
    refine gi_tsI (off := 141) (tgt := 150) hx hb 5 dX9_spellPart_9 hg_3 (by omega) (by omega) (by rfl) (by decide) ?_
    refine lv_aload_n hx hb dX9_spellPart_150 rfl (lv_at hl 0 rfl) ?_
    refine m_get S hG.1 58 60 2 rfl ec_60 cpX9 wm_497 dX9_spellPart_151 rfl (Nat.lt_of_lt_of_le (Nat.le_of_ble_eq_true rfl) hG.2.2.2.1) (by decide) ?_
    refine lv_iload_n hx hb dX9_spellPart_154 rfl (lv_at hl 1 rfl) ?_
    refine lv_iload_n hx hb dX9_spellPart_155 rfl (lv_at hl 2 rfl) ?_
    refine lv_iload_n hx hb dX9_spellPart_156 rfl (lv_at hl 3 rfl) ?_
    obtain ⟨S_46, hc_45, hM⟩ := bd1_some hM
    refine g_vv (As := [.int (iI a1), .int (iI a2), .int (iI a3)]) (rest := []) S hG.1 hG.2.1 (vX8_findBag l hG.2.2.2.1 a1 a2 a3 hc_45) wV_9_144 (ec_61 (b := b) (cy := cy) (X := XD b cy S0) _) cpX8 (Nat.lt_of_lt_of_le (Nat.le_of_ble_eq_true rfl) hG.2.2.2.1) dX9_spellPart_157 rfl hl.1 (ar := 3) (by decide +kernel) rfl ⟨Nat.le_of_ble_eq_true rfl, Nat.le_of_ble_eq_true rfl, hG.rc, hG.rs⟩ (Nat.le_of_ble_eq_true rfl) (fun uu H locs hp hGc => ?_)
    obtain rfl := hp
    refine wz ?_
    replace hG := hG.back hGc
    clear hGc
    obtain ⟨S_47, eS_47⟩ : ∃ q, q = msk S_46 S0 := ⟨_, rfl⟩
    rw [← eS_47] at hG
    replace hM := nx_at hM eS_47
    clear eS_47
    refine lv_aload_n hx hb dX9_spellPart_160 rfl (lv_at hl 0 rfl) ?_
    refine lv_iload_n hx hb dX9_spellPart_161 rfl (lv_at hl 1 rfl) ?_
    obtain ⟨S_49, hc_48, hg_50, hg_51, hM⟩ := bdG1_some hM
    have hg_52 : gle S_49 o1 := ⟨Nat.le_trans hg_51.1 gle_rfl.1, Nat.le_trans hg_51.2 gle_rfl.2⟩
    refine g_vv (As := [.int (iI a1)]) (rest := []) S hG.1 hG.2.1 (vX9_spellSequence l hG.2.2.2.1 a1 hc_48) wV_9_141 (ec_60 (b := b) (cy := cy) (X := XD b cy S_47) _) cpX9 (Nat.lt_of_lt_of_le (Nat.le_of_ble_eq_true rfl) hG.2.2.2.1) dX9_spellPart_162 rfl hl.1 (ar := 1) (by decide +kernel) rfl ⟨Nat.le_of_ble_eq_true rfl, Nat.le_of_ble_eq_true rfl, hG.gc hg_50 hg_52, hG.gs hg_50 hg_52⟩ (Nat.le_of_ble_eq_true rfl) (fun uu H locs hp hGc => ?_)
    obtain rfl := hp
    replace hG := hG.grow hg_50 hg_52 hGc
    clear hGc
    refine lv_goto (tgt := 221) hx hb dX9_spellPart_165 (by decide) ?_
    cases hM
    exact g_vret S hr hlk hG.1 hG.2.1 dX9_spellPart_221 ⟨hG.rc, hG.rs⟩ rfl
  · replace hM := ifn hM (by omega)
    replace hM := ifn hM (by omega)
    replace hM := ifn hM (by omega)
    replace hM := ifn hM (by omega)
    replace hM := ifn hM (by omega)
    replace hM := ifn hM (by omega)
    replace hM := ifp hM hs_4
    refine gi_tsI (off := 159) (tgt := 168) hx hb 6 dX9_spellPart_9 hg_3 (by omega) (by omega) (by rfl) (by decide) ?_
    refine lv_aload_n hx hb dX9_spellPart_168 rfl (lv_at hl 0 rfl) ?_
    refine m_get S hG.1 58 60 2 rfl ec_60 cpX9 wm_497 dX9_spellPart_169 rfl (Nat.lt_of_lt_of_le (Nat.le_of_ble_eq_true rfl) hG.2.2.2.1) (by decide) ?_
    refine lv_iload_n hx hb dX9_spellPart_172 rfl (lv_at hl 1 rfl) ?_
    refine lv_iload_n hx hb dX9_spellPart_173 rfl (lv_at hl 2 rfl) ?_
    refine lv_iload_n hx hb dX9_spellPart_174 rfl (lv_at hl 3 rfl) ?_
    refine lv_aload_n hx hb dX9_spellPart_175 rfl (lv_at hl 0 rfl) ?_
    refine m_get S hG.1 58 60 13 rfl ec_60 cpX9 wm_518 dX9_spellPart_176 rfl (Nat.lt_of_lt_of_le (Nat.le_of_ble_eq_true rfl) hG.2.2.2.1) (by decide) ?_
    obtain ⟨S_54, hc_53, hg_55, hg_56, hM⟩ := bdG1_some hM
    have hg_57 : gle S_54 o1 := ⟨Nat.le_trans hg_56.1 gle_rfl.1, Nat.le_trans hg_56.2 gle_rfl.2⟩
    refine g_vv (As := [.int (iI a1), .int (iI a2), .int (iI a3), .int (iI (S0 60 13))]) (rest := []) S hG.1 hG.2.1 (vX8_findRing l hG.2.2.2.1 a1 a2 a3 (S0 60 13) hc_53) wV_9_151 (ec_61 (b := b) (cy := cy) (X := XD b cy S0) _) cpX8 (Nat.lt_of_lt_of_le (Nat.le_of_ble_eq_true rfl) hG.2.2.2.1) dX9_spellPart_179 rfl hl.1 (ar := 4) (by decide +kernel) rfl ⟨Nat.le_of_ble_eq_true rfl, Nat.le_of_ble_eq_true rfl, hG.gc hg_55 hg_57, hG.gs hg_55 hg_57⟩ (Nat.le_of_ble_eq_true rfl) (fun uu H locs hp hGc => ?_)
    obtain rfl := hp
    replace hG := hG.grow hg_55 hg_57 hGc
    clear hGc
    refine lv_aload_n hx hb dX9_spellPart_182 rfl (lv_at hl 0 rfl) ?_
    refine lv_dup hx hb dX9_spellPart_183 rfl ?_
    refine m_get S hG.1 58 60 6 rfl ec_60 cpX9 wm_505 dX9_spellPart_184 rfl (Nat.lt_of_lt_of_le (Nat.le_of_ble_eq_true rfl) hG.2.2.2.1) (by decide) ?_
    refine lv_aload_n hx hb dX9_spellPart_187 rfl (lv_at hl 0 rfl) ?_
    refine m_get S hG.1 58 60 2 rfl ec_60 cpX9 wm_497 dX9_spellPart_188 rfl (Nat.lt_of_lt_of_le (Nat.le_of_ble_eq_true rfl) hG.2.2.2.1) (by decide) ?_
    obtain ⟨r_59, hc_58, hM⟩ := bd1_some hM
    refine g_vi (As := []) (rest := [.int (iI (S_54 60 6)), .ref (b + 58)]) S hG.1 hG.2.1 (vX8_turnsAlike l hG.2.2.2.1  hc_58) wV_9_155 (ec_61 (b := b) (cy := cy) (X := XD b cy S_54) _) cpX8 (Nat.lt_of_lt_of_le (Nat.le_of_ble_eq_true rfl) hG.2.2.2.1) dX9_spellPart_191 rfl hl.1 (ar := 0) (by decide +kernel) rfl ⟨Nat.le_of_ble_eq_true rfl, Nat.le_of_ble_eq_true rfl, hG.rc, hG.rs⟩ (Nat.le_of_ble_eq_true rfl) (fun rv uu H locs hp hGc => ?_)
    obtain ⟨rfl, rfl⟩ := hp
    refine wz ?_
    replace hG := hG.same hGc
    clear hGc
    refine gi_mul hx hb dX9_spellPart_194 ?_
    refine n_put S hG 58 60 6 rfl 6 ((S_54 60 6) * r_59) ec_60 cpX9 wm_505 dX9_spellPart_195 (pf_60_6) (by decide) (by decide) (Nat.le_of_ble_eq_true rfl) rfl rfl rfl (fun H locs S_60 eS_60 hG => ?_)
    replace hM := nx_at hM eS_60
    clear eS_60
    refine lv_aload_n hx hb dX9_spellPart_198 rfl (lv_at hl 0 rfl) ?_
    refine lv_iload_n hx hb dX9_spellPart_199 rfl (lv_at hl 1 rfl) ?_
    obtain ⟨S_62, hc_61, hg_63, hg_64, hM⟩ := bdG1_some hM
    have hg_65 : gle S_62 o1 := ⟨Nat.le_trans hg_64.1 gle_rfl.1, Nat.le_trans hg_64.2 gle_rfl.2⟩
    refine g_vv (As := [.int (iI a1)]) (rest := []) S hG.1 hG.2.1 (vX9_spellSequence l hG.2.2.2.1 a1 hc_61) wV_9_141 (ec_60 (b := b) (cy := cy) (X := XD b cy S_60) _) cpX9 (Nat.lt_of_lt_of_le (Nat.le_of_ble_eq_true rfl) hG.2.2.2.1) dX9_spellPart_200 rfl hl.1 (ar := 1) (by decide +kernel) rfl ⟨Nat.le_of_ble_eq_true rfl, Nat.le_of_ble_eq_true rfl, hG.gc hg_63 hg_65, hG.gs hg_63 hg_65⟩ (Nat.le_of_ble_eq_true rfl) (fun uu H locs hp hGc => ?_)
    obtain rfl := hp
    replace hG := hG.grow hg_63 hg_65 hGc
    clear hGc
    refine lv_goto (tgt := 221) hx hb dX9_spellPart_203 (by decide) ?_
    cases hM
    exact g_vret S hr hlk hG.1 hG.2.1 dX9_spellPart_221 ⟨hG.rc, hG.rs⟩ rfl
  · replace hM := ifn hM (by omega)
    replace hM := ifn hM (by omega)
    replace hM := ifn hM (by omega)
    replace hM := ifn hM (by omega)
    replace hM := ifn hM (by omega)
    replace hM := ifn hM (by omega)
    replace hM := ifn hM (by omega)
    refine gi_tsO (tgt := 206) hx hb dX9_spellPart_9 hg_3 hs_4 (by decide) ?_
    refine lv_aload_n hx hb dX9_spellPart_206 rfl (lv_at hl 0 rfl) ?_
    refine lv_aload_n hx hb dX9_spellPart_207 rfl (lv_at hl 0 rfl) ?_
    refine m_get S hG.1 58 60 0 rfl ec_60 cpX9 wm_495 dX9_spellPart_208 rfl (Nat.lt_of_lt_of_le (Nat.le_of_ble_eq_true rfl) hG.2.2.2.1) (by decide) ?_
    refine lv_iload_n hx hb dX9_spellPart_211 rfl (lv_at hl 1 rfl) ?_
    obtain ⟨r_67, hc_66, hM⟩ := bd1_some hM
    refine g_vi (As := [.int (iI a1)]) (rest := [.ref (b + 58)]) S hG.1 hG.2.1 (vX2_exprOf_2 l hG.2.2.2.1 a1 hc_66) wV_9_158 (ec_2 (b := b) (cy := cy) (X := XD b cy S0) _) cpX2 (Nat.lt_of_lt_of_le (Nat.le_of_ble_eq_true rfl) hG.2.2.2.1) dX9_spellPart_212 rfl hl.1 (ar := 1) (by decide +kernel) rfl ⟨Nat.le_of_ble_eq_true rfl, Nat.le_of_ble_eq_true rfl, hG.rc, hG.rs⟩ (Nat.le_of_ble_eq_true rfl) (fun rv uu H locs hp hGc => ?_)
    obtain ⟨rfl, rfl⟩ := hp
    refine wz ?_
    replace hG := hG.same hGc
    clear hGc
    refine lv_iload_n hx hb dX9_spellPart_215 rfl (lv_at hl 2 rfl) ?_
    refine lv_iload_n hx hb dX9_spellPart_216 rfl (lv_at hl 3 rfl) ?_
    obtain ⟨r_69, S_70, hc_68, hg_71, hg_72, hM⟩ := bdG2_some hM
    have hg_73 : gle S_70 o1 := ⟨Nat.le_trans hg_72.1 gle_rfl.1, Nat.le_trans hg_72.2 gle_rfl.2⟩
    refine g_vi (As := [.int (iI r_67), .int (iI a2), .int (iI a3)]) (rest := []) S hG.1 hG.2.1 (vX9_spellExpr l hG.2.2.2.1 r_67 a2 a3 hc_68) wV_9_68 (ec_60 (b := b) (cy := cy) (X := XD b cy S0) _) cpX9 (Nat.lt_of_lt_of_le (Nat.le_of_ble_eq_true rfl) hG.2.2.2.1) dX9_spellPart_217 rfl hl.1 (ar := 3) (by decide +kernel) rfl ⟨Nat.le_of_ble_eq_true rfl, Nat.le_of_ble_eq_true rfl, hG.gc hg_71 hg_73, hG.gs hg_71 hg_73⟩ (Nat.le_of_ble_eq_true rfl) (fun rv uu H locs hp hGc => ?_)
    obtain ⟨rfl, rfl⟩ := hp
    replace hG := hG.grow hg_71 hg_73 hGc
    clear hGc
    refine lv_pop hx hb dX9_spellPart_220 rfl ?_
    cases hM
    exact g_vret S hr hlk hG.1 hG.2.1 dX9_spellPart_221 ⟨hG.rc, hG.rs⟩ rfl
theorem wS_9_62 : gWS "GrownKinds$Speller" 62 yJ7_fill_53178 cJ7_fill_53178 4 none := ⟨wm_1273, wm_748, wm_189, wm_749, by decide +kernel, by decide +kernel⟩
def mJ7_fill_53178_65_5 (a2 : Int) : Nat → Int → St → Option (St)
  | 0, _, _ => none
  | f + 1, v_1, S_2 => gd (inI v_1) <| if 26 ≤ v_1 then (some (S_2)) else (gd (0 ≤ v_1 ∧ v_1 < 26) <| nx (up S_2 65 v_1 a2) fun S_12 => mJ7_fill_53178_65_5 a2 f (v_1 + 1) S_12)
def mJ7_fill_53178_65 (S0 : St) (a2 : Int) : Option (St) := bd1 (mJ7_fill_53178_65_5 a2 FU 0 S0) fun S_3 => some (S_3)
set_option maxHeartbeats 4000000 in
set_option maxRecDepth 100000 in
theorem vJ7_fill_53178_65 (l : Launch) {D : va_G} {cy : Nat → ClassId} {b n : Nat} (hn : 102 ≤ n) {X : Nat → va_E} {S0 : St} (a2 : Int) {o1 : St} (hM : mJ7_fill_53178_65 S0 a2 = some o1) : gV l yJ7_fill_53178 cJ7_fill_53178 4 0 0 0 D cy b n (enc b cy X S0) [.ref (b + 63), .int (iI a2)] (fun u => u = (n, enc b cy X o1)) := by
  refine gV_of (by decide) (Nat.le_of_ble_eq_true rfl) ?_
  intro p e s m args below meth c S hr hlk hin hsz ls hl hG
  have hx := S.1
  have hb := S.2.1
  have hl : lv_has ls 4 [(0, .ref (b + 63)), (1, .int (iI a2))] := hl
  replace hG : gW D cy b n s s.heap [] (enc b cy X S0) := hG
  obtain ⟨H, eH⟩ : ∃ H, H = s.heap := ⟨_, rfl⟩
  obtain ⟨locs, elocs⟩ : ∃ locs : List Loc, locs = [] := ⟨_, rfl⟩
  rw [← eH, ← elocs] at hG
  rw [← eH, ← elocs]
  clear eH elocs
  unfold mJ7_fill_53178_65 at hM
  refine lv_iconst (v := iI 0) hx hb dJ7_fill_53178_0 (by decide) ?_
  refine lv_istore_n (lv' := [(2, .int (iI 0)), (0, .ref (b + 63)), (1, .int (iI a2))]) hx hb dJ7_fill_53178_1 rfl hl (by decide) rfl (fun ls hl => ?_)
  refine lv_aload_n hx hb dJ7_fill_53178_2 rfl (lv_at hl 1 rfl) ?_
  refine m_alen S hG 63 1 ec_65 rfl (Nat.lt_of_lt_of_le (Nat.le_of_ble_eq_true rfl) hn) dJ7_fill_53178_3 (N := 26) (show Int32.ofNat 26 = iI 26 by decide) ?_
  refine lv_istore_n (lv' := [(3, .int (iI 26)), (2, .int (iI 0)), (0, .ref (b + 63)), (1, .int (iI a2))]) hx hb dJ7_fill_53178_4 rfl hl (by decide) rfl (fun ls hl => ?_)
  obtain ⟨S_3, hc_4, hM⟩ := bd1_some hM
  have hK_5 : ∀ (H : Heap) (locs : List Loc) (ls : Array Slot), gW D cy b n s H locs (enc b cy X S_3) → lv_has ls 4 [] → W p l e (gRm 0 0 0) s m args below meth c H locs 0 0 (gQV D cy b s args below 0 0 (fun u => u = (n, enc b cy X o1))) (F0 m 20 ls []) := by
    intro H locs ls hG hl
    cases hM
    exact g_vret S hr hlk hG hsz dJ7_fill_53178_20 ⟨Nat.le_of_ble_eq_true rfl, Nat.le_of_ble_eq_true rfl⟩ rfl
  have loop_6 : ∀ (f : Nat) (v_1 : Int) (S_2 : St) (H : Heap) (locs : List Loc) (ls : Array Slot), mJ7_fill_53178_65_5 a2 f v_1 S_2 = some S_3 → gW D cy b n s H locs (enc b cy X S_2) → lv_has ls 4 [(3, .int (iI 26)), (2, .int (iI v_1)), (0, .ref (b + 63)), (1, .int (iI a2))] → W p l e (gRm 0 0 0) s m args below meth c H locs 0 0 (gQV D cy b s args below 0 0 (fun u => u = (n, enc b cy X o1))) (F0 m 5 ls []) := by
    clear hM
    intro f
    induction f with
    | zero => intro v_1 S_2 H locs ls hM; rw [mJ7_fill_53178_65_5] at hM; cases hM
    | succ f_8 ih_7 =>
      intro v_1 S_2 H locs ls hM hG hl
      rw [mJ7_fill_53178_65_5] at hM
      refine lv_iload_n hx hb dJ7_fill_53178_5 rfl (lv_at hl 1 rfl) ?_
      refine lv_iload_n hx hb dJ7_fill_53178_6 rfl (lv_at hl 0 rfl) ?_
      obtain ⟨hg_9, hM⟩ := gd_some hM
      refine gi_icmp_ge (tgt := 20) hx hb dJ7_fill_53178_7 (by decide) hg_9 (by decide) (fun c_10 => ?_) (fun c_10 => ?_)
      · replace hM := ifp hM c_10
        cases hM
        exact hK_5 H locs ls hG (lv_sub hl [] rfl)
      · replace hM := ifn hM c_10
        refine lv_aload_n hx hb dJ7_fill_53178_10 rfl (lv_at hl 2 rfl) ?_
        refine lv_iload_n hx hb dJ7_fill_53178_11 rfl (lv_at hl 1 rfl) ?_
        refine lv_iload_n hx hb dJ7_fill_53178_12 rfl (lv_at hl 3 rfl) ?_
        obtain ⟨hg_11, hM⟩ := gd_some hM
        refine mi_ast S hG 63 65 rfl ec_65 (Nat.lt_of_lt_of_le (Nat.le_of_ble_eq_true rfl) hn) dJ7_fill_53178_13 hg_11 (by decide) (fun H locs S_12 eS_12 hG => ?_)
        replace hM := nx_at hM eS_12
        clear eS_12
        refine lv_iinc (v := iI (v_1 + 1)) (lv' := [(2, .int (iI (v_1 + 1))), (3, .int (iI 26)), (0, .ref (b + 63)), (1, .int (iI a2))]) hx hb dJ7_fill_53178_14 hl (k := 1) rfl ((iI_add v_1 (1)).trans (congrArg iI (by omega))) (by decide) rfl (fun ls hl => ?_)
        refine lv_goto (tgt := 5) hx hb dJ7_fill_53178_17 (by decide) ?_
        exact ih_7 (v_1 + 1) S_12 H locs ls hM hG (lv_sub hl [1, 0, 2, 3] rfl)
  exact loop_6 FU 0 S0 H locs ls hc_4 hG (lv_sub hl [0, 1, 2, 3] rfl)
theorem wV_9_77 : gWV "GrownKinds$Speller" 77 yX9_spellPart cX9_spellPart 4 none := ⟨wm_1313, wm_1315, wm_59, wm_183, wm_1316, by decide +kernel, by decide +kernel⟩
def mX9_spell_97  : Nat → Int → St → Option (St)
  | 0, _, _ => none
  | f + 1, v_24, S_25 => gd (inI v_24) <| if 1000000 ≤ v_24 then (some (S_25)) else (gd (inI (S_25 60 12)) <| if (S_25 60 12) ≤ 0 then (some (S_25)) else (nx (up S_25 60 12 ((S_25 60 12) - 1)) fun S_39 => gd (0 ≤ (S_39 60 12) ∧ (S_39 60 12) < 1100) <| nx (S_39 66 (S_39 60 12)) fun x_41 => gd (inI x_41) <| if 0 ≤ x_41 then (gd (0 ≤ x_41 ∧ x_41 ≤ 2147483647) <| gd (0 ≤ (x_41 / 1024) ∧ (x_41 / 1024) ≤ 2147483647) <| bdG1 S_39 (fun o : St => o) (mX9_spellPart S_39 ((x_41 / 1024) / 8) ((x_41 / 1024) % 8) (x_41 % 1024)) fun S_47 => mX9_spell_97 f (v_24 + 1) S_47) else (nx (up S_39 60 10 ((S_39 60 10) - 1)) fun S_51 => bdG1 S_51 (fun o : St => o) (mX9_put S_51 (-x_41)) fun S_53 => mX9_spell_97 f (v_24 + 1) S_53)))
def mX9_spell (S0 : St) (a1 : Int) (a2 : Int) (a3 : Int) (a4 : Int) : Option (St) := entG S0 (fun o : St => o) (nx ((((a1 * 8) + a2) * 1024) + a3) fun x_1 => bd1 (gd ((inI a4) ∧ (inI (S0 60 13))) <| if a4 = (S0 60 13) then (gd ((inI x_1) ∧ (inI (S0 60 14))) <| if x_1 = (S0 60 14) then (some (0)) else (some (1))) else (some (1))) fun t_2 => if t_2 = 0 then (some (S0)) else (nx (up S0 60 13 a4) fun S_6 => nx (up S_6 60 14 x_1) fun S_7 => nx (up S_7 60 4 0) fun S_8 => nx (up S_8 60 5 0) fun S_9 => nx (up S_9 60 6 1) fun S_10 => nx (up S_10 60 8 0) fun S_11 => nx (up S_11 60 10 0) fun S_12 => nx (up S_12 60 12 0) fun S_13 => bd1 (mJ7_fill_53178_65 S_13 0) fun S_15 => nx (msk S_15 S_13) fun S_16 => bdG2 S_16 (fun o : St => o) (mX9_spellExpr S_16 a1 a2 a3) fun r_18 S_19 => nx (up S_19 60 7 r_18) fun S_23 => bdG1 S_23 (fun o : St => o) (mX9_spell_97 FU 0 S_23) fun S_26 => some (S_26)))
set_option maxHeartbeats 4000000 in
set_option maxRecDepth 100000 in
theorem vX9_spell (l : Launch) {D : va_G} {cy : Nat → ClassId} {b : Nat} {S0 : St} (hn : 102 ≤ nn S0 - 3) (a1 : Int) (a2 : Int) (a3 : Int) (a4 : Int) {o1 : St} (hM : mX9_spell S0 a1 a2 a3 a4 = some o1) : gV l yX9_spell cX9_spell 8 29 (nn o1 - nn S0) (zz o1 - zz S0) D cy b (nn S0 - 3) (eG b cy S0) [.ref (b + 58), .int (iI a1), .int (iI a2), .int (iI a3), .int (iI a4)] (fun u => u = (nn o1 - 3, eG b cy o1)) := by
  refine gV_of (by decide) (Nat.le_of_ble_eq_true rfl) ?_
  intro p e s m args below meth c S hr hlk hin hsz ls hl hG
  have hx := S.1
  have hb := S.2.1
  have hl : lv_has ls 8 [(0, .ref (b + 58)), (1, .int (iI a1)), (2, .int (iI a2)), (3, .int (iI a3)), (4, .int (iI a4))] := hl
  replace hG : gW D cy b (nn S0 - 3) s s.heap [] (eG b cy S0) := hG
  obtain ⟨H, eH⟩ : ∃ H, H = s.heap := ⟨_, rfl⟩
  obtain ⟨locs, elocs⟩ : ∃ locs : List Loc, locs = [] := ⟨_, rfl⟩
  rw [← eH, ← elocs] at hG
  rw [← eH, ← elocs]
  clear eH elocs
  unfold mX9_spell at hM
  obtain ⟨hge, hM⟩ := entG_some hM
  replace hG : gX D cy b s H locs S0 0 0 S0 o1 := gX.start hG hsz hn hge
  refine lv_iload_n hx hb dX9_spell_0 rfl (lv_at hl 1 rfl) ?_
  refine lv_bipush (v := iI 8) hx hb dX9_spell_1 (by decide) ?_
  refine gi_mul hx hb dX9_spell_3 ?_
  refine lv_iload_n hx hb dX9_spell_4 rfl (lv_at hl 2 rfl) ?_
  refine gi_add hx hb dX9_spell_5 ?_
  refine lv_sipush (v := iI 1024) hx hb dX9_spell_6 (by decide) ?_
  refine gi_mul hx hb dX9_spell_9 ?_
  refine lv_iload_n hx hb dX9_spell_10 rfl (lv_at hl 3 rfl) ?_
  refine gi_add hx hb dX9_spell_11 ?_
  refine gi_nm (fun x_1 ex_1 => ?_)
  replace hM := nx_at hM ex_1
  clear ex_1
  refine lv_istore (lv' := [(5, .int (iI x_1)), (0, .ref (b + 58)), (1, .int (iI a1)), (2, .int (iI a2)), (3, .int (iI a3)), (4, .int (iI a4))]) hx hb dX9_spell_12 hl (by decide) rfl (fun ls hl => ?_)
  refine lv_iload hx hb dX9_spell_14 (lv_at hl 5 rfl) ?_
  refine lv_aload_n hx hb dX9_spell_16 rfl (lv_at hl 1 rfl) ?_
  refine m_get S hG.1 58 60 13 rfl ec_60 cpX9 wm_518 dX9_spell_17 rfl (Nat.lt_of_lt_of_le (Nat.le_of_ble_eq_true rfl) hG.2.2.2.1) (by decide) ?_
  obtain ⟨t_2, hc_3, hM⟩ := bd1_some hM
  have hK_4 : ∀ (ce sl : Nat) (H : Heap) (locs : List Loc) (ls : Array Slot), t_2 = 0 → gX D cy b s H locs S0 ce sl S0 o1 → lv_has ls 8 [] → W p l e (gRm 29 (nn o1 - nn S0) (zz o1 - zz S0)) s m args below meth c H locs ce sl (gQV D cy b s args below (nn o1 - nn S0) (zz o1 - zz S0) (fun u => u = (nn o1 - 3, eG b cy o1))) (F0 m 32 ls []) := by
    intro ce sl H locs ls ht hG hl
    subst ht
    replace hM := ifp hM rfl
    cases hM
    exact g_vret S hr hlk hG.1 hG.2.1 dX9_spell_32 ⟨hG.rc, hG.rs⟩ rfl
  have hK_5 : ∀ (ce sl : Nat) (H : Heap) (locs : List Loc) (ls : Array Slot), t_2 = 1 → gX D cy b s H locs S0 ce sl S0 o1 → lv_has ls 8 [(5, .int (iI x_1)), (0, .ref (b + 58)), (1, .int (iI a1)), (2, .int (iI a2)), (3, .int (iI a3)), (4, .int (iI a4))] → W p l e (gRm 29 (nn o1 - nn S0) (zz o1 - zz S0)) s m args below meth c H locs ce sl (gQV D cy b s args below (nn o1 - nn S0) (zz o1 - zz S0) (fun u => u = (nn o1 - 3, eG b cy o1))) (F0 m 33 ls []) := by
    intro ce sl H locs ls ht hG hl
    subst ht
    replace hM := ifn hM (by decide)
    refine lv_aload_n hx hb dX9_spell_33 rfl (lv_at hl 1 rfl) ?_
    refine lv_iload hx hb dX9_spell_34 (lv_at hl 5 rfl) ?_
    refine n_put S hG 58 60 13 rfl 13 a4 ec_60 cpX9 wm_518 dX9_spell_36 (pf_60_13) (by decide) (by decide) (Nat.le_of_ble_eq_true rfl) rfl rfl rfl (fun H locs S_6 eS_6 hG => ?_)
    replace hM := nx_at hM eS_6
    clear eS_6
    refine lv_aload_n hx hb dX9_spell_39 rfl (lv_at hl 1 rfl) ?_
    refine lv_iload hx hb dX9_spell_40 (lv_at hl 0 rfl) ?_
    refine n_put S hG 58 60 14 rfl 14 x_1 ec_60 cpX9 wm_519 dX9_spell_42 (pf_60_14) (by decide) (by decide) (Nat.le_of_ble_eq_true rfl) rfl rfl rfl (fun H locs S_7 eS_7 hG => ?_)
    replace hM := nx_at hM eS_7
    clear eS_7
    refine lv_aload_n hx hb dX9_spell_45 rfl (lv_at hl 1 rfl) ?_
    refine lv_iconst (v := iI 0) hx hb dX9_spell_46 (by decide) ?_
    refine n_put S hG 58 60 4 rfl 4 0 ec_60 cpX9 wm_500 dX9_spell_47 (pf_60_4) (by decide) (by decide) (Nat.le_of_ble_eq_true rfl) rfl rfl rfl (fun H locs S_8 eS_8 hG => ?_)
    replace hM := nx_at hM eS_8
    clear eS_8
    refine lv_aload_n hx hb dX9_spell_50 rfl (lv_at hl 1 rfl) ?_
    refine lv_iconst (v := iI 0) hx hb dX9_spell_51 (by decide) ?_
    refine n_put S hG 58 60 5 rfl 5 0 ec_60 cpX9 wm_502 dX9_spell_52 (pf_60_5) (by decide) (by decide) (Nat.le_of_ble_eq_true rfl) rfl rfl rfl (fun H locs S_9 eS_9 hG => ?_)
    replace hM := nx_at hM eS_9
    clear eS_9
    refine lv_aload_n hx hb dX9_spell_55 rfl (lv_at hl 1 rfl) ?_
    refine lv_iconst (v := iI 1) hx hb dX9_spell_56 (by decide) ?_
    refine n_put S hG 58 60 6 rfl 6 1 ec_60 cpX9 wm_505 dX9_spell_57 (pf_60_6) (by decide) (by decide) (Nat.le_of_ble_eq_true rfl) rfl rfl rfl (fun H locs S_10 eS_10 hG => ?_)
    replace hM := nx_at hM eS_10
    clear eS_10
    refine lv_aload_n hx hb dX9_spell_60 rfl (lv_at hl 1 rfl) ?_
    refine lv_iconst (v := iI 0) hx hb dX9_spell_61 (by decide) ?_
    refine n_put S hG 58 60 8 rfl 8 0 ec_60 cpX9 wm_510 dX9_spell_62 (pf_60_8) (by decide) (by decide) (Nat.le_of_ble_eq_true rfl) rfl rfl rfl (fun H locs S_11 eS_11 hG => ?_)
    replace hM := nx_at hM eS_11
    clear eS_11
    refine lv_aload_n hx hb dX9_spell_65 rfl (lv_at hl 1 rfl) ?_
    refine lv_iconst (v := iI 0) hx hb dX9_spell_66 (by decide) ?_
    refine n_put S hG 58 60 10 rfl 10 0 ec_60 cpX9 wm_515 dX9_spell_67 (pf_60_10) (by decide) (by decide) (Nat.le_of_ble_eq_true rfl) rfl rfl rfl (fun H locs S_12 eS_12 hG => ?_)
    replace hM := nx_at hM eS_12
    clear eS_12
    refine lv_aload_n hx hb dX9_spell_70 rfl (lv_at hl 1 rfl) ?_
    refine lv_iconst (v := iI 0) hx hb dX9_spell_71 (by decide) ?_
    refine n_put S hG 58 60 12 rfl 12 0 ec_60 cpX9 wm_517 dX9_spell_72 (pf_60_12) (by decide) (by decide) (Nat.le_of_ble_eq_true rfl) rfl rfl rfl (fun H locs S_13 eS_13 hG => ?_)
    replace hM := nx_at hM eS_13
    clear eS_13
    refine lv_aload_n hx hb dX9_spell_75 rfl (lv_at hl 1 rfl) ?_
    refine m_get S hG.1 58 60 9 rfl ec_60 cpX9 wm_512 dX9_spell_76 rfl (Nat.lt_of_lt_of_le (Nat.le_of_ble_eq_true rfl) hG.2.2.2.1) (by decide) ?_
    refine lv_iconst (v := iI 0) hx hb dX9_spell_79 (by decide) ?_
    obtain ⟨S_15, hc_14, hM⟩ := bd1_some hM
    refine g_sv (As := [.ref (b + 63), .int (iI 0)]) (rest := []) S hG.1 hG.2.1 (vJ7_fill_53178_65 l hG.2.2.2.1 0 hc_14) wS_9_62 dX9_spell_80 rfl hl.1 (ar := 2) (by decide +kernel) rfl ⟨Nat.le_of_ble_eq_true rfl, Nat.le_of_ble_eq_true rfl, hG.rc, hG.rs⟩ (Nat.le_of_ble_eq_true rfl) (fun uu H locs hp hGc => ?_)
    obtain rfl := hp
    refine wz ?_
    replace hG := hG.back hGc
    clear hGc
    obtain ⟨S_16, eS_16⟩ : ∃ q, q = msk S_15 S_13 := ⟨_, rfl⟩
    rw [← eS_16] at hG
    replace hM := nx_at hM eS_16
    clear eS_16
    refine lv_aload_n hx hb dX9_spell_83 rfl (lv_at hl 1 rfl) ?_
    refine lv_aload_n hx hb dX9_spell_84 rfl (lv_at hl 1 rfl) ?_
    refine lv_iload_n hx hb dX9_spell_85 rfl (lv_at hl 2 rfl) ?_
    refine lv_iload_n hx hb dX9_spell_86 rfl (lv_at hl 3 rfl) ?_
    refine lv_iload_n hx hb dX9_spell_87 rfl (lv_at hl 4 rfl) ?_
    obtain ⟨r_18, S_19, hc_17, hg_20, hg_21, hM⟩ := bdG2_some hM
    have hg_22 : gle S_19 o1 := ⟨Nat.le_trans hg_21.1 gle_rfl.1, Nat.le_trans hg_21.2 gle_rfl.2⟩
    refine g_vi (As := [.int (iI a1), .int (iI a2), .int (iI a3)]) (rest := [.ref (b + 58)]) S hG.1 hG.2.1 (vX9_spellExpr l hG.2.2.2.1 a1 a2 a3 hc_17) wV_9_68 (ec_60 (b := b) (cy := cy) (X := XD b cy S_16) _) cpX9 (Nat.lt_of_lt_of_le (Nat.le_of_ble_eq_true rfl) hG.2.2.2.1) dX9_spell_88 rfl hl.1 (ar := 3) (by decide +kernel) rfl ⟨Nat.le_of_ble_eq_true rfl, Nat.le_of_ble_eq_true rfl, hG.gc hg_20 hg_22, hG.gs hg_20 hg_22⟩ (Nat.le_of_ble_eq_true rfl) (fun rv uu H locs hp hGc => ?_)
    obtain ⟨rfl, rfl⟩ := hp
    replace hG := hG.grow hg_20 hg_22 hGc
    clear hGc
    refine n_put S hG 58 60 7 rfl 7 r_18 ec_60 cpX9 wm_508 dX9_spell_91 (pf_60_7) (by decide) (by decide) (Nat.le_of_ble_eq_true rfl) rfl rfl rfl (fun H locs S_23 eS_23 hG => ?_)
    replace hM := nx_at hM eS_23
    clear eS_23
    refine lv_iconst (v := iI 0) hx hb dX9_spell_94 (by decide) ?_
    refine lv_istore (lv' := [(6, .int (iI 0)), (5, .int (iI x_1)), (0, .ref (b + 58)), (1, .int (iI a1)), (2, .int (iI a2)), (3, .int (iI a3)), (4, .int (iI a4))]) hx hb dX9_spell_95 hl (by decide) rfl (fun ls hl => ?_)
    obtain ⟨S_26, hc_27, hg_28, hg_29, hM⟩ := bdG1_some hM
    have hub_30 : gle S_26 o1 := ⟨Nat.le_trans hg_29.1 gle_rfl.1, Nat.le_trans hg_29.2 gle_rfl.2⟩
    have hK_31 : ∀ (ce sl : Nat) (H : Heap) (locs : List Loc) (ls : Array Slot), gX D cy b s H locs S_26 ce sl S0 o1 → lv_has ls 8 [] → W p l e (gRm 29 (nn o1 - nn S0) (zz o1 - zz S0)) s m args below meth c H locs ce sl (gQV D cy b s args below (nn o1 - nn S0) (zz o1 - zz S0) (fun u => u = (nn o1 - 3, eG b cy o1))) (F0 m 191 ls []) := by
      intro ce sl H locs ls hG hl
      cases hM
      exact g_vret S hr hlk hG.1 hG.2.1 dX9_spell_191 ⟨hG.rc, hG.rs⟩ rfl
    have loop_32 : ∀ (f : Nat) (v_24 : Int) (S_25 : St) (ce sl : Nat) (H : Heap) (locs : List Loc) (ls : Array Slot), mX9_spell_97 f v_24 S_25 = some S_26 → gX D cy b s H locs S_25 ce sl S0 o1 → lv_has ls 8 [(6, .int (iI v_24)), (0, .ref (b + 58))] → W p l e (gRm 29 (nn o1 - nn S0) (zz o1 - zz S0)) s m args below meth c H locs ce sl (gQV D cy b s args below (nn o1 - nn S0) (zz o1 - zz S0) (fun u => u = (nn o1 - 3, eG b cy o1))) (F0 m 97 ls []) := by
      clear hM
      intro f
      induction f with
      | zero => intro v_24 S_25 ce sl H locs ls hM; rw [mX9_spell_97] at hM; cases hM
      | succ f_34 ih_33 =>
        intro v_24 S_25 ce sl H locs ls hM hG hl
        rw [mX9_spell_97] at hM
        refine lv_iload hx hb dX9_spell_97 (lv_at hl 0 rfl) ?_
        refine lv_ldc (v := 1000000) hx hb S.2.2.2.1 (S.2.2.2.2 _ wm_1312) dX9_spell_99 ?_
        refine gi_as 1000000 (by decide) ?_
        obtain ⟨hg_35, hM⟩ := gd_some hM
        refine gi_icmp_ge (tgt := 191) hx hb dX9_spell_101 (by decide) hg_35 (by decide) (fun c_36 => ?_) (fun c_36 => ?_)
        · replace hM := ifp hM c_36
          cases hM
          exact hK_31 _ _ H locs ls hG (lv_sub hl [] rfl)
        · replace hM := ifn hM c_36
          refine lv_aload_n hx hb dX9_spell_104 rfl (lv_at hl 1 rfl) ?_
          refine m_get S hG.1 58 60 12 rfl ec_60 cpX9 wm_517 dX9_spell_105 rfl (Nat.lt_of_lt_of_le (Nat.le_of_ble_eq_true rfl) hG.2.2.2.1) (by decide) ?_
          obtain ⟨hg_37, hM⟩ := gd_some hM
          refine gi_if_le (tgt := 191) hx hb dX9_spell_108 (by decide) hg_37 (fun c_38 => ?_) (fun c_38 => ?_)
          · replace hM := ifp hM c_38
            cases hM
            exact hK_31 _ _ H locs ls hG (lv_sub hl [] rfl)
          · replace hM := ifn hM c_38
            refine lv_aload_n hx hb dX9_spell_111 rfl (lv_at hl 1 rfl) ?_
            refine lv_dup hx hb dX9_spell_112 rfl ?_
            refine m_get S hG.1 58 60 12 rfl ec_60 cpX9 wm_517 dX9_spell_113 rfl (Nat.lt_of_lt_of_le (Nat.le_of_ble_eq_true rfl) hG.2.2.2.1) (by decide) ?_
            refine lv_iconst (v := iI 1) hx hb dX9_spell_116 (by decide) ?_
            refine gi_sub hx hb dX9_spell_117 ?_
            refine n_put S hG 58 60 12 rfl 12 ((S_25 60 12) - 1) ec_60 cpX9 wm_517 dX9_spell_118 (pf_60_12) (by decide) (by decide) (Nat.le_of_ble_eq_true rfl) rfl rfl rfl (fun H locs S_39 eS_39 hG => ?_)
            replace hM := nx_at hM eS_39
            clear eS_39
            refine lv_aload_n hx hb dX9_spell_121 rfl (lv_at hl 1 rfl) ?_
            refine m_get S hG.1 58 60 11 rfl ec_60 cpX9 wm_516 dX9_spell_122 rfl (Nat.lt_of_lt_of_le (Nat.le_of_ble_eq_true rfl) hG.2.2.2.1) (by decide) ?_
            refine lv_aload_n hx hb dX9_spell_125 rfl (lv_at hl 1 rfl) ?_
            refine m_get S hG.1 58 60 12 rfl ec_60 cpX9 wm_517 dX9_spell_126 rfl (Nat.lt_of_lt_of_le (Nat.le_of_ble_eq_true rfl) hG.2.2.2.1) (by decide) ?_
            obtain ⟨hg_40, hM⟩ := gd_some hM
            refine mi_ald S hG.1 64 66 rfl ec_66 (Nat.lt_of_lt_of_le (Nat.le_of_ble_eq_true rfl) hG.2.2.2.1) dX9_spell_129 hg_40 (by decide) ?_
            refine gi_nm (fun x_41 ex_41 => ?_)
            replace hM := nx_at hM ex_41
            clear ex_41
            refine lv_istore (lv' := [(7, .int (iI x_41)), (6, .int (iI v_24)), (0, .ref (b + 58))]) hx hb dX9_spell_130 hl (by decide) rfl (fun ls hl => ?_)
            refine lv_iload hx hb dX9_spell_132 (lv_at hl 0 rfl) ?_
            obtain ⟨hg_42, hM⟩ := gd_some hM
            refine gi_if_ge (tgt := 157) hx hb dX9_spell_134 (by decide) hg_42 (fun c_43 => ?_) (fun c_43 => ?_)
            · replace hM := ifp hM c_43
              refine lv_aload_n hx hb dX9_spell_157 rfl (lv_at hl 2 rfl) ?_
              refine lv_iload hx hb dX9_spell_158 (lv_at hl 0 rfl) ?_
              refine lv_sipush (v := iI 1024) hx hb dX9_spell_160 (by decide) ?_
              obtain ⟨hg_44, hM⟩ := gd_some hM
              refine gi_div hx hb dX9_spell_163 hg_44 (by decide) ?_
              refine lv_bipush (v := iI 8) hx hb dX9_spell_164 (by decide) ?_
              obtain ⟨hg_45, hM⟩ := gd_some hM
              refine gi_div hx hb dX9_spell_166 hg_45 (by decide) ?_
              refine lv_iload hx hb dX9_spell_167 (lv_at hl 0 rfl) ?_
              refine lv_sipush (v := iI 1024) hx hb dX9_spell_169 (by decide) ?_
              refine gi_div hx hb dX9_spell_172 hg_44 (by decide) ?_
              refine lv_bipush (v := iI 8) hx hb dX9_spell_173 (by decide) ?_
              refine gi_rem hx hb dX9_spell_175 hg_45 (by decide) ?_
              refine lv_iload hx hb dX9_spell_176 (lv_at hl 0 rfl) ?_
              refine lv_sipush (v := iI 1024) hx hb dX9_spell_178 (by decide) ?_
              refine gi_rem hx hb dX9_spell_181 hg_44 (by decide) ?_
              obtain ⟨S_47, hc_46, hg_48, hg_49, hM⟩ := bdG1_some hM
              have hg_50 : gle S_47 o1 := ⟨Nat.le_trans hg_49.1 hub_30.1, Nat.le_trans hg_49.2 hub_30.2⟩
              refine g_vv (As := [.int (iI ((x_41 / 1024) / 8)), .int (iI ((x_41 / 1024) % 8)), .int (iI (x_41 % 1024))]) (rest := []) S hG.1 hG.2.1 (vX9_spellPart l hG.2.2.2.1 ((x_41 / 1024) / 8) ((x_41 / 1024) % 8) (x_41 % 1024) hc_46) wV_9_77 (ec_60 (b := b) (cy := cy) (X := XD b cy S_39) _) cpX9 (Nat.lt_of_lt_of_le (Nat.le_of_ble_eq_true rfl) hG.2.2.2.1) dX9_spell_182 rfl hl.1 (ar := 3) (by decide +kernel) rfl ⟨Nat.le_of_ble_eq_true rfl, Nat.le_of_ble_eq_true rfl, hG.gc hg_48 hg_50, hG.gs hg_48 hg_50⟩ (Nat.le_of_ble_eq_true rfl) (fun uu H locs hp hGc => ?_)
              obtain rfl := hp
              replace hG := hG.grow hg_48 hg_50 hGc
              clear hGc
              refine lv_iinc (v := iI (v_24 + 1)) (lv' := [(6, .int (iI (v_24 + 1))), (7, .int (iI x_41)), (0, .ref (b + 58))]) hx hb dX9_spell_185 hl (k := 1) rfl ((iI_add v_24 (1)).trans (congrArg iI (by omega))) (by decide) rfl (fun ls hl => ?_)
              refine lv_goto (tgt := 97) hx hb dX9_spell_188 (by decide) ?_
              exact ih_33 (v_24 + 1) S_47 _ _ H locs ls hM hG (lv_sub hl [0, 2] rfl)
            · replace hM := ifn hM c_43
              refine lv_aload_n hx hb dX9_spell_137 rfl (lv_at hl 2 rfl) ?_
              refine lv_dup hx hb dX9_spell_138 rfl ?_
              refine m_get S hG.1 58 60 10 rfl ec_60 cpX9 wm_515 dX9_spell_139 rfl (Nat.lt_of_lt_of_le (Nat.le_of_ble_eq_true rfl) hG.2.2.2.1) (by decide) ?_
              refine lv_iconst (v := iI 1) hx hb dX9_spell_142 (by decide) ?_
              refine gi_sub hx hb dX9_spell_143 ?_
              refine n_put S hG 58 60 10 rfl 10 ((S_39 60 10) - 1) ec_60 cpX9 wm_515 dX9_spell_144 (pf_60_10) (by decide) (by decide) (Nat.le_of_ble_eq_true rfl) rfl rfl rfl (fun H locs S_51 eS_51 hG => ?_)
              replace hM := nx_at hM eS_51
              clear eS_51
              refine lv_aload_n hx hb dX9_spell_147 rfl (lv_at hl 2 rfl) ?_
              refine lv_iload hx hb dX9_spell_148 (lv_at hl 0 rfl) ?_
              refine gi_neg hx hb dX9_spell_150 ?_
              obtain ⟨S_53, hc_52, hg_54, hg_55, hM⟩ := bdG1_some hM
              have hg_56 : gle S_53 o1 := ⟨Nat.le_trans hg_55.1 hub_30.1, Nat.le_trans hg_55.2 hub_30.2⟩
              refine g_vv (As := [.int (iI (-x_41))]) (rest := []) S hG.1 hG.2.1 (vX9_put l hG.2.2.2.1 (-x_41) hc_52) wV_9_73 (ec_60 (b := b) (cy := cy) (X := XD b cy S_51) _) cpX9 (Nat.lt_of_lt_of_le (Nat.le_of_ble_eq_true rfl) hG.2.2.2.1) dX9_spell_151 rfl hl.1 (ar := 1) (by decide +kernel) rfl ⟨Nat.le_of_ble_eq_true rfl, Nat.le_of_ble_eq_true rfl, hG.gc hg_54 hg_56, hG.gs hg_54 hg_56⟩ (Nat.le_of_ble_eq_true rfl) (fun uu H locs hp hGc => ?_)
              obtain rfl := hp
              replace hG := hG.grow hg_54 hg_56 hGc
              clear hGc
              refine lv_goto (tgt := 185) hx hb dX9_spell_154 (by decide) ?_
              refine lv_iinc (v := iI (v_24 + 1)) (lv' := [(6, .int (iI (v_24 + 1))), (7, .int (iI x_41)), (0, .ref (b + 58))]) hx hb dX9_spell_185 hl (k := 1) rfl ((iI_add v_24 (1)).trans (congrArg iI (by omega))) (by decide) rfl (fun ls hl => ?_)
              refine lv_goto (tgt := 97) hx hb dX9_spell_188 (by decide) ?_
              exact ih_33 (v_24 + 1) S_53 _ _ H locs ls hM hG (lv_sub hl [0, 2] rfl)
    exact loop_32 FU 0 S_23 _ _ H locs ls hc_27 hG (lv_sub hl [0, 2] rfl)
  clear hM
  replace hM := hc_3
  obtain ⟨hg_57, hM⟩ := gd_some hM
  refine gi_icmp_ne (tgt := 33) hx hb dX9_spell_20 (by decide) hg_57.1 hg_57.2 (fun c_58 => ?_) (fun c_58 => ?_)
  · replace hM := ifn hM c_58
    cases hM
    exact hK_5 _ _ H locs ls rfl hG (lv_sub hl [0, 1, 2, 3, 4, 5] rfl)
  · replace hM := ifp hM c_58
    refine lv_iload hx hb dX9_spell_23 (lv_at hl 0 rfl) ?_
    refine lv_aload_n hx hb dX9_spell_25 rfl (lv_at hl 1 rfl) ?_
    refine m_get S hG.1 58 60 14 rfl ec_60 cpX9 wm_519 dX9_spell_26 rfl (Nat.lt_of_lt_of_le (Nat.le_of_ble_eq_true rfl) hG.2.2.2.1) (by decide) ?_
    obtain ⟨hg_59, hM⟩ := gd_some hM
    refine gi_icmp_ne (tgt := 33) hx hb dX9_spell_29 (by decide) hg_59.1 hg_59.2 (fun c_60 => ?_) (fun c_60 => ?_)
    · replace hM := ifn hM c_60
      cases hM
      exact hK_5 _ _ H locs ls rfl hG (lv_sub hl [0, 1, 2, 3, 4, 5] rfl)
    · replace hM := ifp hM c_60
      cases hM
      exact hK_4 _ _ H locs ls rfl hG (lv_sub hl [] rfl)
