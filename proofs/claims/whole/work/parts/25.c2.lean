theorem dX11_settle_0 : decode cX11_settle 0 = .ok (.aload_n 0, 1) := by decide +kernel
theorem dX11_settle_1 : decode cX11_settle 1 = .ok (.dup, 1) := by decide +kernel
theorem dX11_settle_2 : decode cX11_settle 2 = .ok (.getfield 111, 3) := by decide +kernel
theorem dX11_settle_5 : decode cX11_settle 5 = .ok (.iconst 1, 1) := by decide +kernel
theorem dX11_settle_6 : decode cX11_settle 6 = .ok (.iadd, 1) := by decide +kernel
theorem dX11_settle_7 : decode cX11_settle 7 = .ok (.putfield 111, 3) := by decide +kernel
theorem dX11_settle_10 : decode cX11_settle 10 = .ok (.aload_n 0, 1) := by decide +kernel
theorem dX11_settle_11 : decode cX11_settle 11 = .ok (.getfield 97, 3) := by decide +kernel
theorem dX11_settle_14 : decode cX11_settle 14 = .ok (.invokevirtual 143, 3) := by decide +kernel
theorem wm_977 : (Jvm.Cond.methodLink "GrownKinds" (143 : Nat) ({ cls := "GrownKinds$Dealer", name := "stop", desc := "()V" } : Jvm.MethodName)) ∈ gT := gT_in (List.mem_of_getElem? (i := 977) (by decide +kernel)) (by decide +kernel)
theorem wm_978 : (Jvm.Cond.instanceMethod ({ cls := "GrownKinds$Dealer", name := "stop", desc := "()V" } : Jvm.MethodName)) ∈ gT := gT_in (List.mem_of_getElem? (i := 978) (by decide +kernel)) (by decide +kernel)
theorem wm_979 : (Jvm.Cond.selects "GrownKinds$Dealer" ({ cls := "GrownKinds$Dealer", name := "stop", desc := "()V" } : Jvm.MethodName) ({ cls := "GrownKinds$Dealer", name := "stop", desc := "()V" } : Jvm.MethodName)) ∈ gT := gT_in (List.mem_of_getElem? (i := 979) (by decide +kernel)) (by decide +kernel)
theorem wm_980 : (Jvm.Cond.code ({ cls := "GrownKinds$Dealer", name := "stop", desc := "()V" } : Jvm.MethodName) prog_3_method_4_code (1 : Nat) (Option.none : Option Jvm.ClassFile.FieldType)) ∈ gT := gT_in (List.mem_of_getElem? (i := 980) (by decide +kernel)) (by decide +kernel)
theorem dX1_stop_0 : decode cX1_stop 0 = .ok (.aload_n 0, 1) := by decide +kernel
theorem dX1_stop_1 : decode cX1_stop 1 = .ok (.iconst 0, 1) := by decide +kernel
theorem dX1_stop_2 : decode cX1_stop 2 = .ok (.putfield 9, 3) := by decide +kernel
theorem dX1_stop_5 : decode cX1_stop 5 = .ok (.return_, 1) := by decide +kernel
theorem dX11_settle_17 : decode cX11_settle 17 = .ok (.aload_n 0, 1) := by decide +kernel
theorem dX11_settle_18 : decode cX11_settle 18 = .ok (.getfield 42, 3) := by decide +kernel
theorem dX11_settle_21 : decode cX11_settle 21 = .ok (.invokevirtual 146, 3) := by decide +kernel
theorem wm_981 : (Jvm.Cond.methodLink "GrownKinds" (146 : Nat) ({ cls := "GrownKinds$Leaning", name := "study", desc := "()V" } : Jvm.MethodName)) ∈ gT := gT_in (List.mem_of_getElem? (i := 981) (by decide +kernel)) (by decide +kernel)
theorem dX11_settle_24 : decode cX11_settle 24 = .ok (.aload_n 0, 1) := by decide +kernel
theorem dX11_settle_25 : decode cX11_settle 25 = .ok (.getfield 51, 3) := by decide +kernel
theorem dX11_settle_28 : decode cX11_settle 28 = .ok (.iconst (-1), 1) := by decide +kernel
theorem dX11_settle_29 : decode cX11_settle 29 = .ok (.invokevirtual 149, 3) := by decide +kernel
theorem wm_982 : (Jvm.Cond.methodLink "GrownKinds" (149 : Nat) ({ cls := "GrownKinds$Census", name := "take", desc := "(I)V" } : Jvm.MethodName)) ∈ gT := gT_in (List.mem_of_getElem? (i := 982) (by decide +kernel)) (by decide +kernel)
theorem wm_983 : (Jvm.Cond.instanceMethod ({ cls := "GrownKinds$Census", name := "take", desc := "(I)V" } : Jvm.MethodName)) ∈ gT := gT_in (List.mem_of_getElem? (i := 983) (by decide +kernel)) (by decide +kernel)
theorem wm_984 : (Jvm.Cond.selects "GrownKinds$Census" ({ cls := "GrownKinds$Census", name := "take", desc := "(I)V" } : Jvm.MethodName) ({ cls := "GrownKinds$Census", name := "take", desc := "(I)V" } : Jvm.MethodName)) ∈ gT := gT_in (List.mem_of_getElem? (i := 984) (by decide +kernel)) (by decide +kernel)
theorem wm_985 : (Jvm.Cond.code ({ cls := "GrownKinds$Census", name := "take", desc := "(I)V" } : Jvm.MethodName) prog_2_method_2_code (6 : Nat) (Option.none : Option Jvm.ClassFile.FieldType)) ∈ gT := gT_in (List.mem_of_getElem? (i := 985) (by decide +kernel)) (by decide +kernel)
theorem dX0_take_0 : decode cX0_take 0 = .ok (.aload_n 0, 1) := by decide +kernel
theorem dX0_take_1 : decode cX0_take 1 = .ok (.iload_n 1, 1) := by decide +kernel
theorem dX0_take_2 : decode cX0_take 2 = .ok (.putfield 9, 3) := by decide +kernel
theorem dX0_take_5 : decode cX0_take 5 = .ok (.iconst 0, 1) := by decide +kernel
theorem dX0_take_6 : decode cX0_take 6 = .ok (.istore_n 2, 1) := by decide +kernel
theorem dX0_take_7 : decode cX0_take 7 = .ok (.iload_n 2, 1) := by decide +kernel
theorem dX0_take_8 : decode cX0_take 8 = .ok (.aload_n 0, 1) := by decide +kernel
theorem dX0_take_9 : decode cX0_take 9 = .ok (.getfield 31, 3) := by decide +kernel
theorem dX0_take_12 : decode cX0_take 12 = .ok (.getfield 38, 3) := by decide +kernel
theorem wm_228 : (Jvm.Cond.fieldLink "GrownKinds$Census" (38 : Nat) "GrownKinds$Grammar" "parts" "I") ∈ gT := gT_in (List.mem_of_getElem? (i := 228) (by decide +kernel)) (by decide +kernel)
theorem dX0_take_15 : decode cX0_take 15 = .ok (.if_icmp .ge 29, 3) := by decide +kernel
theorem dX0_take_18 : decode cX0_take 18 = .ok (.aload_n 0, 1) := by decide +kernel
theorem dX0_take_19 : decode cX0_take 19 = .ok (.getfield 15, 3) := by decide +kernel
theorem dX0_take_22 : decode cX0_take 22 = .ok (.iload_n 2, 1) := by decide +kernel
theorem dX0_take_23 : decode cX0_take 23 = .ok (.bipush 64, 2) := by decide +kernel
theorem dX0_take_25 : decode cX0_take 25 = .ok (.imul, 1) := by decide +kernel
theorem dX0_take_26 : decode cX0_take 26 = .ok (.lconst 0, 1) := by decide +kernel
theorem dX0_take_27 : decode cX0_take 27 = .ok (.lastore, 1) := by decide +kernel
theorem dX0_take_28 : decode cX0_take 28 = .ok (.aload_n 0, 1) := by decide +kernel
theorem dX0_take_29 : decode cX0_take 29 = .ok (.getfield 19, 3) := by decide +kernel
theorem dX0_take_32 : decode cX0_take 32 = .ok (.iload_n 2, 1) := by decide +kernel
theorem dX0_take_33 : decode cX0_take 33 = .ok (.bipush 64, 2) := by decide +kernel
theorem dX0_take_35 : decode cX0_take 35 = .ok (.imul, 1) := by decide +kernel
theorem dX0_take_36 : decode cX0_take 36 = .ok (.lconst 0, 1) := by decide +kernel
theorem dX0_take_37 : decode cX0_take 37 = .ok (.lastore, 1) := by decide +kernel
theorem dX0_take_38 : decode cX0_take 38 = .ok (.iinc 2 1, 3) := by decide +kernel
theorem dX0_take_41 : decode cX0_take 41 = .ok (.goto (-34), 3) := by decide +kernel
theorem dX0_take_44 : decode cX0_take 44 = .ok (.iconst 0, 1) := by decide +kernel
theorem dX0_take_45 : decode cX0_take 45 = .ok (.istore_n 2, 1) := by decide +kernel
theorem dX0_take_46 : decode cX0_take 46 = .ok (.iload_n 2, 1) := by decide +kernel
theorem dX0_take_47 : decode cX0_take 47 = .ok (.aload_n 0, 1) := by decide +kernel
theorem dX0_take_48 : decode cX0_take 48 = .ok (.getfield 31, 3) := by decide +kernel
theorem dX0_take_51 : decode cX0_take 51 = .ok (.getfield 43, 3) := by decide +kernel
theorem wm_213 : (Jvm.Cond.fieldLink "GrownKinds$Census" (43 : Nat) "GrownKinds$Grammar" "most" "I") ∈ gT := gT_in (List.mem_of_getElem? (i := 213) (by decide +kernel)) (by decide +kernel)
theorem dX0_take_54 : decode cX0_take 54 = .ok (.if_icmp .gt 107, 3) := by decide +kernel
theorem dX0_take_57 : decode cX0_take 57 = .ok (.iconst 0, 1) := by decide +kernel
theorem dX0_take_58 : decode cX0_take 58 = .ok (.istore_n 3, 1) := by decide +kernel
theorem dX0_take_59 : decode cX0_take 59 = .ok (.iload_n 3, 1) := by decide +kernel
theorem dX0_take_60 : decode cX0_take 60 = .ok (.aload_n 0, 1) := by decide +kernel
theorem dX0_take_61 : decode cX0_take 61 = .ok (.getfield 31, 3) := by decide +kernel
theorem dX0_take_64 : decode cX0_take 64 = .ok (.getfield 46, 3) := by decide +kernel
theorem wm_232 : (Jvm.Cond.fieldLink "GrownKinds$Census" (46 : Nat) "GrownKinds$Grammar" "steps" "I") ∈ gT := gT_in (List.mem_of_getElem? (i := 232) (by decide +kernel)) (by decide +kernel)
theorem dX0_take_67 : decode cX0_take 67 = .ok (.if_icmp .ge 88, 3) := by decide +kernel
theorem dX0_take_70 : decode cX0_take 70 = .ok (.aload_n 0, 1) := by decide +kernel
theorem dX0_take_71 : decode cX0_take 71 = .ok (.getfield 31, 3) := by decide +kernel
theorem dX0_take_74 : decode cX0_take 74 = .ok (.getfield 49, 3) := by decide +kernel
theorem wm_274 : (Jvm.Cond.fieldLink "GrownKinds$Census" (49 : Nat) "GrownKinds$Grammar" "order" "[I") ∈ gT := gT_in (List.mem_of_getElem? (i := 274) (by decide +kernel)) (by decide +kernel)
theorem dX0_take_77 : decode cX0_take 77 = .ok (.iload_n 3, 1) := by decide +kernel
theorem dX0_take_78 : decode cX0_take 78 = .ok (.iaload, 1) := by decide +kernel
theorem dX0_take_79 : decode cX0_take 79 = .ok (.istore 4, 2) := by decide +kernel
theorem dX0_take_81 : decode cX0_take 81 = .ok (.iload 4, 2) := by decide +kernel
theorem dX0_take_83 : decode cX0_take 83 = .ok (.bipush 6, 2) := by decide +kernel
theorem dX0_take_85 : decode cX0_take 85 = .ok (.isub, 1) := by decide +kernel
theorem dX0_take_86 : decode cX0_take 86 = .ok (.iconst 2, 1) := by decide +kernel
theorem dX0_take_87 : decode cX0_take 87 = .ok (.idiv, 1) := by decide +kernel
theorem dX0_take_88 : decode cX0_take 88 = .ok (.istore 5, 2) := by decide +kernel
theorem dX0_take_90 : decode cX0_take 90 = .ok (.iload 4, 2) := by decide +kernel
theorem dX0_take_92 : decode cX0_take 92 = .ok (.bipush 6, 2) := by decide +kernel
theorem dX0_take_94 : decode cX0_take 94 = .ok (.if_icmp .ge 27, 3) := by decide +kernel
theorem dX0_take_121 : decode cX0_take 121 = .ok (.iload 4, 2) := by decide +kernel
theorem dX0_take_123 : decode cX0_take 123 = .ok (.bipush 6, 2) := by decide +kernel
theorem dX0_take_125 : decode cX0_take 125 = .ok (.isub, 1) := by decide +kernel
theorem dX0_take_126 : decode cX0_take 126 = .ok (.iconst 2, 1) := by decide +kernel
theorem dX0_take_127 : decode cX0_take 127 = .ok (.irem, 1) := by decide +kernel
theorem dX0_take_128 : decode cX0_take 128 = .ok (.iconst 1, 1) := by decide +kernel
theorem dX0_take_129 : decode cX0_take 129 = .ok (.if_icmp .ne 13, 3) := by decide +kernel
theorem dX0_take_142 : decode cX0_take 142 = .ok (.aload_n 0, 1) := by decide +kernel
theorem dX0_take_143 : decode cX0_take 143 = .ok (.iload 5, 2) := by decide +kernel
theorem dX0_take_145 : decode cX0_take 145 = .ok (.iload_n 2, 1) := by decide +kernel
theorem dX0_take_146 : decode cX0_take 146 = .ok (.invokevirtual 61, 3) := by decide +kernel
theorem wm_1077 : (Jvm.Cond.methodLink "GrownKinds$Census" (61 : Nat) ({ cls := "GrownKinds$Census", name := "countTail", desc := "(II)V" } : Jvm.MethodName)) ∈ gT := gT_in (List.mem_of_getElem? (i := 1077) (by decide +kernel)) (by decide +kernel)
theorem wm_1079 : (Jvm.Cond.instanceMethod ({ cls := "GrownKinds$Census", name := "countTail", desc := "(II)V" } : Jvm.MethodName)) ∈ gT := gT_in (List.mem_of_getElem? (i := 1079) (by decide +kernel)) (by decide +kernel)
theorem wm_47 : Cond.selects "GrownKinds$Census" ⟨"GrownKinds$Census", "countTail", "(II)V"⟩ ⟨"GrownKinds$Census", "countTail", "(II)V"⟩ ∈ gT := gT_in (List.mem_of_getElem? (i := 47) (by decide +kernel)) (by decide +kernel)
theorem wm_1080 : (Jvm.Cond.code ({ cls := "GrownKinds$Census", name := "countTail", desc := "(II)V" } : Jvm.MethodName) prog_2_method_19_code (12 : Nat) (Option.none : Option Jvm.ClassFile.FieldType)) ∈ gT := gT_in (List.mem_of_getElem? (i := 1080) (by decide +kernel)) (by decide +kernel)
theorem dX0_countTail_0 : decode cX0_countTail 0 = .ok (.iload_n 1, 1) := by decide +kernel
theorem dX0_countTail_1 : decode cX0_countTail 1 = .ok (.bipush 64, 2) := by decide +kernel
theorem dX0_countTail_3 : decode cX0_countTail 3 = .ok (.imul, 1) := by decide +kernel
theorem dX0_countTail_4 : decode cX0_countTail 4 = .ok (.iload_n 2, 1) := by decide +kernel
theorem dX0_countTail_5 : decode cX0_countTail 5 = .ok (.bipush 8, 2) := by decide +kernel
theorem dX0_countTail_7 : decode cX0_countTail 7 = .ok (.imul, 1) := by decide +kernel
theorem dX0_countTail_8 : decode cX0_countTail 8 = .ok (.iadd, 1) := by decide +kernel
theorem dX0_countTail_9 : decode cX0_countTail 9 = .ok (.istore_n 3, 1) := by decide +kernel
theorem dX0_countTail_10 : decode cX0_countTail 10 = .ok (.aload_n 0, 1) := by decide +kernel
theorem dX0_countTail_11 : decode cX0_countTail 11 = .ok (.getfield 31, 3) := by decide +kernel
theorem dX0_countTail_14 : decode cX0_countTail 14 = .ok (.getfield 136, 3) := by decide +kernel
theorem wm_259 : (Jvm.Cond.fieldLink "GrownKinds$Census" (136 : Nat) "GrownKinds$Grammar" "next" "[I") ∈ gT := gT_in (List.mem_of_getElem? (i := 259) (by decide +kernel)) (by decide +kernel)
theorem dX0_countTail_17 : decode cX0_countTail 17 = .ok (.iload_n 1, 1) := by decide +kernel
theorem dX0_countTail_18 : decode cX0_countTail 18 = .ok (.iaload, 1) := by decide +kernel
theorem dX0_countTail_19 : decode cX0_countTail 19 = .ok (.istore 4, 2) := by decide +kernel
theorem dX0_countTail_21 : decode cX0_countTail 21 = .ok (.iload 4, 2) := by decide +kernel
theorem dX0_countTail_23 : decode cX0_countTail 23 = .ok (.iconst (-1), 1) := by decide +kernel
theorem dX0_countTail_24 : decode cX0_countTail 24 = .ok (.if_icmp .ne 19, 3) := by decide +kernel
theorem dX0_countTail_43 : decode cX0_countTail 43 = .ok (.aload_n 0, 1) := by decide +kernel
theorem dX0_countTail_44 : decode cX0_countTail 44 = .ok (.aload_n 0, 1) := by decide +kernel
theorem dX0_countTail_45 : decode cX0_countTail 45 = .ok (.getfield 19, 3) := by decide +kernel
theorem dX0_countTail_48 : decode cX0_countTail 48 = .ok (.iload_n 3, 1) := by decide +kernel
theorem dX0_countTail_49 : decode cX0_countTail 49 = .ok (.iload_n 2, 1) := by decide +kernel
theorem dX0_countTail_50 : decode cX0_countTail 50 = .ok (.invokevirtual 129, 3) := by decide +kernel
theorem wm_1016 : (Jvm.Cond.methodLink "GrownKinds$Census" (129 : Nat) ({ cls := "GrownKinds$Census", name := "clearCells", desc := "([JII)V" } : Jvm.MethodName)) ∈ gT := gT_in (List.mem_of_getElem? (i := 1016) (by decide +kernel)) (by decide +kernel)
theorem wm_1018 : (Jvm.Cond.instanceMethod ({ cls := "GrownKinds$Census", name := "clearCells", desc := "([JII)V" } : Jvm.MethodName)) ∈ gT := gT_in (List.mem_of_getElem? (i := 1018) (by decide +kernel)) (by decide +kernel)
theorem wm_35 : Cond.selects "GrownKinds$Census" ⟨"GrownKinds$Census", "clearCells", "([JII)V"⟩ ⟨"GrownKinds$Census", "clearCells", "([JII)V"⟩ ∈ gT := gT_in (List.mem_of_getElem? (i := 35) (by decide +kernel)) (by decide +kernel)
theorem wm_1019 : (Jvm.Cond.code ({ cls := "GrownKinds$Census", name := "clearCells", desc := "([JII)V" } : Jvm.MethodName) prog_2_method_16_code (5 : Nat) (Option.none : Option Jvm.ClassFile.FieldType)) ∈ gT := gT_in (List.mem_of_getElem? (i := 1019) (by decide +kernel)) (by decide +kernel)
theorem dX0_clearCells_0 : decode cX0_clearCells 0 = .ok (.iconst 0, 1) := by decide +kernel
theorem dX0_clearCells_1 : decode cX0_clearCells 1 = .ok (.istore 4, 2) := by decide +kernel
theorem dX0_clearCells_3 : decode cX0_clearCells 3 = .ok (.iload 4, 2) := by decide +kernel
theorem dX0_clearCells_5 : decode cX0_clearCells 5 = .ok (.aload_n 0, 1) := by decide +kernel
theorem dX0_clearCells_6 : decode cX0_clearCells 6 = .ok (.iload_n 3, 1) := by decide +kernel
theorem dX0_clearCells_7 : decode cX0_clearCells 7 = .ok (.invokevirtual 108, 3) := by decide +kernel
theorem wm_990 : (Jvm.Cond.methodLink "GrownKinds$Census" (108 : Nat) ({ cls := "GrownKinds$Census", name := "letterTop", desc := "(I)I" } : Jvm.MethodName)) ∈ gT := gT_in (List.mem_of_getElem? (i := 990) (by decide +kernel)) (by decide +kernel)
theorem wm_992 : (Jvm.Cond.instanceMethod ({ cls := "GrownKinds$Census", name := "letterTop", desc := "(I)I" } : Jvm.MethodName)) ∈ gT := gT_in (List.mem_of_getElem? (i := 992) (by decide +kernel)) (by decide +kernel)
theorem wm_31 : Cond.selects "GrownKinds$Census" ⟨"GrownKinds$Census", "letterTop", "(I)I"⟩ ⟨"GrownKinds$Census", "letterTop", "(I)I"⟩ ∈ gT := gT_in (List.mem_of_getElem? (i := 31) (by decide +kernel)) (by decide +kernel)
theorem wm_993 : (Jvm.Cond.code ({ cls := "GrownKinds$Census", name := "letterTop", desc := "(I)I" } : Jvm.MethodName) prog_2_method_13_code (2 : Nat) (Option.some Jvm.ClassFile.FieldType.int)) ∈ gT := gT_in (List.mem_of_getElem? (i := 993) (by decide +kernel)) (by decide +kernel)
theorem dX0_letterTop_0 : decode cX0_letterTop 0 = .ok (.aload_n 0, 1) := by decide +kernel
theorem dX0_letterTop_1 : decode cX0_letterTop 1 = .ok (.getfield 9, 3) := by decide +kernel
theorem dX0_letterTop_4 : decode cX0_letterTop 4 = .ok (.ifCond .lt 7, 3) := by decide +kernel
theorem dX0_letterTop_11 : decode cX0_letterTop 11 = .ok (.iconst 0, 1) := by decide +kernel
theorem dX0_letterTop_12 : decode cX0_letterTop 12 = .ok (.ireturn, 1) := by decide +kernel
theorem dX0_letterTop_7 : decode cX0_letterTop 7 = .ok (.iload_n 1, 1) := by decide +kernel
theorem dX0_letterTop_8 : decode cX0_letterTop 8 = .ok (.goto 4, 3) := by decide +kernel
theorem dX0_clearCells_10 : decode cX0_clearCells 10 = .ok (.if_icmp .gt 16, 3) := by decide +kernel
theorem dX0_clearCells_13 : decode cX0_clearCells 13 = .ok (.aload_n 1, 1) := by decide +kernel
theorem dX0_clearCells_14 : decode cX0_clearCells 14 = .ok (.iload_n 2, 1) := by decide +kernel
theorem dX0_clearCells_15 : decode cX0_clearCells 15 = .ok (.iload 4, 2) := by decide +kernel
theorem dX0_clearCells_17 : decode cX0_clearCells 17 = .ok (.iadd, 1) := by decide +kernel
theorem dX0_clearCells_18 : decode cX0_clearCells 18 = .ok (.lconst 0, 1) := by decide +kernel
theorem dX0_clearCells_19 : decode cX0_clearCells 19 = .ok (.lastore, 1) := by decide +kernel
theorem dX0_clearCells_20 : decode cX0_clearCells 20 = .ok (.iinc 4 1, 3) := by decide +kernel
theorem dX0_clearCells_23 : decode cX0_clearCells 23 = .ok (.goto (-20), 3) := by decide +kernel
theorem dX0_clearCells_26 : decode cX0_clearCells 26 = .ok (.return_, 1) := by decide +kernel
theorem dX0_countTail_53 : decode cX0_countTail 53 = .ok (.iconst 0, 1) := by decide +kernel
theorem dX0_countTail_54 : decode cX0_countTail 54 = .ok (.istore 5, 2) := by decide +kernel
theorem dX0_countTail_56 : decode cX0_countTail 56 = .ok (.iload 5, 2) := by decide +kernel
theorem dX0_countTail_58 : decode cX0_countTail 58 = .ok (.iload_n 2, 1) := by decide +kernel
theorem dX0_countTail_59 : decode cX0_countTail 59 = .ok (.if_icmp .gt 145, 3) := by decide +kernel
theorem dX0_countTail_62 : decode cX0_countTail 62 = .ok (.iconst 0, 1) := by decide +kernel
theorem dX0_countTail_63 : decode cX0_countTail 63 = .ok (.istore 6, 2) := by decide +kernel
theorem dX0_countTail_65 : decode cX0_countTail 65 = .ok (.iload 6, 2) := by decide +kernel
theorem dX0_countTail_67 : decode cX0_countTail 67 = .ok (.aload_n 0, 1) := by decide +kernel
theorem dX0_countTail_68 : decode cX0_countTail 68 = .ok (.iload 5, 2) := by decide +kernel
theorem dX0_countTail_70 : decode cX0_countTail 70 = .ok (.invokevirtual 108, 3) := by decide +kernel
theorem dX0_countTail_73 : decode cX0_countTail 73 = .ok (.if_icmp .gt 125, 3) := by decide +kernel
theorem dX0_countTail_76 : decode cX0_countTail 76 = .ok (.aload_n 0, 1) := by decide +kernel
theorem dX0_countTail_77 : decode cX0_countTail 77 = .ok (.getfield 15, 3) := by decide +kernel
theorem dX0_countTail_80 : decode cX0_countTail 80 = .ok (.iload_n 1, 1) := by decide +kernel
theorem dX0_countTail_81 : decode cX0_countTail 81 = .ok (.bipush 64, 2) := by decide +kernel
theorem dX0_countTail_83 : decode cX0_countTail 83 = .ok (.imul, 1) := by decide +kernel
theorem dX0_countTail_84 : decode cX0_countTail 84 = .ok (.iload 5, 2) := by decide +kernel
theorem dX0_countTail_86 : decode cX0_countTail 86 = .ok (.bipush 8, 2) := by decide +kernel
theorem dX0_countTail_88 : decode cX0_countTail 88 = .ok (.imul, 1) := by decide +kernel
theorem dX0_countTail_89 : decode cX0_countTail 89 = .ok (.iadd, 1) := by decide +kernel
theorem dX0_countTail_90 : decode cX0_countTail 90 = .ok (.iload 6, 2) := by decide +kernel
theorem dX0_countTail_92 : decode cX0_countTail 92 = .ok (.iadd, 1) := by decide +kernel
theorem dX0_countTail_93 : decode cX0_countTail 93 = .ok (.laload, 1) := by decide +kernel
theorem dX0_countTail_94 : decode cX0_countTail 94 = .ok (.aload_n 0, 1) := by decide +kernel
theorem dX0_countTail_95 : decode cX0_countTail 95 = .ok (.iload_n 2, 1) := by decide +kernel
theorem dX0_countTail_96 : decode cX0_countTail 96 = .ok (.iload 5, 2) := by decide +kernel
theorem dX0_countTail_98 : decode cX0_countTail 98 = .ok (.invokevirtual 139, 3) := by decide +kernel
theorem wm_1059 : (Jvm.Cond.methodLink "GrownKinds$Census" (139 : Nat) ({ cls := "GrownKinds$Census", name := "weight", desc := "(II)J" } : Jvm.MethodName)) ∈ gT := gT_in (List.mem_of_getElem? (i := 1059) (by decide +kernel)) (by decide +kernel)
theorem wm_1061 : (Jvm.Cond.instanceMethod ({ cls := "GrownKinds$Census", name := "weight", desc := "(II)J" } : Jvm.MethodName)) ∈ gT := gT_in (List.mem_of_getElem? (i := 1061) (by decide +kernel)) (by decide +kernel)
theorem wm_44 : Cond.selects "GrownKinds$Census" ⟨"GrownKinds$Census", "weight", "(II)J"⟩ ⟨"GrownKinds$Census", "weight", "(II)J"⟩ ∈ gT := gT_in (List.mem_of_getElem? (i := 44) (by decide +kernel)) (by decide +kernel)
theorem wm_1062 : (Jvm.Cond.code ({ cls := "GrownKinds$Census", name := "weight", desc := "(II)J" } : Jvm.MethodName) prog_2_method_18_code (3 : Nat) (Option.some Jvm.ClassFile.FieldType.long)) ∈ gT := gT_in (List.mem_of_getElem? (i := 1062) (by decide +kernel)) (by decide +kernel)
theorem dX0_weight_0 : decode cX0_weight 0 = .ok (.aload_n 0, 1) := by decide +kernel
theorem dX0_weight_1 : decode cX0_weight 1 = .ok (.getfield 9, 3) := by decide +kernel
theorem dX0_weight_4 : decode cX0_weight 4 = .ok (.bipush (-2), 2) := by decide +kernel
theorem dX0_weight_6 : decode cX0_weight 6 = .ok (.if_icmp .ne 17, 3) := by decide +kernel
theorem dX0_weight_23 : decode cX0_weight 23 = .ok (.lconst 1, 1) := by decide +kernel
theorem dX0_weight_24 : decode cX0_weight 24 = .ok (.lreturn, 1) := by decide +kernel
theorem dX0_weight_9 : decode cX0_weight 9 = .ok (.getstatic 133, 3) := by decide +kernel
theorem dX0_weight_12 : decode cX0_weight 12 = .ok (.iload_n 1, 1) := by decide +kernel
theorem dX0_weight_13 : decode cX0_weight 13 = .ok (.bipush 8, 2) := by decide +kernel
theorem dX0_weight_15 : decode cX0_weight 15 = .ok (.imul, 1) := by decide +kernel
theorem dX0_weight_16 : decode cX0_weight 16 = .ok (.iload_n 2, 1) := by decide +kernel
theorem dX0_weight_17 : decode cX0_weight 17 = .ok (.iadd, 1) := by decide +kernel
theorem dX0_weight_18 : decode cX0_weight 18 = .ok (.iaload, 1) := by decide +kernel
theorem dX0_weight_19 : decode cX0_weight 19 = .ok (.i2l, 1) := by decide +kernel
theorem dX0_weight_20 : decode cX0_weight 20 = .ok (.goto 4, 3) := by decide +kernel
theorem dX0_countTail_101 : decode cX0_countTail 101 = .ok (.invokestatic 142, 3) := by decide +kernel
theorem wm_1053 : (Jvm.Cond.static ({ cls := "GrownKinds", name := "times", desc := "(JJ)J" } : Jvm.MethodName)) ∈ gT := gT_in (List.mem_of_getElem? (i := 1053) (by decide +kernel)) (by decide +kernel)
theorem wm_177 : (Jvm.Cond.initialized "GrownKinds") ∈ gT := gT_in (List.mem_of_getElem? (i := 177) (by decide +kernel)) (by decide +kernel)
theorem wm_1054 : (Jvm.Cond.code ({ cls := "GrownKinds", name := "times", desc := "(JJ)J" } : Jvm.MethodName) prog_1_method_63_code (4 : Nat) (Option.some Jvm.ClassFile.FieldType.long)) ∈ gT := gT_in (List.mem_of_getElem? (i := 1054) (by decide +kernel)) (by decide +kernel)
theorem dX11_times_0 : decode cX11_times 0 = .ok (.lload_n 0, 1) := by decide +kernel
theorem dX11_times_1 : decode cX11_times 1 = .ok (.lconst 0, 1) := by decide +kernel
theorem dX11_times_2 : decode cX11_times 2 = .ok (.lcmp, 1) := by decide +kernel
theorem dX11_times_3 : decode cX11_times 3 = .ok (.ifCond .le 9, 3) := by decide +kernel
theorem dX11_times_12 : decode cX11_times 12 = .ok (.lconst 0, 1) := by decide +kernel
theorem dX11_times_13 : decode cX11_times 13 = .ok (.lreturn, 1) := by decide +kernel
theorem dX11_times_6 : decode cX11_times 6 = .ok (.lload_n 2, 1) := by decide +kernel
theorem dX11_times_7 : decode cX11_times 7 = .ok (.lconst 0, 1) := by decide +kernel
theorem dX11_times_8 : decode cX11_times 8 = .ok (.lcmp, 1) := by decide +kernel
theorem dX11_times_9 : decode cX11_times 9 = .ok (.ifCond .gt 5, 3) := by decide +kernel
theorem dX11_times_14 : decode cX11_times 14 = .ok (.lload_n 0, 1) := by decide +kernel
theorem dX11_times_15 : decode cX11_times 15 = .ok (.ldc2_w 378, 3) := by decide +kernel
theorem wm_999 : (Jvm.Cond.constantLong "GrownKinds" (378 : Nat) (1000000000000000000 : Int64)) ∈ gT := gT_in (List.mem_of_getElem? (i := 999) (by decide +kernel)) (by decide +kernel)
theorem dX11_times_18 : decode cX11_times 18 = .ok (.lload_n 2, 1) := by decide +kernel
theorem dX11_times_19 : decode cX11_times 19 = .ok (.ldiv, 1) := by decide +kernel
theorem dX11_times_20 : decode cX11_times 20 = .ok (.lcmp, 1) := by decide +kernel
theorem dX11_times_21 : decode cX11_times 21 = .ok (.ifCond .le 9, 3) := by decide +kernel
theorem dX11_times_30 : decode cX11_times 30 = .ok (.lload_n 0, 1) := by decide +kernel
theorem dX11_times_31 : decode cX11_times 31 = .ok (.lload_n 2, 1) := by decide +kernel
theorem dX11_times_32 : decode cX11_times 32 = .ok (.lmul, 1) := by decide +kernel
theorem dX11_times_33 : decode cX11_times 33 = .ok (.lreturn, 1) := by decide +kernel
theorem dX11_times_24 : decode cX11_times 24 = .ok (.ldc2_w 378, 3) := by decide +kernel
theorem dX11_times_27 : decode cX11_times 27 = .ok (.goto 6, 3) := by decide +kernel
theorem dX0_countTail_104 : decode cX0_countTail 104 = .ok (.lstore 7, 2) := by decide +kernel
theorem dX0_countTail_106 : decode cX0_countTail 106 = .ok (.iconst 0, 1) := by decide +kernel
theorem dX0_countTail_107 : decode cX0_countTail 107 = .ok (.istore 9, 2) := by decide +kernel
theorem dX0_countTail_109 : decode cX0_countTail 109 = .ok (.lload 7, 2) := by decide +kernel
theorem dX0_countTail_111 : decode cX0_countTail 111 = .ok (.lconst 0, 1) := by decide +kernel
theorem dX0_countTail_112 : decode cX0_countTail 112 = .ok (.lcmp, 1) := by decide +kernel
theorem dX0_countTail_113 : decode cX0_countTail 113 = .ok (.ifCond .le 79, 3) := by decide +kernel
theorem dX0_countTail_116 : decode cX0_countTail 116 = .ok (.iload 9, 2) := by decide +kernel
theorem dX0_countTail_118 : decode cX0_countTail 118 = .ok (.aload_n 0, 1) := by decide +kernel
theorem dX0_countTail_119 : decode cX0_countTail 119 = .ok (.iload_n 2, 1) := by decide +kernel
theorem dX0_countTail_120 : decode cX0_countTail 120 = .ok (.iload 5, 2) := by decide +kernel
theorem dX0_countTail_122 : decode cX0_countTail 122 = .ok (.isub, 1) := by decide +kernel
theorem dX0_countTail_123 : decode cX0_countTail 123 = .ok (.invokevirtual 108, 3) := by decide +kernel
theorem dX0_countTail_126 : decode cX0_countTail 126 = .ok (.if_icmp .gt 66, 3) := by decide +kernel
theorem dX0_countTail_129 : decode cX0_countTail 129 = .ok (.aload_n 0, 1) := by decide +kernel
theorem dX0_countTail_130 : decode cX0_countTail 130 = .ok (.getfield 19, 3) := by decide +kernel
theorem dX0_countTail_133 : decode cX0_countTail 133 = .ok (.iload 4, 2) := by decide +kernel
theorem dX0_countTail_135 : decode cX0_countTail 135 = .ok (.bipush 64, 2) := by decide +kernel
theorem dX0_countTail_137 : decode cX0_countTail 137 = .ok (.imul, 1) := by decide +kernel
theorem dX0_countTail_138 : decode cX0_countTail 138 = .ok (.iload_n 2, 1) := by decide +kernel
theorem dX0_countTail_139 : decode cX0_countTail 139 = .ok (.iload 5, 2) := by decide +kernel
theorem dX0_countTail_141 : decode cX0_countTail 141 = .ok (.isub, 1) := by decide +kernel
theorem dX0_countTail_142 : decode cX0_countTail 142 = .ok (.bipush 8, 2) := by decide +kernel
theorem dX0_countTail_144 : decode cX0_countTail 144 = .ok (.imul, 1) := by decide +kernel
theorem dX0_countTail_145 : decode cX0_countTail 145 = .ok (.iadd, 1) := by decide +kernel
theorem dX0_countTail_146 : decode cX0_countTail 146 = .ok (.iload 9, 2) := by decide +kernel
theorem dX0_countTail_148 : decode cX0_countTail 148 = .ok (.iadd, 1) := by decide +kernel
theorem dX0_countTail_149 : decode cX0_countTail 149 = .ok (.laload, 1) := by decide +kernel
theorem dX0_countTail_150 : decode cX0_countTail 150 = .ok (.lstore 10, 2) := by decide +kernel
theorem dX0_countTail_152 : decode cX0_countTail 152 = .ok (.aload_n 0, 1) := by decide +kernel
theorem dX0_countTail_153 : decode cX0_countTail 153 = .ok (.getfield 19, 3) := by decide +kernel
theorem dX0_countTail_156 : decode cX0_countTail 156 = .ok (.iload_n 3, 1) := by decide +kernel
theorem dX0_countTail_157 : decode cX0_countTail 157 = .ok (.iload 6, 2) := by decide +kernel
theorem dX0_countTail_159 : decode cX0_countTail 159 = .ok (.iadd, 1) := by decide +kernel
theorem dX0_countTail_160 : decode cX0_countTail 160 = .ok (.iload 9, 2) := by decide +kernel
theorem dX0_countTail_162 : decode cX0_countTail 162 = .ok (.iadd, 1) := by decide +kernel
theorem dX0_countTail_163 : decode cX0_countTail 163 = .ok (.aload_n 0, 1) := by decide +kernel
theorem dX0_countTail_164 : decode cX0_countTail 164 = .ok (.getfield 19, 3) := by decide +kernel
theorem dX0_countTail_167 : decode cX0_countTail 167 = .ok (.iload_n 3, 1) := by decide +kernel
theorem dX0_countTail_168 : decode cX0_countTail 168 = .ok (.iload 6, 2) := by decide +kernel
theorem dX0_countTail_170 : decode cX0_countTail 170 = .ok (.iadd, 1) := by decide +kernel
theorem dX0_countTail_171 : decode cX0_countTail 171 = .ok (.iload 9, 2) := by decide +kernel
theorem dX0_countTail_173 : decode cX0_countTail 173 = .ok (.iadd, 1) := by decide +kernel
theorem dX0_countTail_174 : decode cX0_countTail 174 = .ok (.laload, 1) := by decide +kernel
theorem dX0_countTail_175 : decode cX0_countTail 175 = .ok (.lload 7, 2) := by decide +kernel
theorem dX0_countTail_177 : decode cX0_countTail 177 = .ok (.lload 10, 2) := by decide +kernel
theorem dX0_countTail_179 : decode cX0_countTail 179 = .ok (.invokestatic 142, 3) := by decide +kernel
theorem dX0_countTail_182 : decode cX0_countTail 182 = .ok (.invokestatic 105, 3) := by decide +kernel
theorem wm_997 : (Jvm.Cond.static ({ cls := "GrownKinds", name := "plus", desc := "(JJ)J" } : Jvm.MethodName)) ∈ gT := gT_in (List.mem_of_getElem? (i := 997) (by decide +kernel)) (by decide +kernel)
theorem wm_998 : (Jvm.Cond.code ({ cls := "GrownKinds", name := "plus", desc := "(JJ)J" } : Jvm.MethodName) prog_1_method_62_code (6 : Nat) (Option.some Jvm.ClassFile.FieldType.long)) ∈ gT := gT_in (List.mem_of_getElem? (i := 998) (by decide +kernel)) (by decide +kernel)
theorem dX11_plus_0 : decode cX11_plus 0 = .ok (.lload_n 0, 1) := by decide +kernel
theorem dX11_plus_1 : decode cX11_plus 1 = .ok (.lload_n 2, 1) := by decide +kernel
theorem dX11_plus_2 : decode cX11_plus 2 = .ok (.ladd, 1) := by decide +kernel
theorem dX11_plus_3 : decode cX11_plus 3 = .ok (.lstore 4, 2) := by decide +kernel
theorem dX11_plus_5 : decode cX11_plus 5 = .ok (.lload 4, 2) := by decide +kernel
theorem dX11_plus_7 : decode cX11_plus 7 = .ok (.ldc2_w 378, 3) := by decide +kernel
theorem dX11_plus_10 : decode cX11_plus 10 = .ok (.lcmp, 1) := by decide +kernel
theorem dX11_plus_11 : decode cX11_plus 11 = .ok (.ifCond .le 9, 3) := by decide +kernel
theorem dX11_plus_20 : decode cX11_plus 20 = .ok (.lload 4, 2) := by decide +kernel
theorem dX11_plus_22 : decode cX11_plus 22 = .ok (.lreturn, 1) := by decide +kernel
theorem dX11_plus_14 : decode cX11_plus 14 = .ok (.ldc2_w 378, 3) := by decide +kernel
theorem dX11_plus_17 : decode cX11_plus 17 = .ok (.goto 5, 3) := by decide +kernel
theorem dX0_countTail_185 : decode cX0_countTail 185 = .ok (.lastore, 1) := by decide +kernel
theorem dX0_countTail_186 : decode cX0_countTail 186 = .ok (.iinc 9 1, 3) := by decide +kernel
theorem dX0_countTail_189 : decode cX0_countTail 189 = .ok (.goto (-80), 3) := by decide +kernel
theorem dX0_countTail_192 : decode cX0_countTail 192 = .ok (.iinc 6 1, 3) := by decide +kernel
theorem dX0_countTail_195 : decode cX0_countTail 195 = .ok (.goto (-130), 3) := by decide +kernel
theorem dX0_countTail_198 : decode cX0_countTail 198 = .ok (.iinc 5 1, 3) := by decide +kernel
theorem dX0_countTail_201 : decode cX0_countTail 201 = .ok (.goto (-145), 3) := by decide +kernel
theorem dX0_countTail_204 : decode cX0_countTail 204 = .ok (.return_, 1) := by decide +kernel
theorem dX0_countTail_27 : decode cX0_countTail 27 = .ok (.aload_n 0, 1) := by decide +kernel
theorem dX0_countTail_28 : decode cX0_countTail 28 = .ok (.aload_n 0, 1) := by decide +kernel
theorem dX0_countTail_29 : decode cX0_countTail 29 = .ok (.getfield 15, 3) := by decide +kernel
theorem dX0_countTail_32 : decode cX0_countTail 32 = .ok (.iload_n 3, 1) := by decide +kernel
theorem dX0_countTail_33 : decode cX0_countTail 33 = .ok (.aload_n 0, 1) := by decide +kernel
theorem dX0_countTail_34 : decode cX0_countTail 34 = .ok (.getfield 19, 3) := by decide +kernel
theorem dX0_countTail_37 : decode cX0_countTail 37 = .ok (.iload_n 3, 1) := by decide +kernel
theorem dX0_countTail_38 : decode cX0_countTail 38 = .ok (.iload_n 2, 1) := by decide +kernel
theorem dX0_countTail_39 : decode cX0_countTail 39 = .ok (.invokevirtual 118, 3) := by decide +kernel
theorem wm_1004 : (Jvm.Cond.methodLink "GrownKinds$Census" (118 : Nat) ({ cls := "GrownKinds$Census", name := "copyCells", desc := "([JI[JII)V" } : Jvm.MethodName)) ∈ gT := gT_in (List.mem_of_getElem? (i := 1004) (by decide +kernel)) (by decide +kernel)
theorem wm_1006 : (Jvm.Cond.instanceMethod ({ cls := "GrownKinds$Census", name := "copyCells", desc := "([JI[JII)V" } : Jvm.MethodName)) ∈ gT := gT_in (List.mem_of_getElem? (i := 1006) (by decide +kernel)) (by decide +kernel)
theorem wm_33 : Cond.selects "GrownKinds$Census" ⟨"GrownKinds$Census", "copyCells", "([JI[JII)V"⟩ ⟨"GrownKinds$Census", "copyCells", "([JI[JII)V"⟩ ∈ gT := gT_in (List.mem_of_getElem? (i := 33) (by decide +kernel)) (by decide +kernel)
theorem wm_1007 : (Jvm.Cond.code ({ cls := "GrownKinds$Census", name := "copyCells", desc := "([JI[JII)V" } : Jvm.MethodName) prog_2_method_17_code (7 : Nat) (Option.none : Option Jvm.ClassFile.FieldType)) ∈ gT := gT_in (List.mem_of_getElem? (i := 1007) (by decide +kernel)) (by decide +kernel)
theorem dX0_copyCells_0 : decode cX0_copyCells 0 = .ok (.iconst 0, 1) := by decide +kernel
theorem dX0_copyCells_1 : decode cX0_copyCells 1 = .ok (.istore 6, 2) := by decide +kernel
theorem dX0_copyCells_3 : decode cX0_copyCells 3 = .ok (.iload 6, 2) := by decide +kernel
theorem dX0_copyCells_5 : decode cX0_copyCells 5 = .ok (.aload_n 0, 1) := by decide +kernel
theorem dX0_copyCells_6 : decode cX0_copyCells 6 = .ok (.iload 5, 2) := by decide +kernel
theorem dX0_copyCells_8 : decode cX0_copyCells 8 = .ok (.invokevirtual 108, 3) := by decide +kernel
theorem dX0_copyCells_11 : decode cX0_copyCells 11 = .ok (.if_icmp .gt 22, 3) := by decide +kernel
theorem dX0_copyCells_14 : decode cX0_copyCells 14 = .ok (.aload_n 3, 1) := by decide +kernel
theorem dX0_copyCells_15 : decode cX0_copyCells 15 = .ok (.iload 4, 2) := by decide +kernel
theorem dX0_copyCells_17 : decode cX0_copyCells 17 = .ok (.iload 6, 2) := by decide +kernel
theorem dX0_copyCells_19 : decode cX0_copyCells 19 = .ok (.iadd, 1) := by decide +kernel
theorem dX0_copyCells_20 : decode cX0_copyCells 20 = .ok (.aload_n 1, 1) := by decide +kernel
theorem dX0_copyCells_21 : decode cX0_copyCells 21 = .ok (.iload_n 2, 1) := by decide +kernel
theorem dX0_copyCells_22 : decode cX0_copyCells 22 = .ok (.iload 6, 2) := by decide +kernel
theorem dX0_copyCells_24 : decode cX0_copyCells 24 = .ok (.iadd, 1) := by decide +kernel
theorem dX0_copyCells_25 : decode cX0_copyCells 25 = .ok (.laload, 1) := by decide +kernel
theorem dX0_copyCells_26 : decode cX0_copyCells 26 = .ok (.lastore, 1) := by decide +kernel
theorem dX0_copyCells_27 : decode cX0_copyCells 27 = .ok (.iinc 6 1, 3) := by decide +kernel
theorem dX0_copyCells_30 : decode cX0_copyCells 30 = .ok (.goto (-27), 3) := by decide +kernel
theorem dX0_copyCells_33 : decode cX0_copyCells 33 = .ok (.return_, 1) := by decide +kernel
theorem dX0_countTail_42 : decode cX0_countTail 42 = .ok (.return_, 1) := by decide +kernel
theorem dX0_take_149 : decode cX0_take 149 = .ok (.iinc 3 1, 3) := by decide +kernel
theorem dX0_take_152 : decode cX0_take 152 = .ok (.goto (-93), 3) := by decide +kernel
theorem dX0_take_132 : decode cX0_take 132 = .ok (.aload_n 0, 1) := by decide +kernel
theorem dX0_take_133 : decode cX0_take 133 = .ok (.iload 5, 2) := by decide +kernel
theorem dX0_take_135 : decode cX0_take 135 = .ok (.iload_n 2, 1) := by decide +kernel
theorem dX0_take_136 : decode cX0_take 136 = .ok (.invokevirtual 57, 3) := by decide +kernel
theorem wm_1000 : (Jvm.Cond.methodLink "GrownKinds$Census" (57 : Nat) ({ cls := "GrownKinds$Census", name := "countPart", desc := "(II)V" } : Jvm.MethodName)) ∈ gT := gT_in (List.mem_of_getElem? (i := 1000) (by decide +kernel)) (by decide +kernel)
theorem wm_1002 : (Jvm.Cond.instanceMethod ({ cls := "GrownKinds$Census", name := "countPart", desc := "(II)V" } : Jvm.MethodName)) ∈ gT := gT_in (List.mem_of_getElem? (i := 1002) (by decide +kernel)) (by decide +kernel)
theorem wm_32 : Cond.selects "GrownKinds$Census" ⟨"GrownKinds$Census", "countPart", "(II)V"⟩ ⟨"GrownKinds$Census", "countPart", "(II)V"⟩ ∈ gT := gT_in (List.mem_of_getElem? (i := 32) (by decide +kernel)) (by decide +kernel)
theorem wm_1003 : (Jvm.Cond.code ({ cls := "GrownKinds$Census", name := "countPart", desc := "(II)V" } : Jvm.MethodName) prog_2_method_15_code (6 : Nat) (Option.none : Option Jvm.ClassFile.FieldType)) ∈ gT := gT_in (List.mem_of_getElem? (i := 1003) (by decide +kernel)) (by decide +kernel)
theorem dX0_countPart_0 : decode cX0_countPart 0 = .ok (.iload_n 1, 1) := by decide +kernel
theorem dX0_countPart_1 : decode cX0_countPart 1 = .ok (.bipush 64, 2) := by decide +kernel
theorem dX0_countPart_3 : decode cX0_countPart 3 = .ok (.imul, 1) := by decide +kernel
theorem dX0_countPart_4 : decode cX0_countPart 4 = .ok (.iload_n 2, 1) := by decide +kernel
theorem dX0_countPart_5 : decode cX0_countPart 5 = .ok (.bipush 8, 2) := by decide +kernel
theorem dX0_countPart_7 : decode cX0_countPart 7 = .ok (.imul, 1) := by decide +kernel
theorem dX0_countPart_8 : decode cX0_countPart 8 = .ok (.iadd, 1) := by decide +kernel
theorem dX0_countPart_9 : decode cX0_countPart 9 = .ok (.istore_n 3, 1) := by decide +kernel
theorem dX0_countPart_10 : decode cX0_countPart 10 = .ok (.aload_n 0, 1) := by decide +kernel
theorem dX0_countPart_11 : decode cX0_countPart 11 = .ok (.getfield 31, 3) := by decide +kernel
theorem dX0_countPart_14 : decode cX0_countPart 14 = .ok (.getfield 115, 3) := by decide +kernel
theorem wm_239 : (Jvm.Cond.fieldLink "GrownKinds$Census" (115 : Nat) "GrownKinds$Grammar" "type" "[I") ∈ gT := gT_in (List.mem_of_getElem? (i := 239) (by decide +kernel)) (by decide +kernel)
theorem dX0_countPart_17 : decode cX0_countPart 17 = .ok (.iload_n 1, 1) := by decide +kernel
theorem dX0_countPart_18 : decode cX0_countPart 18 = .ok (.iaload, 1) := by decide +kernel
theorem dX0_countPart_19 : decode cX0_countPart 19 = .ok (.istore 4, 2) := by decide +kernel
theorem dX0_countPart_21 : decode cX0_countPart 21 = .ok (.iload 4, 2) := by decide +kernel
theorem dX0_countPart_23 : decode cX0_countPart 23 = .ok (.bipush 7, 2) := by decide +kernel
theorem dX0_countPart_25 : decode cX0_countPart 25 = .ok (.if_icmp .ne 20, 3) := by decide +kernel
theorem dX0_countPart_45 : decode cX0_countPart 45 = .ok (.iload 4, 2) := by decide +kernel
theorem dX0_countPart_47 : decode cX0_countPart 47 = .ok (.iconst 2, 1) := by decide +kernel
theorem dX0_countPart_48 : decode cX0_countPart 48 = .ok (.if_icmp .ne 37, 3) := by decide +kernel
theorem dX0_countPart_85 : decode cX0_countPart 85 = .ok (.aload_n 0, 1) := by decide +kernel
theorem dX0_countPart_86 : decode cX0_countPart 86 = .ok (.getfield 31, 3) := by decide +kernel
theorem dX0_countPart_89 : decode cX0_countPart 89 = .ok (.iload_n 1, 1) := by decide +kernel
theorem dX0_countPart_90 : decode cX0_countPart 90 = .ok (.invokevirtual 122, 3) := by decide +kernel
theorem wm_1008 : (Jvm.Cond.methodLink "GrownKinds$Census" (122 : Nat) ({ cls := "GrownKinds$Grammar", name := "isSequence", desc := "(I)Z" } : Jvm.MethodName)) ∈ gT := gT_in (List.mem_of_getElem? (i := 1008) (by decide +kernel)) (by decide +kernel)
theorem wm_1009 : (Jvm.Cond.instanceMethod ({ cls := "GrownKinds$Grammar", name := "isSequence", desc := "(I)Z" } : Jvm.MethodName)) ∈ gT := gT_in (List.mem_of_getElem? (i := 1009) (by decide +kernel)) (by decide +kernel)
theorem wm_1010 : (Jvm.Cond.selects "GrownKinds$Grammar" ({ cls := "GrownKinds$Grammar", name := "isSequence", desc := "(I)Z" } : Jvm.MethodName) ({ cls := "GrownKinds$Grammar", name := "isSequence", desc := "(I)Z" } : Jvm.MethodName)) ∈ gT := gT_in (List.mem_of_getElem? (i := 1010) (by decide +kernel)) (by decide +kernel)
theorem wm_1011 : (Jvm.Cond.code ({ cls := "GrownKinds$Grammar", name := "isSequence", desc := "(I)Z" } : Jvm.MethodName) prog_4_method_8_code (2 : Nat) (Option.some Jvm.ClassFile.FieldType.boolean)) ∈ gT := gT_in (List.mem_of_getElem? (i := 1011) (by decide +kernel)) (by decide +kernel)
theorem dX2_isSequence_0 : decode cX2_isSequence 0 = .ok (.aload_n 0, 1) := by decide +kernel
theorem dX2_isSequence_1 : decode cX2_isSequence 1 = .ok (.getfield 27, 3) := by decide +kernel
theorem dX2_isSequence_4 : decode cX2_isSequence 4 = .ok (.iload_n 1, 1) := by decide +kernel
theorem dX2_isSequence_5 : decode cX2_isSequence 5 = .ok (.iaload, 1) := by decide +kernel
theorem dX2_isSequence_6 : decode cX2_isSequence 6 = .ok (.iconst 3, 1) := by decide +kernel
theorem dX2_isSequence_7 : decode cX2_isSequence 7 = .ok (.if_icmp .lt 18, 3) := by decide +kernel
theorem dX2_isSequence_25 : decode cX2_isSequence 25 = .ok (.iconst 0, 1) := by decide +kernel
theorem dX2_isSequence_26 : decode cX2_isSequence 26 = .ok (.ireturn, 1) := by decide +kernel
theorem dX2_isSequence_10 : decode cX2_isSequence 10 = .ok (.aload_n 0, 1) := by decide +kernel
theorem dX2_isSequence_11 : decode cX2_isSequence 11 = .ok (.getfield 27, 3) := by decide +kernel
theorem dX2_isSequence_14 : decode cX2_isSequence 14 = .ok (.iload_n 1, 1) := by decide +kernel
theorem dX2_isSequence_15 : decode cX2_isSequence 15 = .ok (.iaload, 1) := by decide +kernel
theorem dX2_isSequence_16 : decode cX2_isSequence 16 = .ok (.bipush 6, 2) := by decide +kernel
theorem dX2_isSequence_18 : decode cX2_isSequence 18 = .ok (.if_icmp .gt 7, 3) := by decide +kernel
theorem dX2_isSequence_21 : decode cX2_isSequence 21 = .ok (.iconst 1, 1) := by decide +kernel
theorem dX2_isSequence_22 : decode cX2_isSequence 22 = .ok (.goto 4, 3) := by decide +kernel
theorem dX0_countPart_93 : decode cX0_countPart 93 = .ok (.ifCond .eq 12, 3) := by decide +kernel
theorem dX0_countPart_105 : decode cX0_countPart 105 = .ok (.aload_n 0, 1) := by decide +kernel
theorem dX0_countPart_106 : decode cX0_countPart 106 = .ok (.aload_n 0, 1) := by decide +kernel
theorem dX0_countPart_107 : decode cX0_countPart 107 = .ok (.getfield 15, 3) := by decide +kernel
theorem dX0_countPart_110 : decode cX0_countPart 110 = .ok (.iload_n 3, 1) := by decide +kernel
theorem dX0_countPart_111 : decode cX0_countPart 111 = .ok (.iload_n 2, 1) := by decide +kernel
theorem dX0_countPart_112 : decode cX0_countPart 112 = .ok (.invokevirtual 129, 3) := by decide +kernel
theorem dX0_countPart_115 : decode cX0_countPart 115 = .ok (.iload 4, 2) := by decide +kernel
theorem dX0_countPart_117 : decode cX0_countPart 117 = .ok (.ifCond .ne 23, 3) := by decide +kernel
theorem dX0_countPart_140 : decode cX0_countPart 140 = .ok (.iconst 0, 1) := by decide +kernel
theorem dX0_countPart_120 : decode cX0_countPart 120 = .ok (.aload_n 0, 1) := by decide +kernel
theorem dX0_countPart_121 : decode cX0_countPart 121 = .ok (.getfield 9, 3) := by decide +kernel
theorem dX0_countPart_124 : decode cX0_countPart 124 = .ok (.aload_n 0, 1) := by decide +kernel
theorem dX0_countPart_125 : decode cX0_countPart 125 = .ok (.getfield 31, 3) := by decide +kernel
theorem dX0_countPart_128 : decode cX0_countPart 128 = .ok (.getfield 98, 3) := by decide +kernel
theorem wm_245 : (Jvm.Cond.fieldLink "GrownKinds$Census" (98 : Nat) "GrownKinds$Grammar" "value" "[I") ∈ gT := gT_in (List.mem_of_getElem? (i := 245) (by decide +kernel)) (by decide +kernel)
theorem dX0_countPart_131 : decode cX0_countPart 131 = .ok (.iload_n 1, 1) := by decide +kernel
theorem dX0_countPart_132 : decode cX0_countPart 132 = .ok (.iaload, 1) := by decide +kernel
theorem dX0_countPart_133 : decode cX0_countPart 133 = .ok (.if_icmp .ne 7, 3) := by decide +kernel
theorem dX0_countPart_136 : decode cX0_countPart 136 = .ok (.iconst 1, 1) := by decide +kernel
theorem dX0_countPart_137 : decode cX0_countPart 137 = .ok (.goto 4, 3) := by decide +kernel
theorem dX0_countPart_141 : decode cX0_countPart 141 = .ok (.istore 5, 2) := by decide +kernel
theorem dX0_countPart_143 : decode cX0_countPart 143 = .ok (.iload_n 2, 1) := by decide +kernel
theorem dX0_countPart_144 : decode cX0_countPart 144 = .ok (.iload 4, 2) := by decide +kernel
theorem dX0_countPart_146 : decode cX0_countPart 146 = .ok (.ifCond .ne 7, 3) := by decide +kernel
theorem dX0_countPart_153 : decode cX0_countPart 153 = .ok (.iconst 0, 1) := by decide +kernel
theorem dX0_countPart_149 : decode cX0_countPart 149 = .ok (.iconst 1, 1) := by decide +kernel
theorem dX0_countPart_150 : decode cX0_countPart 150 = .ok (.goto 4, 3) := by decide +kernel
theorem dX0_countPart_154 : decode cX0_countPart 154 = .ok (.if_icmp .ne 13, 3) := by decide +kernel
theorem dX0_countPart_167 : decode cX0_countPart 167 = .ok (.return_, 1) := by decide +kernel
theorem dX0_countPart_157 : decode cX0_countPart 157 = .ok (.aload_n 0, 1) := by decide +kernel
theorem dX0_countPart_158 : decode cX0_countPart 158 = .ok (.getfield 15, 3) := by decide +kernel
theorem dX0_countPart_161 : decode cX0_countPart 161 = .ok (.iload_n 3, 1) := by decide +kernel
theorem dX0_countPart_162 : decode cX0_countPart 162 = .ok (.iload 5, 2) := by decide +kernel
theorem dX0_countPart_164 : decode cX0_countPart 164 = .ok (.iadd, 1) := by decide +kernel
theorem dX0_countPart_165 : decode cX0_countPart 165 = .ok (.lconst 1, 1) := by decide +kernel
theorem dX0_countPart_166 : decode cX0_countPart 166 = .ok (.lastore, 1) := by decide +kernel
theorem dX0_countPart_96 : decode cX0_countPart 96 = .ok (.aload_n 0, 1) := by decide +kernel
theorem dX0_countPart_97 : decode cX0_countPart 97 = .ok (.iload_n 1, 1) := by decide +kernel
theorem dX0_countPart_98 : decode cX0_countPart 98 = .ok (.iload_n 2, 1) := by decide +kernel
theorem dX0_countPart_99 : decode cX0_countPart 99 = .ok (.invokevirtual 126, 3) := by decide +kernel
theorem wm_1012 : (Jvm.Cond.methodLink "GrownKinds$Census" (126 : Nat) ({ cls := "GrownKinds$Census", name := "countSequence", desc := "(II)V" } : Jvm.MethodName)) ∈ gT := gT_in (List.mem_of_getElem? (i := 1012) (by decide +kernel)) (by decide +kernel)
theorem wm_1014 : (Jvm.Cond.instanceMethod ({ cls := "GrownKinds$Census", name := "countSequence", desc := "(II)V" } : Jvm.MethodName)) ∈ gT := gT_in (List.mem_of_getElem? (i := 1014) (by decide +kernel)) (by decide +kernel)
theorem wm_34 : Cond.selects "GrownKinds$Census" ⟨"GrownKinds$Census", "countSequence", "(II)V"⟩ ⟨"GrownKinds$Census", "countSequence", "(II)V"⟩ ∈ gT := gT_in (List.mem_of_getElem? (i := 34) (by decide +kernel)) (by decide +kernel)
theorem wm_1015 : (Jvm.Cond.code ({ cls := "GrownKinds$Census", name := "countSequence", desc := "(II)V" } : Jvm.MethodName) prog_2_method_20_code (8 : Nat) (Option.none : Option Jvm.ClassFile.FieldType)) ∈ gT := gT_in (List.mem_of_getElem? (i := 1015) (by decide +kernel)) (by decide +kernel)
theorem dX0_countSequence_0 : decode cX0_countSequence 0 = .ok (.iload_n 1, 1) := by decide +kernel
theorem dX0_countSequence_1 : decode cX0_countSequence 1 = .ok (.bipush 64, 2) := by decide +kernel
theorem dX0_countSequence_3 : decode cX0_countSequence 3 = .ok (.imul, 1) := by decide +kernel
theorem dX0_countSequence_4 : decode cX0_countSequence 4 = .ok (.iload_n 2, 1) := by decide +kernel
theorem dX0_countSequence_5 : decode cX0_countSequence 5 = .ok (.bipush 8, 2) := by decide +kernel
theorem dX0_countSequence_7 : decode cX0_countSequence 7 = .ok (.imul, 1) := by decide +kernel
theorem dX0_countSequence_8 : decode cX0_countSequence 8 = .ok (.iadd, 1) := by decide +kernel
theorem dX0_countSequence_9 : decode cX0_countSequence 9 = .ok (.istore_n 3, 1) := by decide +kernel
theorem dX0_countSequence_10 : decode cX0_countSequence 10 = .ok (.aload_n 0, 1) := by decide +kernel
theorem dX0_countSequence_11 : decode cX0_countSequence 11 = .ok (.getfield 31, 3) := by decide +kernel
theorem dX0_countSequence_14 : decode cX0_countSequence 14 = .ok (.getfield 98, 3) := by decide +kernel
theorem dX0_countSequence_17 : decode cX0_countSequence 17 = .ok (.iload_n 1, 1) := by decide +kernel
theorem dX0_countSequence_18 : decode cX0_countSequence 18 = .ok (.iaload, 1) := by decide +kernel
theorem dX0_countSequence_19 : decode cX0_countSequence 19 = .ok (.istore 4, 2) := by decide +kernel
theorem dX0_countSequence_21 : decode cX0_countSequence 21 = .ok (.aload_n 0, 1) := by decide +kernel
theorem dX0_countSequence_22 : decode cX0_countSequence 22 = .ok (.getfield 31, 3) := by decide +kernel
theorem dX0_countSequence_25 : decode cX0_countSequence 25 = .ok (.getfield 115, 3) := by decide +kernel
theorem dX0_countSequence_28 : decode cX0_countSequence 28 = .ok (.iload_n 1, 1) := by decide +kernel
theorem dX0_countSequence_29 : decode cX0_countSequence 29 = .ok (.iaload, 1) := by decide +kernel
theorem dX0_countSequence_30 : decode cX0_countSequence 30 = .ok (.istore 5, 2) := by decide +kernel
theorem dX0_countSequence_32 : decode cX0_countSequence 32 = .ok (.aload_n 0, 1) := by decide +kernel
theorem dX0_countSequence_33 : decode cX0_countSequence 33 = .ok (.aload_n 0, 1) := by decide +kernel
theorem dX0_countSequence_34 : decode cX0_countSequence 34 = .ok (.getfield 15, 3) := by decide +kernel
theorem dX0_countSequence_37 : decode cX0_countSequence 37 = .ok (.iload_n 3, 1) := by decide +kernel
theorem dX0_countSequence_38 : decode cX0_countSequence 38 = .ok (.iload_n 2, 1) := by decide +kernel
theorem dX0_countSequence_39 : decode cX0_countSequence 39 = .ok (.invokevirtual 129, 3) := by decide +kernel
theorem dX0_countSequence_42 : decode cX0_countSequence 42 = .ok (.iload_n 2, 1) := by decide +kernel
theorem dX0_countSequence_43 : decode cX0_countSequence 43 = .ok (.ifCond .ne 38, 3) := by decide +kernel
theorem dX0_countSequence_81 : decode cX0_countSequence 81 = .ok (.iload 4, 2) := by decide +kernel
theorem dX0_countSequence_83 : decode cX0_countSequence 83 = .ok (.iconst 1, 1) := by decide +kernel
theorem dX0_countSequence_84 : decode cX0_countSequence 84 = .ok (.if_icmp .ne 35, 3) := by decide +kernel
theorem dX0_countSequence_119 : decode cX0_countSequence 119 = .ok (.aload_n 0, 1) := by decide +kernel
theorem dX0_countSequence_120 : decode cX0_countSequence 120 = .ok (.iload_n 1, 1) := by decide +kernel
theorem dX0_countSequence_121 : decode cX0_countSequence 121 = .ok (.invokevirtual 155, 3) := by decide +kernel
theorem wm_1032 : (Jvm.Cond.methodLink "GrownKinds$Census" (155 : Nat) ({ cls := "GrownKinds$Census", name := "inClasses", desc := "(I)Z" } : Jvm.MethodName)) ∈ gT := gT_in (List.mem_of_getElem? (i := 1032) (by decide +kernel)) (by decide +kernel)
theorem wm_1034 : (Jvm.Cond.instanceMethod ({ cls := "GrownKinds$Census", name := "inClasses", desc := "(I)Z" } : Jvm.MethodName)) ∈ gT := gT_in (List.mem_of_getElem? (i := 1034) (by decide +kernel)) (by decide +kernel)
theorem wm_39 : Cond.selects "GrownKinds$Census" ⟨"GrownKinds$Census", "inClasses", "(I)Z"⟩ ⟨"GrownKinds$Census", "inClasses", "(I)Z"⟩ ∈ gT := gT_in (List.mem_of_getElem? (i := 39) (by decide +kernel)) (by decide +kernel)
theorem wm_1035 : (Jvm.Cond.code ({ cls := "GrownKinds$Census", name := "inClasses", desc := "(I)Z" } : Jvm.MethodName) prog_2_method_21_code (2 : Nat) (Option.some Jvm.ClassFile.FieldType.boolean)) ∈ gT := gT_in (List.mem_of_getElem? (i := 1035) (by decide +kernel)) (by decide +kernel)
theorem dX0_inClasses_0 : decode cX0_inClasses 0 = .ok (.aload_n 0, 1) := by decide +kernel
theorem dX0_inClasses_1 : decode cX0_inClasses 1 = .ok (.getfield 9, 3) := by decide +kernel
theorem dX0_inClasses_4 : decode cX0_inClasses 4 = .ok (.bipush (-2), 2) := by decide +kernel
theorem dX0_inClasses_6 : decode cX0_inClasses 6 = .ok (.if_icmp .eq 33, 3) := by decide +kernel
theorem dX0_inClasses_39 : decode cX0_inClasses 39 = .ok (.iconst 0, 1) := by decide +kernel
theorem dX0_inClasses_40 : decode cX0_inClasses 40 = .ok (.ireturn, 1) := by decide +kernel
theorem dX0_inClasses_9 : decode cX0_inClasses 9 = .ok (.aload_n 0, 1) := by decide +kernel
theorem dX0_inClasses_10 : decode cX0_inClasses 10 = .ok (.getfield 31, 3) := by decide +kernel
theorem dX0_inClasses_13 : decode cX0_inClasses 13 = .ok (.getfield 115, 3) := by decide +kernel
theorem dX0_inClasses_16 : decode cX0_inClasses 16 = .ok (.iload_n 1, 1) := by decide +kernel
theorem dX0_inClasses_17 : decode cX0_inClasses 17 = .ok (.iaload, 1) := by decide +kernel
theorem dX0_inClasses_18 : decode cX0_inClasses 18 = .ok (.iconst 4, 1) := by decide +kernel
theorem dX0_inClasses_19 : decode cX0_inClasses 19 = .ok (.if_icmp .eq 16, 3) := by decide +kernel
theorem dX0_inClasses_35 : decode cX0_inClasses 35 = .ok (.iconst 1, 1) := by decide +kernel
theorem dX0_inClasses_36 : decode cX0_inClasses 36 = .ok (.goto 4, 3) := by decide +kernel
theorem dX0_inClasses_22 : decode cX0_inClasses 22 = .ok (.aload_n 0, 1) := by decide +kernel
theorem dX0_inClasses_23 : decode cX0_inClasses 23 = .ok (.getfield 31, 3) := by decide +kernel
theorem dX0_inClasses_26 : decode cX0_inClasses 26 = .ok (.getfield 115, 3) := by decide +kernel
theorem dX0_inClasses_29 : decode cX0_inClasses 29 = .ok (.iload_n 1, 1) := by decide +kernel
theorem dX0_inClasses_30 : decode cX0_inClasses 30 = .ok (.iaload, 1) := by decide +kernel
theorem dX0_inClasses_31 : decode cX0_inClasses 31 = .ok (.iconst 5, 1) := by decide +kernel
theorem dX0_inClasses_32 : decode cX0_inClasses 32 = .ok (.if_icmp .ne 7, 3) := by decide +kernel
theorem dX0_countSequence_124 : decode cX0_countSequence 124 = .ok (.ifCond .eq 23, 3) := by decide +kernel
theorem dX0_countSequence_147 : decode cX0_countSequence 147 = .ok (.aload_n 0, 1) := by decide +kernel
theorem dX0_countSequence_148 : decode cX0_countSequence 148 = .ok (.iload_n 1, 1) := by decide +kernel
theorem dX0_countSequence_149 : decode cX0_countSequence 149 = .ok (.iload_n 2, 1) := by decide +kernel
theorem dX0_countSequence_150 : decode cX0_countSequence 150 = .ok (.invokevirtual 161, 3) := by decide +kernel
theorem wm_1055 : (Jvm.Cond.methodLink "GrownKinds$Census" (161 : Nat) ({ cls := "GrownKinds$Census", name := "growRows", desc := "(II)V" } : Jvm.MethodName)) ∈ gT := gT_in (List.mem_of_getElem? (i := 1055) (by decide +kernel)) (by decide +kernel)
theorem wm_1057 : (Jvm.Cond.instanceMethod ({ cls := "GrownKinds$Census", name := "growRows", desc := "(II)V" } : Jvm.MethodName)) ∈ gT := gT_in (List.mem_of_getElem? (i := 1057) (by decide +kernel)) (by decide +kernel)
theorem wm_43 : Cond.selects "GrownKinds$Census" ⟨"GrownKinds$Census", "growRows", "(II)V"⟩ ⟨"GrownKinds$Census", "growRows", "(II)V"⟩ ∈ gT := gT_in (List.mem_of_getElem? (i := 43) (by decide +kernel)) (by decide +kernel)
theorem wm_1058 : (Jvm.Cond.code ({ cls := "GrownKinds$Census", name := "growRows", desc := "(II)V" } : Jvm.MethodName) prog_2_method_27_code (12 : Nat) (Option.none : Option Jvm.ClassFile.FieldType)) ∈ gT := gT_in (List.mem_of_getElem? (i := 1058) (by decide +kernel)) (by decide +kernel)
theorem dX0_growRows_0 : decode cX0_growRows 0 = .ok (.iconst 2, 1) := by decide +kernel
theorem dX0_growRows_1 : decode cX0_growRows 1 = .ok (.istore_n 3, 1) := by decide +kernel
theorem dX0_growRows_2 : decode cX0_growRows 2 = .ok (.iload_n 3, 1) := by decide +kernel
theorem dX0_growRows_3 : decode cX0_growRows 3 = .ok (.iload_n 2, 1) := by decide +kernel
theorem dX0_growRows_4 : decode cX0_growRows 4 = .ok (.aload_n 0, 1) := by decide +kernel
theorem dX0_growRows_5 : decode cX0_growRows 5 = .ok (.iload_n 1, 1) := by decide +kernel
theorem dX0_growRows_6 : decode cX0_growRows 6 = .ok (.invokevirtual 176, 3) := by decide +kernel
theorem wm_1028 : (Jvm.Cond.methodLink "GrownKinds$Census" (176 : Nat) ({ cls := "GrownKinds$Census", name := "longest", desc := "(I)I" } : Jvm.MethodName)) ∈ gT := gT_in (List.mem_of_getElem? (i := 1028) (by decide +kernel)) (by decide +kernel)
theorem wm_1030 : (Jvm.Cond.instanceMethod ({ cls := "GrownKinds$Census", name := "longest", desc := "(I)I" } : Jvm.MethodName)) ∈ gT := gT_in (List.mem_of_getElem? (i := 1030) (by decide +kernel)) (by decide +kernel)
theorem wm_38 : Cond.selects "GrownKinds$Census" ⟨"GrownKinds$Census", "longest", "(I)I"⟩ ⟨"GrownKinds$Census", "longest", "(I)I"⟩ ∈ gT := gT_in (List.mem_of_getElem? (i := 38) (by decide +kernel)) (by decide +kernel)
theorem wm_1031 : (Jvm.Cond.code ({ cls := "GrownKinds$Census", name := "longest", desc := "(I)I" } : Jvm.MethodName) prog_2_method_26_code (2 : Nat) (Option.some Jvm.ClassFile.FieldType.int)) ∈ gT := gT_in (List.mem_of_getElem? (i := 1031) (by decide +kernel)) (by decide +kernel)
theorem dX0_longest_0 : decode cX0_longest 0 = .ok (.aload_n 0, 1) := by decide +kernel
theorem dX0_longest_1 : decode cX0_longest 1 = .ok (.getfield 31, 3) := by decide +kernel
theorem dX0_longest_4 : decode cX0_longest 4 = .ok (.getfield 98, 3) := by decide +kernel
theorem dX0_longest_7 : decode cX0_longest 7 = .ok (.iload_n 1, 1) := by decide +kernel
theorem dX0_longest_8 : decode cX0_longest 8 = .ok (.iaload, 1) := by decide +kernel
theorem dX0_longest_9 : decode cX0_longest 9 = .ok (.ifCond .ne 13, 3) := by decide +kernel
theorem dX0_longest_22 : decode cX0_longest 22 = .ok (.aload_n 0, 1) := by decide +kernel
theorem dX0_longest_23 : decode cX0_longest 23 = .ok (.getfield 31, 3) := by decide +kernel
theorem dX0_longest_26 : decode cX0_longest 26 = .ok (.getfield 98, 3) := by decide +kernel
theorem dX0_longest_29 : decode cX0_longest 29 = .ok (.iload_n 1, 1) := by decide +kernel
theorem dX0_longest_30 : decode cX0_longest 30 = .ok (.iaload, 1) := by decide +kernel
theorem dX0_longest_31 : decode cX0_longest 31 = .ok (.ireturn, 1) := by decide +kernel
theorem dX0_longest_12 : decode cX0_longest 12 = .ok (.aload_n 0, 1) := by decide +kernel
theorem dX0_longest_13 : decode cX0_longest 13 = .ok (.getfield 31, 3) := by decide +kernel
theorem dX0_longest_16 : decode cX0_longest 16 = .ok (.getfield 43, 3) := by decide +kernel
theorem dX0_longest_19 : decode cX0_longest 19 = .ok (.goto 12, 3) := by decide +kernel
theorem dX0_growRows_9 : decode cX0_growRows 9 = .ok (.invokestatic 179, 3) := by decide +kernel
theorem wm_1051 : (Jvm.Cond.methodLink "GrownKinds$Census" (179 : Nat) ({ cls := "java/lang/Math", name := "min", desc := "(II)I" } : Jvm.MethodName)) ∈ gT := gT_in (List.mem_of_getElem? (i := 1051) (by decide +kernel)) (by decide +kernel)
theorem dX0_growRows_12 : decode cX0_growRows 12 = .ok (.if_icmp .gt 164, 3) := by decide +kernel
theorem dX0_growRows_15 : decode cX0_growRows 15 = .ok (.iload_n 1, 1) := by decide +kernel
theorem dX0_growRows_16 : decode cX0_growRows 16 = .ok (.sipush 512, 3) := by decide +kernel
theorem dX0_growRows_19 : decode cX0_growRows 19 = .ok (.imul, 1) := by decide +kernel
theorem dX0_growRows_20 : decode cX0_growRows 20 = .ok (.iload_n 3, 1) := by decide +kernel
theorem dX0_growRows_21 : decode cX0_growRows 21 = .ok (.bipush 64, 2) := by decide +kernel
theorem dX0_growRows_23 : decode cX0_growRows 23 = .ok (.imul, 1) := by decide +kernel
theorem dX0_growRows_24 : decode cX0_growRows 24 = .ok (.iadd, 1) := by decide +kernel
theorem dX0_growRows_25 : decode cX0_growRows 25 = .ok (.iload_n 2, 1) := by decide +kernel
theorem dX0_growRows_26 : decode cX0_growRows 26 = .ok (.bipush 8, 2) := by decide +kernel
theorem dX0_growRows_28 : decode cX0_growRows 28 = .ok (.imul, 1) := by decide +kernel
theorem dX0_growRows_29 : decode cX0_growRows 29 = .ok (.iadd, 1) := by decide +kernel
theorem dX0_growRows_30 : decode cX0_growRows 30 = .ok (.istore 4, 2) := by decide +kernel
theorem dX0_growRows_32 : decode cX0_growRows 32 = .ok (.iconst 1, 1) := by decide +kernel
theorem dX0_growRows_33 : decode cX0_growRows 33 = .ok (.istore 5, 2) := by decide +kernel
theorem dX0_growRows_35 : decode cX0_growRows 35 = .ok (.iload 5, 2) := by decide +kernel
theorem dX0_growRows_37 : decode cX0_growRows 37 = .ok (.iload_n 2, 1) := by decide +kernel
theorem dX0_growRows_38 : decode cX0_growRows 38 = .ok (.if_icmp .ge 132, 3) := by decide +kernel
theorem dX0_growRows_41 : decode cX0_growRows 41 = .ok (.iconst 0, 1) := by decide +kernel
theorem dX0_growRows_42 : decode cX0_growRows 42 = .ok (.istore 6, 2) := by decide +kernel
theorem dX0_growRows_44 : decode cX0_growRows 44 = .ok (.iload 6, 2) := by decide +kernel
theorem dX0_growRows_46 : decode cX0_growRows 46 = .ok (.aload_n 0, 1) := by decide +kernel
theorem dX0_growRows_47 : decode cX0_growRows 47 = .ok (.iload 5, 2) := by decide +kernel
theorem dX0_growRows_49 : decode cX0_growRows 49 = .ok (.invokevirtual 108, 3) := by decide +kernel
theorem dX0_growRows_52 : decode cX0_growRows 52 = .ok (.if_icmp .gt 112, 3) := by decide +kernel
theorem dX0_growRows_55 : decode cX0_growRows 55 = .ok (.aload_n 0, 1) := by decide +kernel
theorem dX0_growRows_56 : decode cX0_growRows 56 = .ok (.iload_n 1, 1) := by decide +kernel
theorem dX0_growRows_57 : decode cX0_growRows 57 = .ok (.iconst 1, 1) := by decide +kernel
theorem dX0_growRows_58 : decode cX0_growRows 58 = .ok (.iload 5, 2) := by decide +kernel
theorem dX0_growRows_60 : decode cX0_growRows 60 = .ok (.iload 6, 2) := by decide +kernel
theorem dX0_growRows_62 : decode cX0_growRows 62 = .ok (.invokevirtual 101, 3) := by decide +kernel
theorem wm_1040 : (Jvm.Cond.methodLink "GrownKinds$Census" (101 : Nat) ({ cls := "GrownKinds$Census", name := "rowsOf", desc := "(IIII)J" } : Jvm.MethodName)) ∈ gT := gT_in (List.mem_of_getElem? (i := 1040) (by decide +kernel)) (by decide +kernel)
theorem wm_1042 : (Jvm.Cond.instanceMethod ({ cls := "GrownKinds$Census", name := "rowsOf", desc := "(IIII)J" } : Jvm.MethodName)) ∈ gT := gT_in (List.mem_of_getElem? (i := 1042) (by decide +kernel)) (by decide +kernel)
theorem wm_41 : Cond.selects "GrownKinds$Census" ⟨"GrownKinds$Census", "rowsOf", "(IIII)J"⟩ ⟨"GrownKinds$Census", "rowsOf", "(IIII)J"⟩ ∈ gT := gT_in (List.mem_of_getElem? (i := 41) (by decide +kernel)) (by decide +kernel)
theorem wm_1043 : (Jvm.Cond.code ({ cls := "GrownKinds$Census", name := "rowsOf", desc := "(IIII)J" } : Jvm.MethodName) prog_2_method_23_code (5 : Nat) (Option.some Jvm.ClassFile.FieldType.long)) ∈ gT := gT_in (List.mem_of_getElem? (i := 1043) (by decide +kernel)) (by decide +kernel)
theorem dX0_rowsOf_0 : decode cX0_rowsOf 0 = .ok (.iload_n 2, 1) := by decide +kernel
theorem dX0_rowsOf_1 : decode cX0_rowsOf 1 = .ok (.iconst 1, 1) := by decide +kernel
theorem dX0_rowsOf_2 : decode cX0_rowsOf 2 = .ok (.if_icmp .ne 29, 3) := by decide +kernel
theorem dX0_rowsOf_31 : decode cX0_rowsOf 31 = .ok (.aload_n 0, 1) := by decide +kernel
theorem dX0_rowsOf_32 : decode cX0_rowsOf 32 = .ok (.getfield 25, 3) := by decide +kernel
theorem dX0_rowsOf_35 : decode cX0_rowsOf 35 = .ok (.iload_n 1, 1) := by decide +kernel
theorem dX0_rowsOf_36 : decode cX0_rowsOf 36 = .ok (.sipush 512, 3) := by decide +kernel
theorem dX0_rowsOf_39 : decode cX0_rowsOf 39 = .ok (.imul, 1) := by decide +kernel
theorem dX0_rowsOf_40 : decode cX0_rowsOf 40 = .ok (.iload_n 2, 1) := by decide +kernel
theorem dX0_rowsOf_41 : decode cX0_rowsOf 41 = .ok (.bipush 64, 2) := by decide +kernel
theorem dX0_rowsOf_43 : decode cX0_rowsOf 43 = .ok (.imul, 1) := by decide +kernel
theorem dX0_rowsOf_44 : decode cX0_rowsOf 44 = .ok (.iadd, 1) := by decide +kernel
theorem dX0_rowsOf_45 : decode cX0_rowsOf 45 = .ok (.iload_n 3, 1) := by decide +kernel
theorem dX0_rowsOf_46 : decode cX0_rowsOf 46 = .ok (.bipush 8, 2) := by decide +kernel
theorem dX0_rowsOf_48 : decode cX0_rowsOf 48 = .ok (.imul, 1) := by decide +kernel
theorem dX0_rowsOf_49 : decode cX0_rowsOf 49 = .ok (.iadd, 1) := by decide +kernel
theorem dX0_rowsOf_50 : decode cX0_rowsOf 50 = .ok (.iload 4, 2) := by decide +kernel
theorem dX0_rowsOf_52 : decode cX0_rowsOf 52 = .ok (.iadd, 1) := by decide +kernel
theorem dX0_rowsOf_53 : decode cX0_rowsOf 53 = .ok (.laload, 1) := by decide +kernel
theorem dX0_rowsOf_54 : decode cX0_rowsOf 54 = .ok (.lreturn, 1) := by decide +kernel
theorem dX0_rowsOf_5 : decode cX0_rowsOf 5 = .ok (.aload_n 0, 1) := by decide +kernel
theorem dX0_rowsOf_6 : decode cX0_rowsOf 6 = .ok (.getfield 15, 3) := by decide +kernel
theorem dX0_rowsOf_9 : decode cX0_rowsOf 9 = .ok (.aload_n 0, 1) := by decide +kernel
theorem dX0_rowsOf_10 : decode cX0_rowsOf 10 = .ok (.getfield 31, 3) := by decide +kernel
theorem dX0_rowsOf_13 : decode cX0_rowsOf 13 = .ok (.getfield 152, 3) := by decide +kernel
theorem wm_252 : (Jvm.Cond.fieldLink "GrownKinds$Census" (152 : Nat) "GrownKinds$Grammar" "inside" "[I") ∈ gT := gT_in (List.mem_of_getElem? (i := 252) (by decide +kernel)) (by decide +kernel)
theorem dX0_rowsOf_16 : decode cX0_rowsOf 16 = .ok (.iload_n 1, 1) := by decide +kernel
theorem dX0_rowsOf_17 : decode cX0_rowsOf 17 = .ok (.iaload, 1) := by decide +kernel
theorem dX0_rowsOf_18 : decode cX0_rowsOf 18 = .ok (.bipush 64, 2) := by decide +kernel
theorem dX0_rowsOf_20 : decode cX0_rowsOf 20 = .ok (.imul, 1) := by decide +kernel
theorem dX0_rowsOf_21 : decode cX0_rowsOf 21 = .ok (.iload_n 3, 1) := by decide +kernel
theorem dX0_rowsOf_22 : decode cX0_rowsOf 22 = .ok (.bipush 8, 2) := by decide +kernel
theorem dX0_rowsOf_24 : decode cX0_rowsOf 24 = .ok (.imul, 1) := by decide +kernel
theorem dX0_rowsOf_25 : decode cX0_rowsOf 25 = .ok (.iadd, 1) := by decide +kernel
theorem dX0_rowsOf_26 : decode cX0_rowsOf 26 = .ok (.iload 4, 2) := by decide +kernel
theorem dX0_rowsOf_28 : decode cX0_rowsOf 28 = .ok (.iadd, 1) := by decide +kernel
theorem dX0_rowsOf_29 : decode cX0_rowsOf 29 = .ok (.laload, 1) := by decide +kernel
theorem dX0_rowsOf_30 : decode cX0_rowsOf 30 = .ok (.lreturn, 1) := by decide +kernel
theorem dX0_growRows_65 : decode cX0_growRows 65 = .ok (.aload_n 0, 1) := by decide +kernel
theorem dX0_growRows_66 : decode cX0_growRows 66 = .ok (.iload_n 2, 1) := by decide +kernel
theorem dX0_growRows_67 : decode cX0_growRows 67 = .ok (.iload 5, 2) := by decide +kernel
theorem dX0_growRows_69 : decode cX0_growRows 69 = .ok (.invokevirtual 139, 3) := by decide +kernel
theorem dX0_growRows_72 : decode cX0_growRows 72 = .ok (.invokestatic 142, 3) := by decide +kernel
theorem dX0_growRows_75 : decode cX0_growRows 75 = .ok (.lstore 7, 2) := by decide +kernel
theorem dX0_growRows_77 : decode cX0_growRows 77 = .ok (.iconst 0, 1) := by decide +kernel
theorem dX0_growRows_78 : decode cX0_growRows 78 = .ok (.istore 9, 2) := by decide +kernel
theorem dX0_growRows_80 : decode cX0_growRows 80 = .ok (.lload 7, 2) := by decide +kernel
theorem dX0_growRows_82 : decode cX0_growRows 82 = .ok (.lconst 0, 1) := by decide +kernel
theorem dX0_growRows_83 : decode cX0_growRows 83 = .ok (.lcmp, 1) := by decide +kernel
theorem dX0_growRows_84 : decode cX0_growRows 84 = .ok (.ifCond .le 74, 3) := by decide +kernel
theorem dX0_growRows_87 : decode cX0_growRows 87 = .ok (.iload 9, 2) := by decide +kernel
theorem dX0_growRows_89 : decode cX0_growRows 89 = .ok (.aload_n 0, 1) := by decide +kernel
theorem dX0_growRows_90 : decode cX0_growRows 90 = .ok (.iload_n 2, 1) := by decide +kernel
theorem dX0_growRows_91 : decode cX0_growRows 91 = .ok (.iload 5, 2) := by decide +kernel
theorem dX0_growRows_93 : decode cX0_growRows 93 = .ok (.isub, 1) := by decide +kernel
theorem dX0_growRows_94 : decode cX0_growRows 94 = .ok (.invokevirtual 108, 3) := by decide +kernel
theorem dX0_growRows_97 : decode cX0_growRows 97 = .ok (.if_icmp .gt 61, 3) := by decide +kernel
theorem dX0_growRows_100 : decode cX0_growRows 100 = .ok (.aload_n 0, 1) := by decide +kernel
theorem dX0_growRows_101 : decode cX0_growRows 101 = .ok (.iload_n 1, 1) := by decide +kernel
theorem dX0_growRows_102 : decode cX0_growRows 102 = .ok (.iload_n 3, 1) := by decide +kernel
theorem dX0_growRows_103 : decode cX0_growRows 103 = .ok (.iconst 1, 1) := by decide +kernel
theorem dX0_growRows_104 : decode cX0_growRows 104 = .ok (.isub, 1) := by decide +kernel
theorem dX0_growRows_105 : decode cX0_growRows 105 = .ok (.iload_n 2, 1) := by decide +kernel
theorem dX0_growRows_106 : decode cX0_growRows 106 = .ok (.iload 5, 2) := by decide +kernel
theorem dX0_growRows_108 : decode cX0_growRows 108 = .ok (.isub, 1) := by decide +kernel
theorem dX0_growRows_109 : decode cX0_growRows 109 = .ok (.iload 9, 2) := by decide +kernel
theorem dX0_growRows_111 : decode cX0_growRows 111 = .ok (.invokevirtual 101, 3) := by decide +kernel
theorem dX0_growRows_114 : decode cX0_growRows 114 = .ok (.lstore 10, 2) := by decide +kernel
theorem dX0_growRows_116 : decode cX0_growRows 116 = .ok (.aload_n 0, 1) := by decide +kernel
theorem dX0_growRows_117 : decode cX0_growRows 117 = .ok (.getfield 25, 3) := by decide +kernel
theorem dX0_growRows_120 : decode cX0_growRows 120 = .ok (.iload 4, 2) := by decide +kernel
theorem dX0_growRows_122 : decode cX0_growRows 122 = .ok (.iload 6, 2) := by decide +kernel
theorem dX0_growRows_124 : decode cX0_growRows 124 = .ok (.iadd, 1) := by decide +kernel
theorem dX0_growRows_125 : decode cX0_growRows 125 = .ok (.iload 9, 2) := by decide +kernel
theorem dX0_growRows_127 : decode cX0_growRows 127 = .ok (.iadd, 1) := by decide +kernel
theorem dX0_growRows_128 : decode cX0_growRows 128 = .ok (.aload_n 0, 1) := by decide +kernel
theorem dX0_growRows_129 : decode cX0_growRows 129 = .ok (.getfield 25, 3) := by decide +kernel
theorem dX0_growRows_132 : decode cX0_growRows 132 = .ok (.iload 4, 2) := by decide +kernel
theorem dX0_growRows_134 : decode cX0_growRows 134 = .ok (.iload 6, 2) := by decide +kernel
theorem dX0_growRows_136 : decode cX0_growRows 136 = .ok (.iadd, 1) := by decide +kernel
theorem dX0_growRows_137 : decode cX0_growRows 137 = .ok (.iload 9, 2) := by decide +kernel
theorem dX0_growRows_139 : decode cX0_growRows 139 = .ok (.iadd, 1) := by decide +kernel
theorem dX0_growRows_140 : decode cX0_growRows 140 = .ok (.laload, 1) := by decide +kernel
theorem dX0_growRows_141 : decode cX0_growRows 141 = .ok (.lload 7, 2) := by decide +kernel
theorem dX0_growRows_143 : decode cX0_growRows 143 = .ok (.lload 10, 2) := by decide +kernel
theorem dX0_growRows_145 : decode cX0_growRows 145 = .ok (.invokestatic 142, 3) := by decide +kernel
theorem dX0_growRows_148 : decode cX0_growRows 148 = .ok (.invokestatic 105, 3) := by decide +kernel
theorem dX0_growRows_151 : decode cX0_growRows 151 = .ok (.lastore, 1) := by decide +kernel
theorem dX0_growRows_152 : decode cX0_growRows 152 = .ok (.iinc 9 1, 3) := by decide +kernel
theorem dX0_growRows_155 : decode cX0_growRows 155 = .ok (.goto (-75), 3) := by decide +kernel
theorem dX0_growRows_158 : decode cX0_growRows 158 = .ok (.iinc 6 1, 3) := by decide +kernel
theorem dX0_growRows_161 : decode cX0_growRows 161 = .ok (.goto (-117), 3) := by decide +kernel
theorem dX0_growRows_164 : decode cX0_growRows 164 = .ok (.iinc 5 1, 3) := by decide +kernel
theorem dX0_growRows_167 : decode cX0_growRows 167 = .ok (.goto (-132), 3) := by decide +kernel
theorem dX0_growRows_170 : decode cX0_growRows 170 = .ok (.iinc 3 1, 3) := by decide +kernel
theorem dX0_growRows_173 : decode cX0_growRows 173 = .ok (.goto (-171), 3) := by decide +kernel
theorem dX0_growRows_176 : decode cX0_growRows 176 = .ok (.return_, 1) := by decide +kernel
theorem dX0_countSequence_127 : decode cX0_countSequence 127 = .ok (.aload_n 0, 1) := by decide +kernel
theorem dX0_countSequence_128 : decode cX0_countSequence 128 = .ok (.iload_n 1, 1) := by decide +kernel
theorem dX0_countSequence_129 : decode cX0_countSequence 129 = .ok (.iload 4, 2) := by decide +kernel
theorem dX0_countSequence_131 : decode cX0_countSequence 131 = .ok (.ifCond .ne 7, 3) := by decide +kernel
theorem dX0_countSequence_138 : decode cX0_countSequence 138 = .ok (.iload_n 2, 1) := by decide +kernel
theorem dX0_countSequence_139 : decode cX0_countSequence 139 = .ok (.iconst 1, 1) := by decide +kernel
theorem dX0_countSequence_140 : decode cX0_countSequence 140 = .ok (.isub, 1) := by decide +kernel
theorem dX0_countSequence_141 : decode cX0_countSequence 141 = .ok (.invokevirtual 158, 3) := by decide +kernel
theorem wm_1036 : (Jvm.Cond.methodLink "GrownKinds$Census" (158 : Nat) ({ cls := "GrownKinds$Census", name := "addClasses", desc := "(II)V" } : Jvm.MethodName)) ∈ gT := gT_in (List.mem_of_getElem? (i := 1036) (by decide +kernel)) (by decide +kernel)
theorem wm_1038 : (Jvm.Cond.instanceMethod ({ cls := "GrownKinds$Census", name := "addClasses", desc := "(II)V" } : Jvm.MethodName)) ∈ gT := gT_in (List.mem_of_getElem? (i := 1038) (by decide +kernel)) (by decide +kernel)
theorem wm_40 : Cond.selects "GrownKinds$Census" ⟨"GrownKinds$Census", "addClasses", "(II)V"⟩ ⟨"GrownKinds$Census", "addClasses", "(II)V"⟩ ∈ gT := gT_in (List.mem_of_getElem? (i := 40) (by decide +kernel)) (by decide +kernel)
theorem wm_1039 : (Jvm.Cond.code ({ cls := "GrownKinds$Census", name := "addClasses", desc := "(II)V" } : Jvm.MethodName) prog_2_method_28_code (7 : Nat) (Option.none : Option Jvm.ClassFile.FieldType)) ∈ gT := gT_in (List.mem_of_getElem? (i := 1039) (by decide +kernel)) (by decide +kernel)
theorem dX0_addClasses_0 : decode cX0_addClasses 0 = .ok (.iconst 0, 1) := by decide +kernel
theorem dX0_addClasses_1 : decode cX0_addClasses 1 = .ok (.istore_n 3, 1) := by decide +kernel
theorem dX0_addClasses_2 : decode cX0_addClasses 2 = .ok (.iload_n 2, 1) := by decide +kernel
theorem dX0_addClasses_3 : decode cX0_addClasses 3 = .ok (.ifCond .le 127, 3) := by decide +kernel
theorem dX0_addClasses_6 : decode cX0_addClasses 6 = .ok (.iload_n 3, 1) := by decide +kernel
theorem dX0_addClasses_7 : decode cX0_addClasses 7 = .ok (.aload_n 0, 1) := by decide +kernel
theorem dX0_addClasses_8 : decode cX0_addClasses 8 = .ok (.iload_n 2, 1) := by decide +kernel
theorem dX0_addClasses_9 : decode cX0_addClasses 9 = .ok (.invokevirtual 108, 3) := by decide +kernel
theorem dX0_addClasses_12 : decode cX0_addClasses 12 = .ok (.if_icmp .gt 118, 3) := by decide +kernel
theorem dX0_addClasses_15 : decode cX0_addClasses 15 = .ok (.aload_n 0, 1) := by decide +kernel
theorem dX0_addClasses_16 : decode cX0_addClasses 16 = .ok (.iload_n 1, 1) := by decide +kernel
theorem dX0_addClasses_17 : decode cX0_addClasses 17 = .ok (.iconst 1, 1) := by decide +kernel
theorem dX0_addClasses_18 : decode cX0_addClasses 18 = .ok (.iload_n 2, 1) := by decide +kernel
theorem dX0_addClasses_19 : decode cX0_addClasses 19 = .ok (.iload_n 3, 1) := by decide +kernel
theorem dX0_addClasses_20 : decode cX0_addClasses 20 = .ok (.invokevirtual 101, 3) := by decide +kernel
theorem dX0_addClasses_23 : decode cX0_addClasses 23 = .ok (.lstore 4, 2) := by decide +kernel
theorem dX0_addClasses_25 : decode cX0_addClasses 25 = .ok (.lload 4, 2) := by decide +kernel
theorem dX0_addClasses_27 : decode cX0_addClasses 27 = .ok (.lconst 0, 1) := by decide +kernel
theorem dX0_addClasses_28 : decode cX0_addClasses 28 = .ok (.lcmp, 1) := by decide +kernel
theorem dX0_addClasses_29 : decode cX0_addClasses 29 = .ok (.ifCond .le 95, 3) := by decide +kernel
theorem dX0_addClasses_124 : decode cX0_addClasses 124 = .ok (.iinc 3 1, 3) := by decide +kernel
theorem dX0_addClasses_127 : decode cX0_addClasses 127 = .ok (.goto (-125), 3) := by decide +kernel
theorem dX0_addClasses_32 : decode cX0_addClasses 32 = .ok (.iconst 1, 1) := by decide +kernel
theorem dX0_addClasses_33 : decode cX0_addClasses 33 = .ok (.istore 6, 2) := by decide +kernel
theorem dX0_addClasses_35 : decode cX0_addClasses 35 = .ok (.iload 6, 2) := by decide +kernel
theorem dX0_addClasses_37 : decode cX0_addClasses 37 = .ok (.bipush 8, 2) := by decide +kernel
theorem dX0_addClasses_39 : decode cX0_addClasses 39 = .ok (.if_icmp .ge 55, 3) := by decide +kernel
theorem dX0_addClasses_42 : decode cX0_addClasses 42 = .ok (.iload 6, 2) := by decide +kernel
theorem dX0_addClasses_44 : decode cX0_addClasses 44 = .ok (.iload_n 2, 1) := by decide +kernel
theorem dX0_addClasses_45 : decode cX0_addClasses 45 = .ok (.imul, 1) := by decide +kernel
theorem dX0_addClasses_46 : decode cX0_addClasses 46 = .ok (.aload_n 0, 1) := by decide +kernel
theorem dX0_addClasses_47 : decode cX0_addClasses 47 = .ok (.getfield 31, 3) := by decide +kernel
theorem dX0_addClasses_50 : decode cX0_addClasses 50 = .ok (.getfield 43, 3) := by decide +kernel
theorem dX0_addClasses_53 : decode cX0_addClasses 53 = .ok (.if_icmp .gt 41, 3) := by decide +kernel
theorem dX0_addClasses_56 : decode cX0_addClasses 56 = .ok (.aload_n 0, 1) := by decide +kernel
theorem dX0_addClasses_57 : decode cX0_addClasses 57 = .ok (.getfield 28, 3) := by decide +kernel
theorem dX0_addClasses_60 : decode cX0_addClasses 60 = .ok (.iload 6, 2) := by decide +kernel
theorem dX0_addClasses_62 : decode cX0_addClasses 62 = .ok (.lload 4, 2) := by decide +kernel
theorem dX0_addClasses_64 : decode cX0_addClasses 64 = .ok (.iload 6, 2) := by decide +kernel
theorem dX0_addClasses_66 : decode cX0_addClasses 66 = .ok (.aload_n 0, 1) := by decide +kernel
theorem dX0_addClasses_67 : decode cX0_addClasses 67 = .ok (.getfield 31, 3) := by decide +kernel
theorem dX0_addClasses_70 : decode cX0_addClasses 70 = .ok (.getfield 115, 3) := by decide +kernel
theorem dX0_addClasses_73 : decode cX0_addClasses 73 = .ok (.iload_n 1, 1) := by decide +kernel
theorem dX0_addClasses_74 : decode cX0_addClasses 74 = .ok (.iaload, 1) := by decide +kernel
theorem dX0_addClasses_75 : decode cX0_addClasses 75 = .ok (.iconst 5, 1) := by decide +kernel
theorem dX0_addClasses_76 : decode cX0_addClasses 76 = .ok (.if_icmp .ne 7, 3) := by decide +kernel
theorem dX0_addClasses_83 : decode cX0_addClasses 83 = .ok (.iconst 0, 1) := by decide +kernel
theorem dX0_addClasses_84 : decode cX0_addClasses 84 = .ok (.invokestatic 181, 3) := by decide +kernel
theorem wm_1045 : (Jvm.Cond.static ({ cls := "GrownKinds", name := "picks", desc := "(JIZ)J" } : Jvm.MethodName)) ∈ gT := gT_in (List.mem_of_getElem? (i := 1045) (by decide +kernel)) (by decide +kernel)
theorem wm_1046 : (Jvm.Cond.code ({ cls := "GrownKinds", name := "picks", desc := "(JIZ)J" } : Jvm.MethodName) prog_1_method_64_code (9 : Nat) (Option.some Jvm.ClassFile.FieldType.long)) ∈ gT := gT_in (List.mem_of_getElem? (i := 1046) (by decide +kernel)) (by decide +kernel)
theorem dX11_picks_0 : decode cX11_picks 0 = .ok (.lconst 1, 1) := by decide +kernel
theorem dX11_picks_1 : decode cX11_picks 1 = .ok (.lstore 4, 2) := by decide +kernel
theorem dX11_picks_3 : decode cX11_picks 3 = .ok (.iconst 1, 1) := by decide +kernel
theorem dX11_picks_4 : decode cX11_picks 4 = .ok (.istore 6, 2) := by decide +kernel
theorem dX11_picks_6 : decode cX11_picks 6 = .ok (.iload 6, 2) := by decide +kernel
theorem dX11_picks_8 : decode cX11_picks 8 = .ok (.iload_n 2, 1) := by decide +kernel
theorem dX11_picks_9 : decode cX11_picks 9 = .ok (.if_icmp .gt 68, 3) := by decide +kernel
theorem dX11_picks_12 : decode cX11_picks 12 = .ok (.iload_n 3, 1) := by decide +kernel
theorem dX11_picks_13 : decode cX11_picks 13 = .ok (.ifCond .eq 13, 3) := by decide +kernel
theorem dX11_picks_26 : decode cX11_picks 26 = .ok (.lload_n 0, 1) := by decide +kernel
theorem dX11_picks_27 : decode cX11_picks 27 = .ok (.iload 6, 2) := by decide +kernel
theorem dX11_picks_29 : decode cX11_picks 29 = .ok (.i2l, 1) := by decide +kernel
theorem dX11_picks_30 : decode cX11_picks 30 = .ok (.ladd, 1) := by decide +kernel
theorem dX11_picks_31 : decode cX11_picks 31 = .ok (.lconst 1, 1) := by decide +kernel
theorem dX11_picks_32 : decode cX11_picks 32 = .ok (.lsub, 1) := by decide +kernel
theorem dX11_picks_16 : decode cX11_picks 16 = .ok (.lload_n 0, 1) := by decide +kernel
theorem dX11_picks_17 : decode cX11_picks 17 = .ok (.iload 6, 2) := by decide +kernel
theorem dX11_picks_19 : decode cX11_picks 19 = .ok (.i2l, 1) := by decide +kernel
theorem dX11_picks_20 : decode cX11_picks 20 = .ok (.lsub, 1) := by decide +kernel
theorem dX11_picks_21 : decode cX11_picks 21 = .ok (.lconst 1, 1) := by decide +kernel
theorem dX11_picks_22 : decode cX11_picks 22 = .ok (.ladd, 1) := by decide +kernel
theorem dX11_picks_23 : decode cX11_picks 23 = .ok (.goto 10, 3) := by decide +kernel
theorem dX11_picks_33 : decode cX11_picks 33 = .ok (.lstore 7, 2) := by decide +kernel
theorem dX11_picks_35 : decode cX11_picks 35 = .ok (.lload 7, 2) := by decide +kernel
theorem dX11_picks_37 : decode cX11_picks 37 = .ok (.lconst 0, 1) := by decide +kernel
theorem dX11_picks_38 : decode cX11_picks 38 = .ok (.lcmp, 1) := by decide +kernel
theorem dX11_picks_39 : decode cX11_picks 39 = .ok (.ifCond .gt 5, 3) := by decide +kernel
theorem dX11_picks_44 : decode cX11_picks 44 = .ok (.lload 4, 2) := by decide +kernel
theorem dX11_picks_46 : decode cX11_picks 46 = .ok (.ldc2_w 378, 3) := by decide +kernel
theorem dX11_picks_49 : decode cX11_picks 49 = .ok (.lload 7, 2) := by decide +kernel
theorem dX11_picks_51 : decode cX11_picks 51 = .ok (.ldiv, 1) := by decide +kernel
theorem dX11_picks_52 : decode cX11_picks 52 = .ok (.lcmp, 1) := by decide +kernel
theorem dX11_picks_53 : decode cX11_picks 53 = .ok (.ifCond .le 7, 3) := by decide +kernel
theorem dX11_picks_60 : decode cX11_picks 60 = .ok (.lload 4, 2) := by decide +kernel
theorem dX11_picks_62 : decode cX11_picks 62 = .ok (.lload 7, 2) := by decide +kernel
theorem dX11_picks_64 : decode cX11_picks 64 = .ok (.lmul, 1) := by decide +kernel
theorem dX11_picks_65 : decode cX11_picks 65 = .ok (.iload 6, 2) := by decide +kernel
theorem dX11_picks_67 : decode cX11_picks 67 = .ok (.i2l, 1) := by decide +kernel
theorem dX11_picks_68 : decode cX11_picks 68 = .ok (.ldiv, 1) := by decide +kernel
theorem dX11_picks_69 : decode cX11_picks 69 = .ok (.lstore 4, 2) := by decide +kernel
theorem dX11_picks_71 : decode cX11_picks 71 = .ok (.iinc 6 1, 3) := by decide +kernel
theorem dX11_picks_74 : decode cX11_picks 74 = .ok (.goto (-68), 3) := by decide +kernel
theorem dX11_picks_42 : decode cX11_picks 42 = .ok (.lconst 0, 1) := by decide +kernel
theorem dX11_picks_43 : decode cX11_picks 43 = .ok (.lreturn, 1) := by decide +kernel
theorem dX11_picks_56 : decode cX11_picks 56 = .ok (.ldc2_w 378, 3) := by decide +kernel
theorem dX11_picks_59 : decode cX11_picks 59 = .ok (.lreturn, 1) := by decide +kernel
theorem dX11_picks_77 : decode cX11_picks 77 = .ok (.lload 4, 2) := by decide +kernel
theorem dX11_picks_79 : decode cX11_picks 79 = .ok (.lreturn, 1) := by decide +kernel
theorem dX0_addClasses_87 : decode cX0_addClasses 87 = .ok (.lastore, 1) := by decide +kernel
theorem dX0_addClasses_88 : decode cX0_addClasses 88 = .ok (.iinc 6 1, 3) := by decide +kernel
theorem dX0_addClasses_91 : decode cX0_addClasses 91 = .ok (.goto (-56), 3) := by decide +kernel
theorem dX0_addClasses_79 : decode cX0_addClasses 79 = .ok (.iconst 1, 1) := by decide +kernel
theorem dX0_addClasses_80 : decode cX0_addClasses 80 = .ok (.goto 4, 3) := by decide +kernel
theorem dX0_addClasses_94 : decode cX0_addClasses 94 = .ok (.aload_n 0, 1) := by decide +kernel
theorem dX0_addClasses_95 : decode cX0_addClasses 95 = .ok (.getfield 31, 3) := by decide +kernel
theorem dX0_addClasses_98 : decode cX0_addClasses 98 = .ok (.getfield 43, 3) := by decide +kernel
theorem dX0_addClasses_101 : decode cX0_addClasses 101 = .ok (.istore 6, 2) := by decide +kernel
theorem dX0_addClasses_103 : decode cX0_addClasses 103 = .ok (.iload 6, 2) := by decide +kernel
theorem dX0_addClasses_105 : decode cX0_addClasses 105 = .ok (.iload_n 2, 1) := by decide +kernel
theorem dX0_addClasses_106 : decode cX0_addClasses 106 = .ok (.if_icmp .lt 18, 3) := by decide +kernel
theorem dX0_addClasses_109 : decode cX0_addClasses 109 = .ok (.aload_n 0, 1) := by decide +kernel
theorem dX0_addClasses_110 : decode cX0_addClasses 110 = .ok (.iload_n 1, 1) := by decide +kernel
theorem dX0_addClasses_111 : decode cX0_addClasses 111 = .ok (.iload 6, 2) := by decide +kernel
theorem dX0_addClasses_113 : decode cX0_addClasses 113 = .ok (.iload_n 2, 1) := by decide +kernel
theorem dX0_addClasses_114 : decode cX0_addClasses 114 = .ok (.iload_n 3, 1) := by decide +kernel
theorem dX0_addClasses_115 : decode cX0_addClasses 115 = .ok (.invokevirtual 185, 3) := by decide +kernel
theorem wm_1047 : (Jvm.Cond.methodLink "GrownKinds$Census" (185 : Nat) ({ cls := "GrownKinds$Census", name := "addClass", desc := "(IIII)V" } : Jvm.MethodName)) ∈ gT := gT_in (List.mem_of_getElem? (i := 1047) (by decide +kernel)) (by decide +kernel)
theorem wm_1049 : (Jvm.Cond.instanceMethod ({ cls := "GrownKinds$Census", name := "addClass", desc := "(IIII)V" } : Jvm.MethodName)) ∈ gT := gT_in (List.mem_of_getElem? (i := 1049) (by decide +kernel)) (by decide +kernel)
theorem wm_42 : Cond.selects "GrownKinds$Census" ⟨"GrownKinds$Census", "addClass", "(IIII)V"⟩ ⟨"GrownKinds$Census", "addClass", "(IIII)V"⟩ ∈ gT := gT_in (List.mem_of_getElem? (i := 42) (by decide +kernel)) (by decide +kernel)
theorem wm_1050 : (Jvm.Cond.code ({ cls := "GrownKinds$Census", name := "addClass", desc := "(IIII)V" } : Jvm.MethodName) prog_2_method_31_code (12 : Nat) (Option.none : Option Jvm.ClassFile.FieldType)) ∈ gT := gT_in (List.mem_of_getElem? (i := 1050) (by decide +kernel)) (by decide +kernel)
theorem dX0_addClass_0 : decode cX0_addClass 0 = .ok (.iload_n 1, 1) := by decide +kernel
theorem dX0_addClass_1 : decode cX0_addClass 1 = .ok (.sipush 512, 3) := by decide +kernel
theorem dX0_addClass_4 : decode cX0_addClass 4 = .ok (.imul, 1) := by decide +kernel
theorem dX0_addClass_5 : decode cX0_addClass 5 = .ok (.istore 5, 2) := by decide +kernel
theorem dX0_addClass_7 : decode cX0_addClass 7 = .ok (.iload_n 2, 1) := by decide +kernel
theorem dX0_addClass_8 : decode cX0_addClass 8 = .ok (.aload_n 0, 1) := by decide +kernel
theorem dX0_addClass_9 : decode cX0_addClass 9 = .ok (.iload_n 1, 1) := by decide +kernel
theorem dX0_addClass_10 : decode cX0_addClass 10 = .ok (.invokevirtual 176, 3) := by decide +kernel
theorem dX0_addClass_13 : decode cX0_addClass 13 = .ok (.invokestatic 179, 3) := by decide +kernel
theorem dX0_addClass_16 : decode cX0_addClass 16 = .ok (.istore 6, 2) := by decide +kernel
theorem dX0_addClass_18 : decode cX0_addClass 18 = .ok (.iload 6, 2) := by decide +kernel
theorem dX0_addClass_20 : decode cX0_addClass 20 = .ok (.iconst 1, 1) := by decide +kernel
theorem dX0_addClass_21 : decode cX0_addClass 21 = .ok (.if_icmp .lt 145, 3) := by decide +kernel
theorem dX0_addClass_24 : decode cX0_addClass 24 = .ok (.aload_n 0, 1) := by decide +kernel
theorem dX0_addClass_25 : decode cX0_addClass 25 = .ok (.iload_n 2, 1) := by decide +kernel
theorem dX0_addClass_26 : decode cX0_addClass 26 = .ok (.invokevirtual 108, 3) := by decide +kernel
theorem dX0_addClass_29 : decode cX0_addClass 29 = .ok (.istore 7, 2) := by decide +kernel
theorem dX0_addClass_31 : decode cX0_addClass 31 = .ok (.iload 7, 2) := by decide +kernel
theorem dX0_addClass_33 : decode cX0_addClass 33 = .ok (.ifCond .lt 127, 3) := by decide +kernel
theorem dX0_addClass_36 : decode cX0_addClass 36 = .ok (.iload 5, 2) := by decide +kernel
theorem dX0_addClass_38 : decode cX0_addClass 38 = .ok (.iload 6, 2) := by decide +kernel
theorem dX0_addClass_40 : decode cX0_addClass 40 = .ok (.bipush 64, 2) := by decide +kernel
theorem dX0_addClass_42 : decode cX0_addClass 42 = .ok (.imul, 1) := by decide +kernel
theorem dX0_addClass_43 : decode cX0_addClass 43 = .ok (.iadd, 1) := by decide +kernel
theorem dX0_addClass_44 : decode cX0_addClass 44 = .ok (.iload_n 2, 1) := by decide +kernel
theorem dX0_addClass_45 : decode cX0_addClass 45 = .ok (.bipush 8, 2) := by decide +kernel
theorem dX0_addClass_47 : decode cX0_addClass 47 = .ok (.imul, 1) := by decide +kernel
theorem dX0_addClass_48 : decode cX0_addClass 48 = .ok (.iadd, 1) := by decide +kernel
theorem dX0_addClass_49 : decode cX0_addClass 49 = .ok (.iload 7, 2) := by decide +kernel
theorem dX0_addClass_51 : decode cX0_addClass 51 = .ok (.iadd, 1) := by decide +kernel
theorem dX0_addClass_52 : decode cX0_addClass 52 = .ok (.istore 8, 2) := by decide +kernel
theorem dX0_addClass_54 : decode cX0_addClass 54 = .ok (.iconst 1, 1) := by decide +kernel
theorem dX0_addClass_55 : decode cX0_addClass 55 = .ok (.istore 9, 2) := by decide +kernel
theorem dX0_addClass_57 : decode cX0_addClass 57 = .ok (.iload 9, 2) := by decide +kernel
theorem dX0_addClass_59 : decode cX0_addClass 59 = .ok (.iload 6, 2) := by decide +kernel
theorem dX0_addClass_61 : decode cX0_addClass 61 = .ok (.if_icmp .gt 93, 3) := by decide +kernel
theorem dX0_addClass_64 : decode cX0_addClass 64 = .ok (.iload 9, 2) := by decide +kernel
theorem dX0_addClass_66 : decode cX0_addClass 66 = .ok (.iload_n 3, 1) := by decide +kernel
theorem dX0_addClass_67 : decode cX0_addClass 67 = .ok (.imul, 1) := by decide +kernel
theorem dX0_addClass_68 : decode cX0_addClass 68 = .ok (.iload_n 2, 1) := by decide +kernel
theorem dX0_addClass_69 : decode cX0_addClass 69 = .ok (.if_icmp .gt 85, 3) := by decide +kernel
theorem dX0_addClass_72 : decode cX0_addClass 72 = .ok (.iload 9, 2) := by decide +kernel
theorem dX0_addClass_74 : decode cX0_addClass 74 = .ok (.iload 4, 2) := by decide +kernel
theorem dX0_addClass_76 : decode cX0_addClass 76 = .ok (.imul, 1) := by decide +kernel
theorem dX0_addClass_77 : decode cX0_addClass 77 = .ok (.iload 7, 2) := by decide +kernel
theorem dX0_addClass_79 : decode cX0_addClass 79 = .ok (.if_icmp .gt 75, 3) := by decide +kernel
theorem dX0_addClass_82 : decode cX0_addClass 82 = .ok (.aload_n 0, 1) := by decide +kernel
theorem dX0_addClass_83 : decode cX0_addClass 83 = .ok (.getfield 25, 3) := by decide +kernel
theorem dX0_addClass_86 : decode cX0_addClass 86 = .ok (.iload 5, 2) := by decide +kernel
theorem dX0_addClass_88 : decode cX0_addClass 88 = .ok (.iload 6, 2) := by decide +kernel
theorem dX0_addClass_90 : decode cX0_addClass 90 = .ok (.iload 9, 2) := by decide +kernel
theorem dX0_addClass_92 : decode cX0_addClass 92 = .ok (.isub, 1) := by decide +kernel
theorem dX0_addClass_93 : decode cX0_addClass 93 = .ok (.bipush 64, 2) := by decide +kernel
theorem dX0_addClass_95 : decode cX0_addClass 95 = .ok (.imul, 1) := by decide +kernel
theorem dX0_addClass_96 : decode cX0_addClass 96 = .ok (.iadd, 1) := by decide +kernel
theorem dX0_addClass_97 : decode cX0_addClass 97 = .ok (.iload_n 2, 1) := by decide +kernel
theorem dX0_addClass_98 : decode cX0_addClass 98 = .ok (.iload 9, 2) := by decide +kernel
theorem dX0_addClass_100 : decode cX0_addClass 100 = .ok (.iload_n 3, 1) := by decide +kernel
theorem dX0_addClass_101 : decode cX0_addClass 101 = .ok (.imul, 1) := by decide +kernel
theorem dX0_addClass_102 : decode cX0_addClass 102 = .ok (.isub, 1) := by decide +kernel
theorem dX0_addClass_103 : decode cX0_addClass 103 = .ok (.bipush 8, 2) := by decide +kernel
theorem dX0_addClass_105 : decode cX0_addClass 105 = .ok (.imul, 1) := by decide +kernel
theorem dX0_addClass_106 : decode cX0_addClass 106 = .ok (.iadd, 1) := by decide +kernel
theorem dX0_addClass_107 : decode cX0_addClass 107 = .ok (.iload 7, 2) := by decide +kernel
theorem dX0_addClass_109 : decode cX0_addClass 109 = .ok (.iadd, 1) := by decide +kernel
theorem dX0_addClass_110 : decode cX0_addClass 110 = .ok (.iload 9, 2) := by decide +kernel
theorem dX0_addClass_112 : decode cX0_addClass 112 = .ok (.iload 4, 2) := by decide +kernel
theorem dX0_addClass_114 : decode cX0_addClass 114 = .ok (.imul, 1) := by decide +kernel
theorem dX0_addClass_115 : decode cX0_addClass 115 = .ok (.isub, 1) := by decide +kernel
theorem dX0_addClass_116 : decode cX0_addClass 116 = .ok (.laload, 1) := by decide +kernel
theorem dX0_addClass_117 : decode cX0_addClass 117 = .ok (.lstore 10, 2) := by decide +kernel
theorem dX0_addClass_119 : decode cX0_addClass 119 = .ok (.aload_n 0, 1) := by decide +kernel
theorem dX0_addClass_120 : decode cX0_addClass 120 = .ok (.getfield 25, 3) := by decide +kernel
theorem dX0_addClass_123 : decode cX0_addClass 123 = .ok (.iload 8, 2) := by decide +kernel
theorem dX0_addClass_125 : decode cX0_addClass 125 = .ok (.aload_n 0, 1) := by decide +kernel
theorem dX0_addClass_126 : decode cX0_addClass 126 = .ok (.getfield 25, 3) := by decide +kernel
theorem dX0_addClass_129 : decode cX0_addClass 129 = .ok (.iload 8, 2) := by decide +kernel
theorem dX0_addClass_131 : decode cX0_addClass 131 = .ok (.laload, 1) := by decide +kernel
theorem dX0_addClass_132 : decode cX0_addClass 132 = .ok (.aload_n 0, 1) := by decide +kernel
theorem dX0_addClass_133 : decode cX0_addClass 133 = .ok (.getfield 28, 3) := by decide +kernel
theorem dX0_addClass_136 : decode cX0_addClass 136 = .ok (.iload 9, 2) := by decide +kernel
theorem dX0_addClass_138 : decode cX0_addClass 138 = .ok (.laload, 1) := by decide +kernel
theorem dX0_addClass_139 : decode cX0_addClass 139 = .ok (.lload 10, 2) := by decide +kernel
theorem dX0_addClass_141 : decode cX0_addClass 141 = .ok (.invokestatic 142, 3) := by decide +kernel
theorem dX0_addClass_144 : decode cX0_addClass 144 = .ok (.invokestatic 105, 3) := by decide +kernel
theorem dX0_addClass_147 : decode cX0_addClass 147 = .ok (.lastore, 1) := by decide +kernel
theorem dX0_addClass_148 : decode cX0_addClass 148 = .ok (.iinc 9 1, 3) := by decide +kernel
theorem dX0_addClass_151 : decode cX0_addClass 151 = .ok (.goto (-94), 3) := by decide +kernel
theorem dX0_addClass_154 : decode cX0_addClass 154 = .ok (.iinc 7 (-1), 3) := by decide +kernel
theorem dX0_addClass_157 : decode cX0_addClass 157 = .ok (.goto (-126), 3) := by decide +kernel
theorem dX0_addClass_160 : decode cX0_addClass 160 = .ok (.iinc 6 (-1), 3) := by decide +kernel
theorem dX0_addClass_163 : decode cX0_addClass 163 = .ok (.goto (-145), 3) := by decide +kernel
theorem dX0_addClass_166 : decode cX0_addClass 166 = .ok (.return_, 1) := by decide +kernel
theorem dX0_addClasses_118 : decode cX0_addClasses 118 = .ok (.iinc 6 (-1), 3) := by decide +kernel
theorem dX0_addClasses_121 : decode cX0_addClasses 121 = .ok (.goto (-18), 3) := by decide +kernel
theorem dX0_addClasses_130 : decode cX0_addClasses 130 = .ok (.aload_n 0, 1) := by decide +kernel
theorem dX0_addClasses_131 : decode cX0_addClasses 131 = .ok (.iload_n 1, 1) := by decide +kernel
theorem dX0_addClasses_132 : decode cX0_addClasses 132 = .ok (.iload_n 2, 1) := by decide +kernel
theorem dX0_addClasses_133 : decode cX0_addClasses 133 = .ok (.invokevirtual 149, 3) := by decide +kernel
theorem wm_1024 : (Jvm.Cond.methodLink "GrownKinds$Census" (149 : Nat) ({ cls := "GrownKinds$Census", name := "keepStage", desc := "(II)V" } : Jvm.MethodName)) ∈ gT := gT_in (List.mem_of_getElem? (i := 1024) (by decide +kernel)) (by decide +kernel)
theorem wm_1026 : (Jvm.Cond.instanceMethod ({ cls := "GrownKinds$Census", name := "keepStage", desc := "(II)V" } : Jvm.MethodName)) ∈ gT := gT_in (List.mem_of_getElem? (i := 1026) (by decide +kernel)) (by decide +kernel)
theorem wm_37 : Cond.selects "GrownKinds$Census" ⟨"GrownKinds$Census", "keepStage", "(II)V"⟩ ⟨"GrownKinds$Census", "keepStage", "(II)V"⟩ ∈ gT := gT_in (List.mem_of_getElem? (i := 37) (by decide +kernel)) (by decide +kernel)
theorem wm_1027 : (Jvm.Cond.code ({ cls := "GrownKinds$Census", name := "keepStage", desc := "(II)V" } : Jvm.MethodName) prog_2_method_29_code (10 : Nat) (Option.none : Option Jvm.ClassFile.FieldType)) ∈ gT := gT_in (List.mem_of_getElem? (i := 1027) (by decide +kernel)) (by decide +kernel)
theorem dX0_keepStage_0 : decode cX0_keepStage 0 = .ok (.aload_n 0, 1) := by decide +kernel
theorem dX0_keepStage_1 : decode cX0_keepStage 1 = .ok (.getfield 9, 3) := by decide +kernel
theorem dX0_keepStage_4 : decode cX0_keepStage 4 = .ok (.iconst (-1), 1) := by decide +kernel
theorem dX0_keepStage_5 : decode cX0_keepStage 5 = .ok (.if_icmp .ne 11, 3) := by decide +kernel
theorem dX0_keepStage_16 : decode cX0_keepStage 16 = .ok (.return_, 1) := by decide +kernel
theorem dX0_keepStage_8 : decode cX0_keepStage 8 = .ok (.aload_n 0, 1) := by decide +kernel
theorem dX0_keepStage_9 : decode cX0_keepStage 9 = .ok (.getfield 35, 3) := by decide +kernel
theorem dX0_keepStage_12 : decode cX0_keepStage 12 = .ok (.arraylength, 1) := by decide +kernel
theorem dX0_keepStage_13 : decode cX0_keepStage 13 = .ok (.ifCond .ne 4, 3) := by decide +kernel
theorem dX0_keepStage_17 : decode cX0_keepStage 17 = .ok (.iload_n 1, 1) := by decide +kernel
theorem dX0_keepStage_18 : decode cX0_keepStage 18 = .ok (.sipush 512, 3) := by decide +kernel
theorem dX0_keepStage_21 : decode cX0_keepStage 21 = .ok (.imul, 1) := by decide +kernel
theorem dX0_keepStage_22 : decode cX0_keepStage 22 = .ok (.iload_n 2, 1) := by decide +kernel
theorem dX0_keepStage_23 : decode cX0_keepStage 23 = .ok (.bipush 64, 2) := by decide +kernel
theorem dX0_keepStage_25 : decode cX0_keepStage 25 = .ok (.imul, 1) := by decide +kernel
theorem dX0_keepStage_26 : decode cX0_keepStage 26 = .ok (.iadd, 1) := by decide +kernel
theorem dX0_keepStage_27 : decode cX0_keepStage 27 = .ok (.istore_n 3, 1) := by decide +kernel
theorem dX0_keepStage_28 : decode cX0_keepStage 28 = .ok (.iconst 0, 1) := by decide +kernel
theorem dX0_keepStage_29 : decode cX0_keepStage 29 = .ok (.istore 4, 2) := by decide +kernel
theorem dX0_keepStage_31 : decode cX0_keepStage 31 = .ok (.iload 4, 2) := by decide +kernel
theorem dX0_keepStage_33 : decode cX0_keepStage 33 = .ok (.aload_n 0, 1) := by decide +kernel
theorem dX0_keepStage_34 : decode cX0_keepStage 34 = .ok (.getfield 31, 3) := by decide +kernel
theorem dX0_keepStage_37 : decode cX0_keepStage 37 = .ok (.getfield 43, 3) := by decide +kernel
theorem dX0_keepStage_40 : decode cX0_keepStage 40 = .ok (.if_icmp .gt 104, 3) := by decide +kernel
theorem dX0_keepStage_43 : decode cX0_keepStage 43 = .ok (.lconst 0, 1) := by decide +kernel
theorem dX0_keepStage_44 : decode cX0_keepStage 44 = .ok (.lstore 5, 2) := by decide +kernel
theorem dX0_keepStage_46 : decode cX0_keepStage 46 = .ok (.iconst 0, 1) := by decide +kernel
theorem dX0_keepStage_47 : decode cX0_keepStage 47 = .ok (.istore 7, 2) := by decide +kernel
theorem dX0_keepStage_49 : decode cX0_keepStage 49 = .ok (.iload 7, 2) := by decide +kernel
theorem dX0_keepStage_51 : decode cX0_keepStage 51 = .ok (.aload_n 0, 1) := by decide +kernel
theorem dX0_keepStage_52 : decode cX0_keepStage 52 = .ok (.iload_n 1, 1) := by decide +kernel
theorem dX0_keepStage_53 : decode cX0_keepStage 53 = .ok (.invokevirtual 176, 3) := by decide +kernel
theorem dX0_keepStage_56 : decode cX0_keepStage 56 = .ok (.if_icmp .gt 59, 3) := by decide +kernel
theorem dX0_keepStage_59 : decode cX0_keepStage 59 = .ok (.aload_n 0, 1) := by decide +kernel
theorem dX0_keepStage_60 : decode cX0_keepStage 60 = .ok (.getfield 25, 3) := by decide +kernel
theorem dX0_keepStage_63 : decode cX0_keepStage 63 = .ok (.iload_n 1, 1) := by decide +kernel
theorem dX0_keepStage_64 : decode cX0_keepStage 64 = .ok (.sipush 512, 3) := by decide +kernel
theorem dX0_keepStage_67 : decode cX0_keepStage 67 = .ok (.imul, 1) := by decide +kernel
theorem dX0_keepStage_68 : decode cX0_keepStage 68 = .ok (.iload 7, 2) := by decide +kernel
theorem dX0_keepStage_70 : decode cX0_keepStage 70 = .ok (.bipush 64, 2) := by decide +kernel
theorem dX0_keepStage_72 : decode cX0_keepStage 72 = .ok (.imul, 1) := by decide +kernel
theorem dX0_keepStage_73 : decode cX0_keepStage 73 = .ok (.iadd, 1) := by decide +kernel
theorem dX0_keepStage_74 : decode cX0_keepStage 74 = .ok (.iload 4, 2) := by decide +kernel
theorem dX0_keepStage_76 : decode cX0_keepStage 76 = .ok (.bipush 8, 2) := by decide +kernel
theorem dX0_keepStage_78 : decode cX0_keepStage 78 = .ok (.imul, 1) := by decide +kernel
theorem dX0_keepStage_79 : decode cX0_keepStage 79 = .ok (.iadd, 1) := by decide +kernel
theorem dX0_keepStage_80 : decode cX0_keepStage 80 = .ok (.laload, 1) := by decide +kernel
theorem dX0_keepStage_81 : decode cX0_keepStage 81 = .ok (.lstore 8, 2) := by decide +kernel
theorem dX0_keepStage_83 : decode cX0_keepStage 83 = .ok (.aload_n 0, 1) := by decide +kernel
theorem dX0_keepStage_84 : decode cX0_keepStage 84 = .ok (.getfield 35, 3) := by decide +kernel
theorem dX0_keepStage_87 : decode cX0_keepStage 87 = .ok (.iload_n 3, 1) := by decide +kernel
theorem dX0_keepStage_88 : decode cX0_keepStage 88 = .ok (.iload 7, 2) := by decide +kernel
theorem dX0_keepStage_90 : decode cX0_keepStage 90 = .ok (.bipush 8, 2) := by decide +kernel
theorem dX0_keepStage_92 : decode cX0_keepStage 92 = .ok (.imul, 1) := by decide +kernel
theorem dX0_keepStage_93 : decode cX0_keepStage 93 = .ok (.iadd, 1) := by decide +kernel
theorem dX0_keepStage_94 : decode cX0_keepStage 94 = .ok (.iload 4, 2) := by decide +kernel
theorem dX0_keepStage_96 : decode cX0_keepStage 96 = .ok (.iadd, 1) := by decide +kernel
theorem dX0_keepStage_97 : decode cX0_keepStage 97 = .ok (.lload 8, 2) := by decide +kernel
theorem dX0_keepStage_99 : decode cX0_keepStage 99 = .ok (.lastore, 1) := by decide +kernel
theorem dX0_keepStage_100 : decode cX0_keepStage 100 = .ok (.lload 5, 2) := by decide +kernel
theorem dX0_keepStage_102 : decode cX0_keepStage 102 = .ok (.lload 8, 2) := by decide +kernel
theorem dX0_keepStage_104 : decode cX0_keepStage 104 = .ok (.invokestatic 105, 3) := by decide +kernel
theorem dX0_keepStage_107 : decode cX0_keepStage 107 = .ok (.lstore 5, 2) := by decide +kernel
theorem dX0_keepStage_109 : decode cX0_keepStage 109 = .ok (.iinc 7 1, 3) := by decide +kernel
theorem dX0_keepStage_112 : decode cX0_keepStage 112 = .ok (.goto (-63), 3) := by decide +kernel
theorem dX0_keepStage_115 : decode cX0_keepStage 115 = .ok (.aload_n 0, 1) := by decide +kernel
theorem dX0_keepStage_116 : decode cX0_keepStage 116 = .ok (.getfield 31, 3) := by decide +kernel
theorem dX0_keepStage_119 : decode cX0_keepStage 119 = .ok (.getfield 98, 3) := by decide +kernel
theorem dX0_keepStage_122 : decode cX0_keepStage 122 = .ok (.iload_n 1, 1) := by decide +kernel
theorem dX0_keepStage_123 : decode cX0_keepStage 123 = .ok (.iaload, 1) := by decide +kernel
theorem dX0_keepStage_124 : decode cX0_keepStage 124 = .ok (.ifCond .ne 14, 3) := by decide +kernel
theorem dX0_keepStage_138 : decode cX0_keepStage 138 = .ok (.iinc 4 1, 3) := by decide +kernel
theorem dX0_keepStage_141 : decode cX0_keepStage 141 = .ok (.goto (-110), 3) := by decide +kernel
theorem dX0_keepStage_127 : decode cX0_keepStage 127 = .ok (.aload_n 0, 1) := by decide +kernel
theorem dX0_keepStage_128 : decode cX0_keepStage 128 = .ok (.getfield 35, 3) := by decide +kernel
theorem dX0_keepStage_131 : decode cX0_keepStage 131 = .ok (.iload_n 3, 1) := by decide +kernel
theorem dX0_keepStage_132 : decode cX0_keepStage 132 = .ok (.iload 4, 2) := by decide +kernel
theorem dX0_keepStage_134 : decode cX0_keepStage 134 = .ok (.iadd, 1) := by decide +kernel
theorem dX0_keepStage_135 : decode cX0_keepStage 135 = .ok (.lload 5, 2) := by decide +kernel
theorem dX0_keepStage_137 : decode cX0_keepStage 137 = .ok (.lastore, 1) := by decide +kernel
theorem dX0_keepStage_144 : decode cX0_keepStage 144 = .ok (.return_, 1) := by decide +kernel
theorem dX0_addClasses_136 : decode cX0_addClasses 136 = .ok (.return_, 1) := by decide +kernel
theorem dX0_countSequence_144 : decode cX0_countSequence 144 = .ok (.goto 9, 3) := by decide +kernel
theorem dX0_countSequence_134 : decode cX0_countSequence 134 = .ok (.iload_n 2, 1) := by decide +kernel
theorem dX0_countSequence_135 : decode cX0_countSequence 135 = .ok (.goto 6, 3) := by decide +kernel
theorem dX0_countSequence_153 : decode cX0_countSequence 153 = .ok (.iload 4, 2) := by decide +kernel
theorem dX0_countSequence_155 : decode cX0_countSequence 155 = .ok (.ifCond .ne 7, 3) := by decide +kernel
theorem dX0_countSequence_162 : decode cX0_countSequence 162 = .ok (.iload 4, 2) := by decide +kernel
theorem dX0_countSequence_158 : decode cX0_countSequence 158 = .ok (.iconst 1, 1) := by decide +kernel
theorem dX0_countSequence_159 : decode cX0_countSequence 159 = .ok (.goto 5, 3) := by decide +kernel
theorem dX0_countSequence_164 : decode cX0_countSequence 164 = .ok (.istore 6, 2) := by decide +kernel
theorem dX0_countSequence_166 : decode cX0_countSequence 166 = .ok (.iload 6, 2) := by decide +kernel
theorem dX0_countSequence_168 : decode cX0_countSequence 168 = .ok (.iload 4, 2) := by decide +kernel
theorem dX0_countSequence_170 : decode cX0_countSequence 170 = .ok (.ifCond .ne 7, 3) := by decide +kernel
theorem dX0_countSequence_177 : decode cX0_countSequence 177 = .ok (.iload 4, 2) := by decide +kernel
theorem dX0_countSequence_173 : decode cX0_countSequence 173 = .ok (.iload_n 2, 1) := by decide +kernel
theorem dX0_countSequence_174 : decode cX0_countSequence 174 = .ok (.goto 5, 3) := by decide +kernel
theorem dX0_countSequence_179 : decode cX0_countSequence 179 = .ok (.if_icmp .gt 59, 3) := by decide +kernel
theorem dX0_countSequence_182 : decode cX0_countSequence 182 = .ok (.iconst 0, 1) := by decide +kernel
theorem dX0_countSequence_183 : decode cX0_countSequence 183 = .ok (.istore 7, 2) := by decide +kernel
theorem dX0_countSequence_185 : decode cX0_countSequence 185 = .ok (.iload 7, 2) := by decide +kernel
theorem dX0_countSequence_187 : decode cX0_countSequence 187 = .ok (.aload_n 0, 1) := by decide +kernel
theorem dX0_countSequence_188 : decode cX0_countSequence 188 = .ok (.iload_n 2, 1) := by decide +kernel
theorem dX0_countSequence_189 : decode cX0_countSequence 189 = .ok (.invokevirtual 108, 3) := by decide +kernel
theorem dX0_countSequence_192 : decode cX0_countSequence 192 = .ok (.if_icmp .gt 40, 3) := by decide +kernel
theorem dX0_countSequence_195 : decode cX0_countSequence 195 = .ok (.aload_n 0, 1) := by decide +kernel
theorem dX0_countSequence_196 : decode cX0_countSequence 196 = .ok (.getfield 15, 3) := by decide +kernel
theorem dX0_countSequence_199 : decode cX0_countSequence 199 = .ok (.iload_n 3, 1) := by decide +kernel
theorem dX0_countSequence_200 : decode cX0_countSequence 200 = .ok (.iload 7, 2) := by decide +kernel
theorem dX0_countSequence_202 : decode cX0_countSequence 202 = .ok (.iadd, 1) := by decide +kernel
theorem dX0_countSequence_203 : decode cX0_countSequence 203 = .ok (.aload_n 0, 1) := by decide +kernel
theorem dX0_countSequence_204 : decode cX0_countSequence 204 = .ok (.getfield 15, 3) := by decide +kernel
theorem dX0_countSequence_207 : decode cX0_countSequence 207 = .ok (.iload_n 3, 1) := by decide +kernel
theorem dX0_countSequence_208 : decode cX0_countSequence 208 = .ok (.iload 7, 2) := by decide +kernel
theorem dX0_countSequence_210 : decode cX0_countSequence 210 = .ok (.iadd, 1) := by decide +kernel
theorem dX0_countSequence_211 : decode cX0_countSequence 211 = .ok (.laload, 1) := by decide +kernel
theorem dX0_countSequence_212 : decode cX0_countSequence 212 = .ok (.aload_n 0, 1) := by decide +kernel
theorem dX0_countSequence_213 : decode cX0_countSequence 213 = .ok (.iload_n 1, 1) := by decide +kernel
theorem dX0_countSequence_214 : decode cX0_countSequence 214 = .ok (.iload 6, 2) := by decide +kernel
theorem dX0_countSequence_216 : decode cX0_countSequence 216 = .ok (.iload_n 2, 1) := by decide +kernel
theorem dX0_countSequence_217 : decode cX0_countSequence 217 = .ok (.iload 7, 2) := by decide +kernel
theorem dX0_countSequence_219 : decode cX0_countSequence 219 = .ok (.invokevirtual 164, 3) := by decide +kernel
theorem wm_1065 : (Jvm.Cond.methodLink "GrownKinds$Census" (164 : Nat) ({ cls := "GrownKinds$Census", name := "sequencesOf", desc := "(IIII)J" } : Jvm.MethodName)) ∈ gT := gT_in (List.mem_of_getElem? (i := 1065) (by decide +kernel)) (by decide +kernel)
theorem wm_1067 : (Jvm.Cond.instanceMethod ({ cls := "GrownKinds$Census", name := "sequencesOf", desc := "(IIII)J" } : Jvm.MethodName)) ∈ gT := gT_in (List.mem_of_getElem? (i := 1067) (by decide +kernel)) (by decide +kernel)
theorem wm_45 : Cond.selects "GrownKinds$Census" ⟨"GrownKinds$Census", "sequencesOf", "(IIII)J"⟩ ⟨"GrownKinds$Census", "sequencesOf", "(IIII)J"⟩ ∈ gT := gT_in (List.mem_of_getElem? (i := 45) (by decide +kernel)) (by decide +kernel)
theorem wm_1068 : (Jvm.Cond.code ({ cls := "GrownKinds$Census", name := "sequencesOf", desc := "(IIII)J" } : Jvm.MethodName) prog_2_method_24_code (6 : Nat) (Option.some Jvm.ClassFile.FieldType.long)) ∈ gT := gT_in (List.mem_of_getElem? (i := 1068) (by decide +kernel)) (by decide +kernel)
theorem dX0_sequencesOf_0 : decode cX0_sequencesOf 0 = .ok (.aload_n 0, 1) := by decide +kernel
theorem dX0_sequencesOf_1 : decode cX0_sequencesOf 1 = .ok (.getfield 31, 3) := by decide +kernel
theorem dX0_sequencesOf_4 : decode cX0_sequencesOf 4 = .ok (.getfield 115, 3) := by decide +kernel
theorem dX0_sequencesOf_7 : decode cX0_sequencesOf 7 = .ok (.iload_n 1, 1) := by decide +kernel
theorem dX0_sequencesOf_8 : decode cX0_sequencesOf 8 = .ok (.iaload, 1) := by decide +kernel
theorem dX0_sequencesOf_9 : decode cX0_sequencesOf 9 = .ok (.istore 5, 2) := by decide +kernel
theorem dX0_sequencesOf_11 : decode cX0_sequencesOf 11 = .ok (.aload_n 0, 1) := by decide +kernel
theorem dX0_sequencesOf_12 : decode cX0_sequencesOf 12 = .ok (.iload_n 1, 1) := by decide +kernel
theorem dX0_sequencesOf_13 : decode cX0_sequencesOf 13 = .ok (.invokevirtual 155, 3) := by decide +kernel
theorem dX0_sequencesOf_16 : decode cX0_sequencesOf 16 = .ok (.ifCond .eq 27, 3) := by decide +kernel
theorem dX0_sequencesOf_43 : decode cX0_sequencesOf 43 = .ok (.iload 5, 2) := by decide +kernel
theorem dX0_sequencesOf_45 : decode cX0_sequencesOf 45 = .ok (.bipush 6, 2) := by decide +kernel
theorem dX0_sequencesOf_47 : decode cX0_sequencesOf 47 = .ok (.if_icmp .ne 13, 3) := by decide +kernel
theorem dX0_sequencesOf_60 : decode cX0_sequencesOf 60 = .ok (.aload_n 0, 1) := by decide +kernel
theorem dX0_sequencesOf_61 : decode cX0_sequencesOf 61 = .ok (.iload_n 1, 1) := by decide +kernel
theorem dX0_sequencesOf_62 : decode cX0_sequencesOf 62 = .ok (.iload_n 2, 1) := by decide +kernel
theorem dX0_sequencesOf_63 : decode cX0_sequencesOf 63 = .ok (.iload_n 3, 1) := by decide +kernel
theorem dX0_sequencesOf_64 : decode cX0_sequencesOf 64 = .ok (.iload 4, 2) := by decide +kernel
theorem dX0_sequencesOf_66 : decode cX0_sequencesOf 66 = .ok (.invokevirtual 101, 3) := by decide +kernel
theorem dX0_sequencesOf_69 : decode cX0_sequencesOf 69 = .ok (.iload 5, 2) := by decide +kernel
theorem dX0_sequencesOf_71 : decode cX0_sequencesOf 71 = .ok (.iconst 3, 1) := by decide +kernel
theorem dX0_sequencesOf_72 : decode cX0_sequencesOf 72 = .ok (.if_icmp .ne 7, 3) := by decide +kernel
theorem dX0_sequencesOf_79 : decode cX0_sequencesOf 79 = .ok (.getstatic 170, 3) := by decide +kernel
theorem dX0_sequencesOf_82 : decode cX0_sequencesOf 82 = .ok (.iload_n 2, 1) := by decide +kernel
theorem dX0_sequencesOf_83 : decode cX0_sequencesOf 83 = .ok (.iaload, 1) := by decide +kernel
theorem dX0_sequencesOf_84 : decode cX0_sequencesOf 84 = .ok (.i2l, 1) := by decide +kernel
theorem dX0_sequencesOf_85 : decode cX0_sequencesOf 85 = .ok (.ldiv, 1) := by decide +kernel
theorem dX0_sequencesOf_86 : decode cX0_sequencesOf 86 = .ok (.lreturn, 1) := by decide +kernel
theorem dX0_sequencesOf_75 : decode cX0_sequencesOf 75 = .ok (.iconst 1, 1) := by decide +kernel
theorem dX0_sequencesOf_76 : decode cX0_sequencesOf 76 = .ok (.goto 8, 3) := by decide +kernel
theorem dX0_sequencesOf_50 : decode cX0_sequencesOf 50 = .ok (.aload_n 0, 1) := by decide +kernel
theorem dX0_sequencesOf_51 : decode cX0_sequencesOf 51 = .ok (.iload_n 1, 1) := by decide +kernel
theorem dX0_sequencesOf_52 : decode cX0_sequencesOf 52 = .ok (.iload_n 2, 1) := by decide +kernel
theorem dX0_sequencesOf_53 : decode cX0_sequencesOf 53 = .ok (.iload_n 3, 1) := by decide +kernel
theorem dX0_sequencesOf_54 : decode cX0_sequencesOf 54 = .ok (.iload 4, 2) := by decide +kernel
theorem dX0_sequencesOf_56 : decode cX0_sequencesOf 56 = .ok (.invokevirtual 167, 3) := by decide +kernel
theorem wm_1069 : (Jvm.Cond.methodLink "GrownKinds$Census" (167 : Nat) ({ cls := "GrownKinds$Census", name := "ringsOf", desc := "(IIII)J" } : Jvm.MethodName)) ∈ gT := gT_in (List.mem_of_getElem? (i := 1069) (by decide +kernel)) (by decide +kernel)
theorem wm_1071 : (Jvm.Cond.instanceMethod ({ cls := "GrownKinds$Census", name := "ringsOf", desc := "(IIII)J" } : Jvm.MethodName)) ∈ gT := gT_in (List.mem_of_getElem? (i := 1071) (by decide +kernel)) (by decide +kernel)
theorem wm_46 : Cond.selects "GrownKinds$Census" ⟨"GrownKinds$Census", "ringsOf", "(IIII)J"⟩ ⟨"GrownKinds$Census", "ringsOf", "(IIII)J"⟩ ∈ gT := gT_in (List.mem_of_getElem? (i := 46) (by decide +kernel)) (by decide +kernel)
theorem wm_1072 : (Jvm.Cond.code ({ cls := "GrownKinds$Census", name := "ringsOf", desc := "(IIII)J" } : Jvm.MethodName) prog_2_method_25_code (8 : Nat) (Option.some Jvm.ClassFile.FieldType.long)) ∈ gT := gT_in (List.mem_of_getElem? (i := 1072) (by decide +kernel)) (by decide +kernel)
theorem dX0_ringsOf_0 : decode cX0_ringsOf 0 = .ok (.lconst 0, 1) := by decide +kernel
theorem dX0_ringsOf_1 : decode cX0_ringsOf 1 = .ok (.lstore 5, 2) := by decide +kernel
theorem dX0_ringsOf_3 : decode cX0_ringsOf 3 = .ok (.iconst 1, 1) := by decide +kernel
theorem dX0_ringsOf_4 : decode cX0_ringsOf 4 = .ok (.istore 7, 2) := by decide +kernel
theorem dX0_ringsOf_6 : decode cX0_ringsOf 6 = .ok (.iload 7, 2) := by decide +kernel
theorem dX0_ringsOf_8 : decode cX0_ringsOf 8 = .ok (.aload_n 0, 1) := by decide +kernel
theorem dX0_ringsOf_9 : decode cX0_ringsOf 9 = .ok (.getfield 9, 3) := by decide +kernel
theorem dX0_ringsOf_12 : decode cX0_ringsOf 12 = .ok (.bipush (-2), 2) := by decide +kernel
theorem dX0_ringsOf_14 : decode cX0_ringsOf 14 = .ok (.if_icmp .ne 7, 3) := by decide +kernel
theorem dX0_ringsOf_21 : decode cX0_ringsOf 21 = .ok (.iload_n 2, 1) := by decide +kernel
theorem dX0_ringsOf_17 : decode cX0_ringsOf 17 = .ok (.iconst 1, 1) := by decide +kernel
theorem dX0_ringsOf_18 : decode cX0_ringsOf 18 = .ok (.goto 4, 3) := by decide +kernel
theorem dX0_ringsOf_22 : decode cX0_ringsOf 22 = .ok (.if_icmp .gt 62, 3) := by decide +kernel
theorem dX0_ringsOf_25 : decode cX0_ringsOf 25 = .ok (.iload_n 2, 1) := by decide +kernel
theorem dX0_ringsOf_26 : decode cX0_ringsOf 26 = .ok (.iload 7, 2) := by decide +kernel
theorem dX0_ringsOf_28 : decode cX0_ringsOf 28 = .ok (.irem, 1) := by decide +kernel
theorem dX0_ringsOf_29 : decode cX0_ringsOf 29 = .ok (.ifCond .ne 49, 3) := by decide +kernel
theorem dX0_ringsOf_78 : decode cX0_ringsOf 78 = .ok (.iinc 7 1, 3) := by decide +kernel
theorem dX0_ringsOf_81 : decode cX0_ringsOf 81 = .ok (.goto (-75), 3) := by decide +kernel
theorem dX0_ringsOf_32 : decode cX0_ringsOf 32 = .ok (.iload_n 3, 1) := by decide +kernel
theorem dX0_ringsOf_33 : decode cX0_ringsOf 33 = .ok (.iload 7, 2) := by decide +kernel
theorem dX0_ringsOf_35 : decode cX0_ringsOf 35 = .ok (.irem, 1) := by decide +kernel
theorem dX0_ringsOf_36 : decode cX0_ringsOf 36 = .ok (.ifCond .ne 42, 3) := by decide +kernel
theorem dX0_ringsOf_39 : decode cX0_ringsOf 39 = .ok (.iload 4, 2) := by decide +kernel
theorem dX0_ringsOf_41 : decode cX0_ringsOf 41 = .ok (.iload 7, 2) := by decide +kernel
theorem dX0_ringsOf_43 : decode cX0_ringsOf 43 = .ok (.irem, 1) := by decide +kernel
theorem dX0_ringsOf_44 : decode cX0_ringsOf 44 = .ok (.ifCond .ne 34, 3) := by decide +kernel
theorem dX0_ringsOf_47 : decode cX0_ringsOf 47 = .ok (.lload 5, 2) := by decide +kernel
theorem dX0_ringsOf_49 : decode cX0_ringsOf 49 = .ok (.getstatic 173, 3) := by decide +kernel
theorem dX0_ringsOf_52 : decode cX0_ringsOf 52 = .ok (.iload 7, 2) := by decide +kernel
theorem dX0_ringsOf_54 : decode cX0_ringsOf 54 = .ok (.iaload, 1) := by decide +kernel
theorem dX0_ringsOf_55 : decode cX0_ringsOf 55 = .ok (.i2l, 1) := by decide +kernel
theorem dX0_ringsOf_56 : decode cX0_ringsOf 56 = .ok (.aload_n 0, 1) := by decide +kernel
theorem dX0_ringsOf_57 : decode cX0_ringsOf 57 = .ok (.iload_n 1, 1) := by decide +kernel
theorem dX0_ringsOf_58 : decode cX0_ringsOf 58 = .ok (.iload_n 2, 1) := by decide +kernel
theorem dX0_ringsOf_59 : decode cX0_ringsOf 59 = .ok (.iload 7, 2) := by decide +kernel
theorem dX0_ringsOf_61 : decode cX0_ringsOf 61 = .ok (.idiv, 1) := by decide +kernel
theorem dX0_ringsOf_62 : decode cX0_ringsOf 62 = .ok (.iload_n 3, 1) := by decide +kernel
theorem dX0_ringsOf_63 : decode cX0_ringsOf 63 = .ok (.iload 7, 2) := by decide +kernel
theorem dX0_ringsOf_65 : decode cX0_ringsOf 65 = .ok (.idiv, 1) := by decide +kernel
theorem dX0_ringsOf_66 : decode cX0_ringsOf 66 = .ok (.iload 4, 2) := by decide +kernel
theorem dX0_ringsOf_68 : decode cX0_ringsOf 68 = .ok (.iload 7, 2) := by decide +kernel
theorem dX0_ringsOf_70 : decode cX0_ringsOf 70 = .ok (.idiv, 1) := by decide +kernel
theorem dX0_ringsOf_71 : decode cX0_ringsOf 71 = .ok (.invokevirtual 101, 3) := by decide +kernel
theorem dX0_ringsOf_74 : decode cX0_ringsOf 74 = .ok (.lmul, 1) := by decide +kernel
theorem dX0_ringsOf_75 : decode cX0_ringsOf 75 = .ok (.ladd, 1) := by decide +kernel
theorem dX0_ringsOf_76 : decode cX0_ringsOf 76 = .ok (.lstore 5, 2) := by decide +kernel
theorem dX0_ringsOf_84 : decode cX0_ringsOf 84 = .ok (.iload_n 2, 1) := by decide +kernel
theorem dX0_ringsOf_85 : decode cX0_ringsOf 85 = .ok (.iconst 1, 1) := by decide +kernel
theorem dX0_ringsOf_86 : decode cX0_ringsOf 86 = .ok (.if_icmp .ge 7, 3) := by decide +kernel
theorem dX0_ringsOf_93 : decode cX0_ringsOf 93 = .ok (.lload 5, 2) := by decide +kernel
theorem dX0_ringsOf_95 : decode cX0_ringsOf 95 = .ok (.iload_n 2, 1) := by decide +kernel
theorem dX0_ringsOf_96 : decode cX0_ringsOf 96 = .ok (.i2l, 1) := by decide +kernel
theorem dX0_ringsOf_97 : decode cX0_ringsOf 97 = .ok (.ldiv, 1) := by decide +kernel
theorem dX0_ringsOf_98 : decode cX0_ringsOf 98 = .ok (.lreturn, 1) := by decide +kernel
theorem dX0_ringsOf_89 : decode cX0_ringsOf 89 = .ok (.lconst 0, 1) := by decide +kernel
theorem dX0_ringsOf_90 : decode cX0_ringsOf 90 = .ok (.goto 8, 3) := by decide +kernel
theorem dX0_sequencesOf_59 : decode cX0_sequencesOf 59 = .ok (.lreturn, 1) := by decide +kernel
theorem dX0_sequencesOf_19 : decode cX0_sequencesOf 19 = .ok (.aload_n 0, 1) := by decide +kernel
theorem dX0_sequencesOf_20 : decode cX0_sequencesOf 20 = .ok (.getfield 25, 3) := by decide +kernel
theorem dX0_sequencesOf_23 : decode cX0_sequencesOf 23 = .ok (.iload_n 1, 1) := by decide +kernel
theorem dX0_sequencesOf_24 : decode cX0_sequencesOf 24 = .ok (.sipush 512, 3) := by decide +kernel
theorem dX0_sequencesOf_27 : decode cX0_sequencesOf 27 = .ok (.imul, 1) := by decide +kernel
theorem dX0_sequencesOf_28 : decode cX0_sequencesOf 28 = .ok (.iload_n 2, 1) := by decide +kernel
theorem dX0_sequencesOf_29 : decode cX0_sequencesOf 29 = .ok (.bipush 64, 2) := by decide +kernel
theorem dX0_sequencesOf_31 : decode cX0_sequencesOf 31 = .ok (.imul, 1) := by decide +kernel
theorem dX0_sequencesOf_32 : decode cX0_sequencesOf 32 = .ok (.iadd, 1) := by decide +kernel
theorem dX0_sequencesOf_33 : decode cX0_sequencesOf 33 = .ok (.iload_n 3, 1) := by decide +kernel
theorem dX0_sequencesOf_34 : decode cX0_sequencesOf 34 = .ok (.bipush 8, 2) := by decide +kernel
theorem dX0_sequencesOf_36 : decode cX0_sequencesOf 36 = .ok (.imul, 1) := by decide +kernel
theorem dX0_sequencesOf_37 : decode cX0_sequencesOf 37 = .ok (.iadd, 1) := by decide +kernel
theorem dX0_sequencesOf_38 : decode cX0_sequencesOf 38 = .ok (.iload 4, 2) := by decide +kernel
theorem dX0_sequencesOf_40 : decode cX0_sequencesOf 40 = .ok (.iadd, 1) := by decide +kernel
theorem dX0_sequencesOf_41 : decode cX0_sequencesOf 41 = .ok (.laload, 1) := by decide +kernel
theorem dX0_sequencesOf_42 : decode cX0_sequencesOf 42 = .ok (.lreturn, 1) := by decide +kernel
theorem dX0_countSequence_222 : decode cX0_countSequence 222 = .ok (.invokestatic 105, 3) := by decide +kernel
theorem dX0_countSequence_225 : decode cX0_countSequence 225 = .ok (.lastore, 1) := by decide +kernel
theorem dX0_countSequence_226 : decode cX0_countSequence 226 = .ok (.iinc 7 1, 3) := by decide +kernel
theorem dX0_countSequence_229 : decode cX0_countSequence 229 = .ok (.goto (-44), 3) := by decide +kernel
theorem dX0_countSequence_232 : decode cX0_countSequence 232 = .ok (.iinc 6 1, 3) := by decide +kernel
theorem dX0_countSequence_235 : decode cX0_countSequence 235 = .ok (.goto (-69), 3) := by decide +kernel
theorem dX0_countSequence_238 : decode cX0_countSequence 238 = .ok (.return_, 1) := by decide +kernel
theorem dX0_countSequence_87 : decode cX0_countSequence 87 = .ok (.aload_n 0, 1) := by decide +kernel
theorem dX0_countSequence_88 : decode cX0_countSequence 88 = .ok (.aload_n 0, 1) := by decide +kernel
theorem dX0_countSequence_89 : decode cX0_countSequence 89 = .ok (.getfield 15, 3) := by decide +kernel
theorem dX0_countSequence_92 : decode cX0_countSequence 92 = .ok (.aload_n 0, 1) := by decide +kernel
theorem dX0_countSequence_93 : decode cX0_countSequence 93 = .ok (.getfield 31, 3) := by decide +kernel
theorem dX0_countSequence_96 : decode cX0_countSequence 96 = .ok (.getfield 152, 3) := by decide +kernel
theorem dX0_countSequence_99 : decode cX0_countSequence 99 = .ok (.iload_n 1, 1) := by decide +kernel
theorem dX0_countSequence_100 : decode cX0_countSequence 100 = .ok (.iaload, 1) := by decide +kernel
theorem dX0_countSequence_101 : decode cX0_countSequence 101 = .ok (.bipush 64, 2) := by decide +kernel
theorem dX0_countSequence_103 : decode cX0_countSequence 103 = .ok (.imul, 1) := by decide +kernel
theorem dX0_countSequence_104 : decode cX0_countSequence 104 = .ok (.iload_n 2, 1) := by decide +kernel
theorem dX0_countSequence_105 : decode cX0_countSequence 105 = .ok (.bipush 8, 2) := by decide +kernel
theorem dX0_countSequence_107 : decode cX0_countSequence 107 = .ok (.imul, 1) := by decide +kernel
theorem dX0_countSequence_108 : decode cX0_countSequence 108 = .ok (.iadd, 1) := by decide +kernel
theorem dX0_countSequence_109 : decode cX0_countSequence 109 = .ok (.aload_n 0, 1) := by decide +kernel
theorem dX0_countSequence_110 : decode cX0_countSequence 110 = .ok (.getfield 15, 3) := by decide +kernel
theorem dX0_countSequence_113 : decode cX0_countSequence 113 = .ok (.iload_n 3, 1) := by decide +kernel
theorem dX0_countSequence_114 : decode cX0_countSequence 114 = .ok (.iload_n 2, 1) := by decide +kernel
theorem dX0_countSequence_115 : decode cX0_countSequence 115 = .ok (.invokevirtual 118, 3) := by decide +kernel
theorem dX0_countSequence_118 : decode cX0_countSequence 118 = .ok (.return_, 1) := by decide +kernel
theorem dX0_countSequence_46 : decode cX0_countSequence 46 = .ok (.aload_n 0, 1) := by decide +kernel
theorem dX0_countSequence_47 : decode cX0_countSequence 47 = .ok (.iload_n 1, 1) := by decide +kernel
theorem dX0_countSequence_48 : decode cX0_countSequence 48 = .ok (.invokevirtual 145, 3) := by decide +kernel
theorem wm_1020 : (Jvm.Cond.methodLink "GrownKinds$Census" (145 : Nat) ({ cls := "GrownKinds$Census", name := "clearRows", desc := "(I)V" } : Jvm.MethodName)) ∈ gT := gT_in (List.mem_of_getElem? (i := 1020) (by decide +kernel)) (by decide +kernel)
theorem wm_1022 : (Jvm.Cond.instanceMethod ({ cls := "GrownKinds$Census", name := "clearRows", desc := "(I)V" } : Jvm.MethodName)) ∈ gT := gT_in (List.mem_of_getElem? (i := 1022) (by decide +kernel)) (by decide +kernel)
theorem wm_36 : Cond.selects "GrownKinds$Census" ⟨"GrownKinds$Census", "clearRows", "(I)V"⟩ ⟨"GrownKinds$Census", "clearRows", "(I)V"⟩ ∈ gT := gT_in (List.mem_of_getElem? (i := 36) (by decide +kernel)) (by decide +kernel)
theorem wm_1023 : (Jvm.Cond.code ({ cls := "GrownKinds$Census", name := "clearRows", desc := "(I)V" } : Jvm.MethodName) prog_2_method_22_code (4 : Nat) (Option.none : Option Jvm.ClassFile.FieldType)) ∈ gT := gT_in (List.mem_of_getElem? (i := 1023) (by decide +kernel)) (by decide +kernel)
theorem dX0_clearRows_0 : decode cX0_clearRows 0 = .ok (.iconst 0, 1) := by decide +kernel
theorem dX0_clearRows_1 : decode cX0_clearRows 1 = .ok (.istore_n 2, 1) := by decide +kernel
theorem dX0_clearRows_2 : decode cX0_clearRows 2 = .ok (.iload_n 2, 1) := by decide +kernel
theorem dX0_clearRows_3 : decode cX0_clearRows 3 = .ok (.bipush 8, 2) := by decide +kernel
theorem dX0_clearRows_5 : decode cX0_clearRows 5 = .ok (.if_icmp .ge 52, 3) := by decide +kernel
theorem dX0_clearRows_8 : decode cX0_clearRows 8 = .ok (.iconst 0, 1) := by decide +kernel
theorem dX0_clearRows_9 : decode cX0_clearRows 9 = .ok (.istore_n 3, 1) := by decide +kernel
theorem dX0_clearRows_10 : decode cX0_clearRows 10 = .ok (.iload_n 3, 1) := by decide +kernel
theorem dX0_clearRows_11 : decode cX0_clearRows 11 = .ok (.aload_n 0, 1) := by decide +kernel
theorem dX0_clearRows_12 : decode cX0_clearRows 12 = .ok (.getfield 31, 3) := by decide +kernel
theorem dX0_clearRows_15 : decode cX0_clearRows 15 = .ok (.getfield 43, 3) := by decide +kernel
theorem dX0_clearRows_18 : decode cX0_clearRows 18 = .ok (.if_icmp .gt 33, 3) := by decide +kernel
theorem dX0_clearRows_21 : decode cX0_clearRows 21 = .ok (.aload_n 0, 1) := by decide +kernel
theorem dX0_clearRows_22 : decode cX0_clearRows 22 = .ok (.aload_n 0, 1) := by decide +kernel
theorem dX0_clearRows_23 : decode cX0_clearRows 23 = .ok (.getfield 25, 3) := by decide +kernel
theorem dX0_clearRows_26 : decode cX0_clearRows 26 = .ok (.iload_n 1, 1) := by decide +kernel
theorem dX0_clearRows_27 : decode cX0_clearRows 27 = .ok (.sipush 512, 3) := by decide +kernel
theorem dX0_clearRows_30 : decode cX0_clearRows 30 = .ok (.imul, 1) := by decide +kernel
theorem dX0_clearRows_31 : decode cX0_clearRows 31 = .ok (.iload_n 2, 1) := by decide +kernel
theorem dX0_clearRows_32 : decode cX0_clearRows 32 = .ok (.bipush 64, 2) := by decide +kernel
theorem dX0_clearRows_34 : decode cX0_clearRows 34 = .ok (.imul, 1) := by decide +kernel
theorem dX0_clearRows_35 : decode cX0_clearRows 35 = .ok (.iadd, 1) := by decide +kernel
theorem dX0_clearRows_36 : decode cX0_clearRows 36 = .ok (.iload_n 3, 1) := by decide +kernel
theorem dX0_clearRows_37 : decode cX0_clearRows 37 = .ok (.bipush 8, 2) := by decide +kernel
theorem dX0_clearRows_39 : decode cX0_clearRows 39 = .ok (.imul, 1) := by decide +kernel
theorem dX0_clearRows_40 : decode cX0_clearRows 40 = .ok (.iadd, 1) := by decide +kernel
theorem dX0_clearRows_41 : decode cX0_clearRows 41 = .ok (.iload_n 3, 1) := by decide +kernel
theorem dX0_clearRows_42 : decode cX0_clearRows 42 = .ok (.invokevirtual 129, 3) := by decide +kernel
theorem dX0_clearRows_45 : decode cX0_clearRows 45 = .ok (.iinc 3 1, 3) := by decide +kernel
theorem dX0_clearRows_48 : decode cX0_clearRows 48 = .ok (.goto (-38), 3) := by decide +kernel
theorem dX0_clearRows_51 : decode cX0_clearRows 51 = .ok (.iinc 2 1, 3) := by decide +kernel
theorem dX0_clearRows_54 : decode cX0_clearRows 54 = .ok (.goto (-52), 3) := by decide +kernel
theorem dX0_clearRows_57 : decode cX0_clearRows 57 = .ok (.aload_n 0, 1) := by decide +kernel
theorem dX0_clearRows_58 : decode cX0_clearRows 58 = .ok (.getfield 25, 3) := by decide +kernel
theorem dX0_clearRows_61 : decode cX0_clearRows 61 = .ok (.iload_n 1, 1) := by decide +kernel
theorem dX0_clearRows_62 : decode cX0_clearRows 62 = .ok (.sipush 512, 3) := by decide +kernel
theorem dX0_clearRows_65 : decode cX0_clearRows 65 = .ok (.imul, 1) := by decide +kernel
theorem dX0_clearRows_66 : decode cX0_clearRows 66 = .ok (.lconst 1, 1) := by decide +kernel
theorem dX0_clearRows_67 : decode cX0_clearRows 67 = .ok (.lastore, 1) := by decide +kernel
theorem dX0_clearRows_68 : decode cX0_clearRows 68 = .ok (.return_, 1) := by decide +kernel
theorem dX0_countSequence_51 : decode cX0_countSequence 51 = .ok (.aload_n 0, 1) := by decide +kernel
theorem dX0_countSequence_52 : decode cX0_countSequence 52 = .ok (.iload_n 1, 1) := by decide +kernel
theorem dX0_countSequence_53 : decode cX0_countSequence 53 = .ok (.iconst 0, 1) := by decide +kernel
theorem dX0_countSequence_54 : decode cX0_countSequence 54 = .ok (.invokevirtual 149, 3) := by decide +kernel
theorem dX0_countSequence_57 : decode cX0_countSequence 57 = .ok (.aload_n 0, 1) := by decide +kernel
theorem dX0_countSequence_58 : decode cX0_countSequence 58 = .ok (.getfield 15, 3) := by decide +kernel
theorem dX0_countSequence_61 : decode cX0_countSequence 61 = .ok (.iload_n 3, 1) := by decide +kernel
theorem dX0_countSequence_62 : decode cX0_countSequence 62 = .ok (.iload 4, 2) := by decide +kernel
theorem dX0_countSequence_64 : decode cX0_countSequence 64 = .ok (.ifCond .ne 14, 3) := by decide +kernel
theorem dX0_countSequence_78 : decode cX0_countSequence 78 = .ok (.lconst 0, 1) := by decide +kernel
theorem dX0_countSequence_79 : decode cX0_countSequence 79 = .ok (.lastore, 1) := by decide +kernel
theorem dX0_countSequence_80 : decode cX0_countSequence 80 = .ok (.return_, 1) := by decide +kernel
theorem dX0_countSequence_67 : decode cX0_countSequence 67 = .ok (.iload 5, 2) := by decide +kernel
theorem dX0_countSequence_69 : decode cX0_countSequence 69 = .ok (.bipush 6, 2) := by decide +kernel
theorem dX0_countSequence_71 : decode cX0_countSequence 71 = .ok (.if_icmp .eq 7, 3) := by decide +kernel
theorem dX0_countSequence_74 : decode cX0_countSequence 74 = .ok (.lconst 1, 1) := by decide +kernel
theorem dX0_countSequence_75 : decode cX0_countSequence 75 = .ok (.goto 4, 3) := by decide +kernel
theorem dX0_countPart_102 : decode cX0_countPart 102 = .ok (.goto 65, 3) := by decide +kernel
theorem dX0_countPart_51 : decode cX0_countPart 51 = .ok (.aload_n 0, 1) := by decide +kernel
theorem dX0_countPart_52 : decode cX0_countPart 52 = .ok (.aload_n 0, 1) := by decide +kernel
theorem dX0_countPart_53 : decode cX0_countPart 53 = .ok (.getfield 22, 3) := by decide +kernel
theorem dX0_countPart_56 : decode cX0_countPart 56 = .ok (.aload_n 0, 1) := by decide +kernel
theorem dX0_countPart_57 : decode cX0_countPart 57 = .ok (.getfield 31, 3) := by decide +kernel
theorem dX0_countPart_60 : decode cX0_countPart 60 = .ok (.getfield 98, 3) := by decide +kernel
theorem dX0_countPart_63 : decode cX0_countPart 63 = .ok (.iload_n 1, 1) := by decide +kernel
theorem dX0_countPart_64 : decode cX0_countPart 64 = .ok (.iaload, 1) := by decide +kernel
theorem dX0_countPart_65 : decode cX0_countPart 65 = .ok (.bipush 64, 2) := by decide +kernel
theorem dX0_countPart_67 : decode cX0_countPart 67 = .ok (.imul, 1) := by decide +kernel
theorem dX0_countPart_68 : decode cX0_countPart 68 = .ok (.iload_n 2, 1) := by decide +kernel
theorem dX0_countPart_69 : decode cX0_countPart 69 = .ok (.bipush 8, 2) := by decide +kernel
theorem dX0_countPart_71 : decode cX0_countPart 71 = .ok (.imul, 1) := by decide +kernel
theorem dX0_countPart_72 : decode cX0_countPart 72 = .ok (.iadd, 1) := by decide +kernel
theorem dX0_countPart_73 : decode cX0_countPart 73 = .ok (.aload_n 0, 1) := by decide +kernel
theorem dX0_countPart_74 : decode cX0_countPart 74 = .ok (.getfield 15, 3) := by decide +kernel
theorem dX0_countPart_77 : decode cX0_countPart 77 = .ok (.iload_n 3, 1) := by decide +kernel
theorem dX0_countPart_78 : decode cX0_countPart 78 = .ok (.iload_n 2, 1) := by decide +kernel
theorem dX0_countPart_79 : decode cX0_countPart 79 = .ok (.invokevirtual 118, 3) := by decide +kernel
theorem dX0_countPart_82 : decode cX0_countPart 82 = .ok (.goto 85, 3) := by decide +kernel
theorem dX0_countPart_28 : decode cX0_countPart 28 = .ok (.aload_n 0, 1) := by decide +kernel
theorem dX0_countPart_29 : decode cX0_countPart 29 = .ok (.bipush 6, 2) := by decide +kernel
theorem dX0_countPart_31 : decode cX0_countPart 31 = .ok (.iload_n 1, 1) := by decide +kernel
theorem dX0_countPart_32 : decode cX0_countPart 32 = .ok (.iadd, 1) := by decide +kernel
theorem dX0_countPart_33 : decode cX0_countPart 33 = .ok (.iload_n 2, 1) := by decide +kernel
theorem dX0_countPart_34 : decode cX0_countPart 34 = .ok (.aload_n 0, 1) := by decide +kernel
theorem dX0_countPart_35 : decode cX0_countPart 35 = .ok (.getfield 15, 3) := by decide +kernel
theorem dX0_countPart_38 : decode cX0_countPart 38 = .ok (.iload_n 3, 1) := by decide +kernel
theorem dX0_countPart_39 : decode cX0_countPart 39 = .ok (.invokevirtual 53, 3) := by decide +kernel
theorem wm_986 : (Jvm.Cond.methodLink "GrownKinds$Census" (53 : Nat) ({ cls := "GrownKinds$Census", name := "sumTerms", desc := "(II[JI)V" } : Jvm.MethodName)) ∈ gT := gT_in (List.mem_of_getElem? (i := 986) (by decide +kernel)) (by decide +kernel)
theorem wm_988 : (Jvm.Cond.instanceMethod ({ cls := "GrownKinds$Census", name := "sumTerms", desc := "(II[JI)V" } : Jvm.MethodName)) ∈ gT := gT_in (List.mem_of_getElem? (i := 988) (by decide +kernel)) (by decide +kernel)
theorem wm_30 : Cond.selects "GrownKinds$Census" ⟨"GrownKinds$Census", "sumTerms", "(II[JI)V"⟩ ⟨"GrownKinds$Census", "sumTerms", "(II[JI)V"⟩ ∈ gT := gT_in (List.mem_of_getElem? (i := 30) (by decide +kernel)) (by decide +kernel)
theorem wm_989 : (Jvm.Cond.code ({ cls := "GrownKinds$Census", name := "sumTerms", desc := "(II[JI)V" } : Jvm.MethodName) prog_2_method_14_code (9 : Nat) (Option.none : Option Jvm.ClassFile.FieldType)) ∈ gT := gT_in (List.mem_of_getElem? (i := 989) (by decide +kernel)) (by decide +kernel)
theorem dX0_sumTerms_0 : decode cX0_sumTerms 0 = .ok (.iconst 0, 1) := by decide +kernel
theorem dX0_sumTerms_1 : decode cX0_sumTerms 1 = .ok (.istore 5, 2) := by decide +kernel
theorem dX0_sumTerms_3 : decode cX0_sumTerms 3 = .ok (.iload 5, 2) := by decide +kernel
theorem dX0_sumTerms_5 : decode cX0_sumTerms 5 = .ok (.aload_n 0, 1) := by decide +kernel
theorem dX0_sumTerms_6 : decode cX0_sumTerms 6 = .ok (.iload_n 2, 1) := by decide +kernel
theorem dX0_sumTerms_7 : decode cX0_sumTerms 7 = .ok (.invokevirtual 108, 3) := by decide +kernel
theorem dX0_sumTerms_10 : decode cX0_sumTerms 10 = .ok (.if_icmp .gt 90, 3) := by decide +kernel
theorem dX0_sumTerms_13 : decode cX0_sumTerms 13 = .ok (.lconst 0, 1) := by decide +kernel
theorem dX0_sumTerms_14 : decode cX0_sumTerms 14 = .ok (.lstore 6, 2) := by decide +kernel
theorem dX0_sumTerms_16 : decode cX0_sumTerms 16 = .ok (.iconst 0, 1) := by decide +kernel
theorem dX0_sumTerms_17 : decode cX0_sumTerms 17 = .ok (.istore 8, 2) := by decide +kernel
theorem dX0_sumTerms_19 : decode cX0_sumTerms 19 = .ok (.iload 8, 2) := by decide +kernel
theorem dX0_sumTerms_21 : decode cX0_sumTerms 21 = .ok (.aload_n 0, 1) := by decide +kernel
theorem dX0_sumTerms_22 : decode cX0_sumTerms 22 = .ok (.getfield 31, 3) := by decide +kernel
theorem dX0_sumTerms_25 : decode cX0_sumTerms 25 = .ok (.getfield 112, 3) := by decide +kernel
theorem wm_267 : (Jvm.Cond.fieldLink "GrownKinds$Census" (112 : Nat) "GrownKinds$Grammar" "termCount" "[I") ∈ gT := gT_in (List.mem_of_getElem? (i := 267) (by decide +kernel)) (by decide +kernel)
theorem dX0_sumTerms_28 : decode cX0_sumTerms 28 = .ok (.iload_n 1, 1) := by decide +kernel
theorem dX0_sumTerms_29 : decode cX0_sumTerms 29 = .ok (.iaload, 1) := by decide +kernel
theorem dX0_sumTerms_30 : decode cX0_sumTerms 30 = .ok (.if_icmp .ge 55, 3) := by decide +kernel
theorem dX0_sumTerms_33 : decode cX0_sumTerms 33 = .ok (.aload_n 0, 1) := by decide +kernel
theorem dX0_sumTerms_34 : decode cX0_sumTerms 34 = .ok (.getfield 31, 3) := by decide +kernel
theorem dX0_sumTerms_37 : decode cX0_sumTerms 37 = .ok (.iload_n 1, 1) := by decide +kernel
theorem dX0_sumTerms_38 : decode cX0_sumTerms 38 = .ok (.iload 8, 2) := by decide +kernel
theorem dX0_sumTerms_40 : decode cX0_sumTerms 40 = .ok (.invokevirtual 72, 3) := by decide +kernel
theorem wm_994 : (Jvm.Cond.methodLink "GrownKinds$Census" (72 : Nat) ({ cls := "GrownKinds$Grammar", name := "isOff", desc := "(II)Z" } : Jvm.MethodName)) ∈ gT := gT_in (List.mem_of_getElem? (i := 994) (by decide +kernel)) (by decide +kernel)
theorem dX0_sumTerms_43 : decode cX0_sumTerms 43 = .ok (.ifCond .ne 36, 3) := by decide +kernel
theorem dX0_sumTerms_79 : decode cX0_sumTerms 79 = .ok (.iinc 8 1, 3) := by decide +kernel
theorem dX0_sumTerms_82 : decode cX0_sumTerms 82 = .ok (.goto (-63), 3) := by decide +kernel
theorem dX0_sumTerms_46 : decode cX0_sumTerms 46 = .ok (.lload 6, 2) := by decide +kernel
theorem dX0_sumTerms_48 : decode cX0_sumTerms 48 = .ok (.aload_n 0, 1) := by decide +kernel
theorem dX0_sumTerms_49 : decode cX0_sumTerms 49 = .ok (.getfield 19, 3) := by decide +kernel
theorem dX0_sumTerms_52 : decode cX0_sumTerms 52 = .ok (.aload_n 0, 1) := by decide +kernel
theorem dX0_sumTerms_53 : decode cX0_sumTerms 53 = .ok (.getfield 31, 3) := by decide +kernel
theorem dX0_sumTerms_56 : decode cX0_sumTerms 56 = .ok (.iload_n 1, 1) := by decide +kernel
theorem dX0_sumTerms_57 : decode cX0_sumTerms 57 = .ok (.iload 8, 2) := by decide +kernel
theorem dX0_sumTerms_59 : decode cX0_sumTerms 59 = .ok (.invokevirtual 76, 3) := by decide +kernel
theorem wm_995 : (Jvm.Cond.methodLink "GrownKinds$Census" (76 : Nat) ({ cls := "GrownKinds$Grammar", name := "start", desc := "(II)I" } : Jvm.MethodName)) ∈ gT := gT_in (List.mem_of_getElem? (i := 995) (by decide +kernel)) (by decide +kernel)
theorem dX0_sumTerms_62 : decode cX0_sumTerms 62 = .ok (.bipush 64, 2) := by decide +kernel
theorem dX0_sumTerms_64 : decode cX0_sumTerms 64 = .ok (.imul, 1) := by decide +kernel
theorem dX0_sumTerms_65 : decode cX0_sumTerms 65 = .ok (.iload_n 2, 1) := by decide +kernel
theorem dX0_sumTerms_66 : decode cX0_sumTerms 66 = .ok (.bipush 8, 2) := by decide +kernel
theorem dX0_sumTerms_68 : decode cX0_sumTerms 68 = .ok (.imul, 1) := by decide +kernel
theorem dX0_sumTerms_69 : decode cX0_sumTerms 69 = .ok (.iadd, 1) := by decide +kernel
theorem dX0_sumTerms_70 : decode cX0_sumTerms 70 = .ok (.iload 5, 2) := by decide +kernel
theorem dX0_sumTerms_72 : decode cX0_sumTerms 72 = .ok (.iadd, 1) := by decide +kernel
theorem dX0_sumTerms_73 : decode cX0_sumTerms 73 = .ok (.laload, 1) := by decide +kernel
theorem dX0_sumTerms_74 : decode cX0_sumTerms 74 = .ok (.invokestatic 105, 3) := by decide +kernel
theorem dX0_sumTerms_77 : decode cX0_sumTerms 77 = .ok (.lstore 6, 2) := by decide +kernel
theorem dX0_sumTerms_85 : decode cX0_sumTerms 85 = .ok (.aload_n 3, 1) := by decide +kernel
theorem dX0_sumTerms_86 : decode cX0_sumTerms 86 = .ok (.iload 4, 2) := by decide +kernel
theorem dX0_sumTerms_88 : decode cX0_sumTerms 88 = .ok (.iload 5, 2) := by decide +kernel
theorem dX0_sumTerms_90 : decode cX0_sumTerms 90 = .ok (.iadd, 1) := by decide +kernel
theorem dX0_sumTerms_91 : decode cX0_sumTerms 91 = .ok (.lload 6, 2) := by decide +kernel
theorem dX0_sumTerms_93 : decode cX0_sumTerms 93 = .ok (.lastore, 1) := by decide +kernel
theorem dX0_sumTerms_94 : decode cX0_sumTerms 94 = .ok (.iinc 5 1, 3) := by decide +kernel
theorem dX0_sumTerms_97 : decode cX0_sumTerms 97 = .ok (.goto (-94), 3) := by decide +kernel
theorem dX0_sumTerms_100 : decode cX0_sumTerms 100 = .ok (.return_, 1) := by decide +kernel
theorem dX0_countPart_42 : decode cX0_countPart 42 = .ok (.goto 125, 3) := by decide +kernel
theorem dX0_take_139 : decode cX0_take 139 = .ok (.goto 10, 3) := by decide +kernel
theorem dX0_take_97 : decode cX0_take 97 = .ok (.aload_n 0, 1) := by decide +kernel
theorem dX0_take_98 : decode cX0_take 98 = .ok (.iload 4, 2) := by decide +kernel
theorem dX0_take_100 : decode cX0_take 100 = .ok (.iload_n 2, 1) := by decide +kernel
theorem dX0_take_101 : decode cX0_take 101 = .ok (.aload_n 0, 1) := by decide +kernel
theorem dX0_take_102 : decode cX0_take 102 = .ok (.getfield 22, 3) := by decide +kernel
theorem dX0_take_105 : decode cX0_take 105 = .ok (.iload 4, 2) := by decide +kernel
theorem dX0_take_107 : decode cX0_take 107 = .ok (.bipush 64, 2) := by decide +kernel
theorem dX0_take_109 : decode cX0_take 109 = .ok (.imul, 1) := by decide +kernel
theorem dX0_take_110 : decode cX0_take 110 = .ok (.iload_n 2, 1) := by decide +kernel
theorem dX0_take_111 : decode cX0_take 111 = .ok (.bipush 8, 2) := by decide +kernel
theorem dX0_take_113 : decode cX0_take 113 = .ok (.imul, 1) := by decide +kernel
theorem dX0_take_114 : decode cX0_take 114 = .ok (.iadd, 1) := by decide +kernel
theorem dX0_take_115 : decode cX0_take 115 = .ok (.invokevirtual 53, 3) := by decide +kernel
theorem dX0_take_118 : decode cX0_take 118 = .ok (.goto 31, 3) := by decide +kernel
theorem dX0_take_155 : decode cX0_take 155 = .ok (.iinc 2 1, 3) := by decide +kernel
theorem dX0_take_158 : decode cX0_take 158 = .ok (.goto (-112), 3) := by decide +kernel
theorem dX0_take_161 : decode cX0_take 161 = .ok (.return_, 1) := by decide +kernel
theorem dX11_settle_32 : decode cX11_settle 32 = .ok (.aload_n 0, 1) := by decide +kernel
theorem dX11_settle_33 : decode cX11_settle 33 = .ok (.getfield 60, 3) := by decide +kernel
theorem dX11_settle_36 : decode cX11_settle 36 = .ok (.invokevirtual 152, 3) := by decide +kernel
theorem wm_1081 : (Jvm.Cond.methodLink "GrownKinds" (152 : Nat) ({ cls := "GrownKinds$Ledger", name := "forget", desc := "()V" } : Jvm.MethodName)) ∈ gT := gT_in (List.mem_of_getElem? (i := 1081) (by decide +kernel)) (by decide +kernel)
theorem wm_1082 : (Jvm.Cond.instanceMethod ({ cls := "GrownKinds$Ledger", name := "forget", desc := "()V" } : Jvm.MethodName)) ∈ gT := gT_in (List.mem_of_getElem? (i := 1082) (by decide +kernel)) (by decide +kernel)
theorem wm_1083 : (Jvm.Cond.selects "GrownKinds$Ledger" ({ cls := "GrownKinds$Ledger", name := "forget", desc := "()V" } : Jvm.MethodName) ({ cls := "GrownKinds$Ledger", name := "forget", desc := "()V" } : Jvm.MethodName)) ∈ gT := gT_in (List.mem_of_getElem? (i := 1083) (by decide +kernel)) (by decide +kernel)
theorem wm_1084 : (Jvm.Cond.code ({ cls := "GrownKinds$Ledger", name := "forget", desc := "()V" } : Jvm.MethodName) prog_6_method_2_code (1 : Nat) (Option.none : Option Jvm.ClassFile.FieldType)) ∈ gT := gT_in (List.mem_of_getElem? (i := 1084) (by decide +kernel)) (by decide +kernel)
theorem dX4_forget_0 : decode cX4_forget 0 = .ok (.aload_n 0, 1) := by decide +kernel
theorem dX4_forget_1 : decode cX4_forget 1 = .ok (.iconst 0, 1) := by decide +kernel
theorem dX4_forget_2 : decode cX4_forget 2 = .ok (.putfield 9, 3) := by decide +kernel
theorem dX4_forget_5 : decode cX4_forget 5 = .ok (.aload_n 0, 1) := by decide +kernel
theorem dX4_forget_6 : decode cX4_forget 6 = .ok (.iconst 0, 1) := by decide +kernel
theorem dX4_forget_7 : decode cX4_forget 7 = .ok (.putfield 15, 3) := by decide +kernel
theorem dX4_forget_10 : decode cX4_forget 10 = .ok (.aload_n 0, 1) := by decide +kernel
theorem dX4_forget_11 : decode cX4_forget 11 = .ok (.lconst 0, 1) := by decide +kernel
theorem dX4_forget_12 : decode cX4_forget 12 = .ok (.putfield 19, 3) := by decide +kernel
theorem dX4_forget_15 : decode cX4_forget 15 = .ok (.return_, 1) := by decide +kernel
theorem dX11_settle_39 : decode cX11_settle 39 = .ok (.aload_n 0, 1) := by decide +kernel
theorem dX11_settle_40 : decode cX11_settle 40 = .ok (.getfield 88, 3) := by decide +kernel
theorem dX11_settle_43 : decode cX11_settle 43 = .ok (.invokevirtual 155, 3) := by decide +kernel
theorem wm_1085 : (Jvm.Cond.methodLink "GrownKinds" (155 : Nat) ({ cls := "GrownKinds$Roll", name := "forget", desc := "()V" } : Jvm.MethodName)) ∈ gT := gT_in (List.mem_of_getElem? (i := 1085) (by decide +kernel)) (by decide +kernel)
theorem wm_1086 : (Jvm.Cond.instanceMethod ({ cls := "GrownKinds$Roll", name := "forget", desc := "()V" } : Jvm.MethodName)) ∈ gT := gT_in (List.mem_of_getElem? (i := 1086) (by decide +kernel)) (by decide +kernel)
theorem wm_1087 : (Jvm.Cond.selects "GrownKinds$Roll" ({ cls := "GrownKinds$Roll", name := "forget", desc := "()V" } : Jvm.MethodName) ({ cls := "GrownKinds$Roll", name := "forget", desc := "()V" } : Jvm.MethodName)) ∈ gT := gT_in (List.mem_of_getElem? (i := 1087) (by decide +kernel)) (by decide +kernel)
theorem wm_1088 : (Jvm.Cond.code ({ cls := "GrownKinds$Roll", name := "forget", desc := "()V" } : Jvm.MethodName) prog_9_method_2_code (1 : Nat) (Option.none : Option Jvm.ClassFile.FieldType)) ∈ gT := gT_in (List.mem_of_getElem? (i := 1088) (by decide +kernel)) (by decide +kernel)
theorem dX7_forget_0 : decode cX7_forget 0 = .ok (.aload_n 0, 1) := by decide +kernel
theorem dX7_forget_1 : decode cX7_forget 1 = .ok (.lconst 0, 1) := by decide +kernel
theorem dX7_forget_2 : decode cX7_forget 2 = .ok (.putfield 9, 3) := by decide +kernel
theorem dX7_forget_5 : decode cX7_forget 5 = .ok (.return_, 1) := by decide +kernel
theorem dX11_settle_46 : decode cX11_settle 46 = .ok (.return_, 1) := by decide +kernel
theorem dX11_grammar_0 : decode cX11_grammar 0 = .ok (.aload_n 0, 1) := by decide +kernel
theorem dX11_grammar_1 : decode cX11_grammar 1 = .ok (.getfield 29, 3) := by decide +kernel
theorem dX11_grammar_4 : decode cX11_grammar 4 = .ok (.aload_n 0, 1) := by decide +kernel
theorem dX11_grammar_5 : decode cX11_grammar 5 = .ok (.getfield 9, 3) := by decide +kernel
theorem dX11_grammar_8 : decode cX11_grammar 8 = .ok (.aload_n 0, 1) := by decide +kernel
theorem dX11_grammar_9 : decode cX11_grammar 9 = .ok (.getfield 13, 3) := by decide +kernel
theorem dX11_grammar_12 : decode cX11_grammar 12 = .ok (.invokevirtual 124, 3) := by decide +kernel
theorem wm_739 : (Jvm.Cond.methodLink "GrownKinds" (124 : Nat) ({ cls := "GrownKinds$Reader", name := "read", desc := "([BI)I" } : Jvm.MethodName)) ∈ gT := gT_in (List.mem_of_getElem? (i := 739) (by decide +kernel)) (by decide +kernel)
theorem wm_740 : (Jvm.Cond.instanceMethod ({ cls := "GrownKinds$Reader", name := "read", desc := "([BI)I" } : Jvm.MethodName)) ∈ gT := gT_in (List.mem_of_getElem? (i := 740) (by decide +kernel)) (by decide +kernel)
theorem wm_741 : (Jvm.Cond.selects "GrownKinds$Reader" ({ cls := "GrownKinds$Reader", name := "read", desc := "([BI)I" } : Jvm.MethodName) ({ cls := "GrownKinds$Reader", name := "read", desc := "([BI)I" } : Jvm.MethodName)) ∈ gT := gT_in (List.mem_of_getElem? (i := 741) (by decide +kernel)) (by decide +kernel)
theorem wm_742 : (Jvm.Cond.code ({ cls := "GrownKinds$Reader", name := "read", desc := "([BI)I" } : Jvm.MethodName) prog_7_method_2_code (4 : Nat) (Option.some Jvm.ClassFile.FieldType.int)) ∈ gT := gT_in (List.mem_of_getElem? (i := 742) (by decide +kernel)) (by decide +kernel)
theorem dX11_grammar_15 : decode cX11_grammar 15 = .ok (.istore_n 1, 1) := by decide +kernel
theorem dX11_grammar_16 : decode cX11_grammar 16 = .ok (.aload_n 0, 1) := by decide +kernel
theorem dX11_grammar_17 : decode cX11_grammar 17 = .ok (.iconst 0, 1) := by decide +kernel
theorem dX11_grammar_18 : decode cX11_grammar 18 = .ok (.putfield 13, 3) := by decide +kernel
theorem dX11_grammar_21 : decode cX11_grammar 21 = .ok (.aload_n 0, 1) := by decide +kernel
theorem dX11_grammar_22 : decode cX11_grammar 22 = .ok (.aload_n 0, 1) := by decide +kernel
theorem dX11_grammar_23 : decode cX11_grammar 23 = .ok (.getfield 29, 3) := by decide +kernel
theorem dX11_grammar_26 : decode cX11_grammar 26 = .ok (.getfield 128, 3) := by decide +kernel
theorem wm_355 : (Jvm.Cond.fieldLink "GrownKinds" (128 : Nat) "GrownKinds$Reader" "fault" "I") ∈ gT := gT_in (List.mem_of_getElem? (i := 355) (by decide +kernel)) (by decide +kernel)
theorem dX11_grammar_29 : decode cX11_grammar 29 = .ok (.putfield 33, 3) := by decide +kernel
theorem dX11_grammar_32 : decode cX11_grammar 32 = .ok (.aload_n 0, 1) := by decide +kernel
theorem dX11_grammar_33 : decode cX11_grammar 33 = .ok (.aload_n 0, 1) := by decide +kernel
theorem dX11_grammar_34 : decode cX11_grammar 34 = .ok (.getfield 29, 3) := by decide +kernel
theorem dX11_grammar_37 : decode cX11_grammar 37 = .ok (.getfield 131, 3) := by decide +kernel
theorem wm_357 : (Jvm.Cond.fieldLink "GrownKinds" (131 : Nat) "GrownKinds$Reader" "place" "I") ∈ gT := gT_in (List.mem_of_getElem? (i := 357) (by decide +kernel)) (by decide +kernel)
theorem dX11_grammar_40 : decode cX11_grammar 40 = .ok (.putfield 36, 3) := by decide +kernel
theorem dX11_grammar_43 : decode cX11_grammar 43 = .ok (.aload_n 0, 1) := by decide +kernel
theorem dX11_grammar_44 : decode cX11_grammar 44 = .ok (.getfield 33, 3) := by decide +kernel
theorem dX11_grammar_47 : decode cX11_grammar 47 = .ok (.ifCond .eq 6, 3) := by decide +kernel
theorem dX11_grammar_53 : decode cX11_grammar 53 = .ok (.aload_n 0, 1) := by decide +kernel
theorem dX11_grammar_54 : decode cX11_grammar 54 = .ok (.getfield 20, 3) := by decide +kernel
theorem dX11_grammar_57 : decode cX11_grammar 57 = .ok (.aload_n 0, 1) := by decide +kernel
theorem dX11_grammar_58 : decode cX11_grammar 58 = .ok (.getfield 29, 3) := by decide +kernel
theorem dX11_grammar_61 : decode cX11_grammar 61 = .ok (.getfield 134, 3) := by decide +kernel
theorem wm_353 : (Jvm.Cond.fieldLink "GrownKinds" (134 : Nat) "GrownKinds$Reader" "made" "LGrownKinds$Grammar;") ∈ gT := gT_in (List.mem_of_getElem? (i := 353) (by decide +kernel)) (by decide +kernel)
theorem dX11_grammar_64 : decode cX11_grammar 64 = .ok (.invokevirtual 137, 3) := by decide +kernel
theorem wm_966 : (Jvm.Cond.methodLink "GrownKinds" (137 : Nat) ({ cls := "GrownKinds$Grammar", name := "copy", desc := "(LGrownKinds$Grammar;)V" } : Jvm.MethodName)) ∈ gT := gT_in (List.mem_of_getElem? (i := 966) (by decide +kernel)) (by decide +kernel)
theorem wm_967 : (Jvm.Cond.instanceMethod ({ cls := "GrownKinds$Grammar", name := "copy", desc := "(LGrownKinds$Grammar;)V" } : Jvm.MethodName)) ∈ gT := gT_in (List.mem_of_getElem? (i := 967) (by decide +kernel)) (by decide +kernel)
theorem wm_968 : (Jvm.Cond.selects "GrownKinds$Grammar" ({ cls := "GrownKinds$Grammar", name := "copy", desc := "(LGrownKinds$Grammar;)V" } : Jvm.MethodName) ({ cls := "GrownKinds$Grammar", name := "copy", desc := "(LGrownKinds$Grammar;)V" } : Jvm.MethodName)) ∈ gT := gT_in (List.mem_of_getElem? (i := 968) (by decide +kernel)) (by decide +kernel)
theorem wm_969 : (Jvm.Cond.code ({ cls := "GrownKinds$Grammar", name := "copy", desc := "(LGrownKinds$Grammar;)V" } : Jvm.MethodName) prog_4_method_3_code (2 : Nat) (Option.none : Option Jvm.ClassFile.FieldType)) ∈ gT := gT_in (List.mem_of_getElem? (i := 969) (by decide +kernel)) (by decide +kernel)
theorem dX2_copy_0 : decode cX2_copy 0 = .ok (.aload_n 0, 1) := by decide +kernel
theorem dX2_copy_1 : decode cX2_copy 1 = .ok (.aload_n 1, 1) := by decide +kernel
theorem dX2_copy_2 : decode cX2_copy 2 = .ok (.getfield 9, 3) := by decide +kernel
theorem dX2_copy_5 : decode cX2_copy 5 = .ok (.putfield 9, 3) := by decide +kernel
theorem dX2_copy_8 : decode cX2_copy 8 = .ok (.aload_n 0, 1) := by decide +kernel
theorem dX2_copy_9 : decode cX2_copy 9 = .ok (.aload_n 1, 1) := by decide +kernel
theorem dX2_copy_10 : decode cX2_copy 10 = .ok (.getfield 15, 3) := by decide +kernel
theorem dX2_copy_13 : decode cX2_copy 13 = .ok (.putfield 15, 3) := by decide +kernel
theorem dX2_copy_16 : decode cX2_copy 16 = .ok (.aload_n 0, 1) := by decide +kernel
theorem dX2_copy_17 : decode cX2_copy 17 = .ok (.aload_n 1, 1) := by decide +kernel
theorem dX2_copy_18 : decode cX2_copy 18 = .ok (.getfield 18, 3) := by decide +kernel
theorem dX2_copy_21 : decode cX2_copy 21 = .ok (.putfield 18, 3) := by decide +kernel
theorem dX2_copy_24 : decode cX2_copy 24 = .ok (.aload_n 0, 1) := by decide +kernel
theorem dX2_copy_25 : decode cX2_copy 25 = .ok (.aload_n 1, 1) := by decide +kernel
theorem dX2_copy_26 : decode cX2_copy 26 = .ok (.getfield 21, 3) := by decide +kernel
theorem dX2_copy_29 : decode cX2_copy 29 = .ok (.putfield 21, 3) := by decide +kernel
theorem dX2_copy_32 : decode cX2_copy 32 = .ok (.aload_n 0, 1) := by decide +kernel
theorem dX2_copy_33 : decode cX2_copy 33 = .ok (.aload_n 1, 1) := by decide +kernel
theorem dX2_copy_34 : decode cX2_copy 34 = .ok (.getfield 24, 3) := by decide +kernel
theorem dX2_copy_37 : decode cX2_copy 37 = .ok (.putfield 24, 3) := by decide +kernel
theorem dX2_copy_40 : decode cX2_copy 40 = .ok (.aload_n 1, 1) := by decide +kernel
theorem dX2_copy_41 : decode cX2_copy 41 = .ok (.getfield 27, 3) := by decide +kernel
theorem dX2_copy_44 : decode cX2_copy 44 = .ok (.iconst 0, 1) := by decide +kernel
theorem dX2_copy_45 : decode cX2_copy 45 = .ok (.aload_n 0, 1) := by decide +kernel
theorem dX2_copy_46 : decode cX2_copy 46 = .ok (.getfield 27, 3) := by decide +kernel
theorem dX2_copy_49 : decode cX2_copy 49 = .ok (.iconst 0, 1) := by decide +kernel
theorem dX2_copy_50 : decode cX2_copy 50 = .ok (.bipush 24, 2) := by decide +kernel
theorem dX2_copy_52 : decode cX2_copy 52 = .ok (.invokestatic 61, 3) := by decide +kernel
theorem wm_970 : (Jvm.Cond.methodLink "GrownKinds$Grammar" (61 : Nat) ({ cls := "java/lang/System", name := "arraycopy", desc := "(Ljava/lang/Object;ILjava/lang/Object;II)V" } : Jvm.MethodName)) ∈ gT := gT_in (List.mem_of_getElem? (i := 970) (by decide +kernel)) (by decide +kernel)
theorem wm_972 : (Jvm.Cond.native ({ cls := "java/lang/System", name := "arraycopy", desc := "(Ljava/lang/Object;ILjava/lang/Object;II)V" } : Jvm.MethodName)) ∈ gT := gT_in (List.mem_of_getElem? (i := 972) (by decide +kernel)) (by decide +kernel)
theorem wm_971 : (Jvm.Cond.static ({ cls := "java/lang/System", name := "arraycopy", desc := "(Ljava/lang/Object;ILjava/lang/Object;II)V" } : Jvm.MethodName)) ∈ gT := gT_in (List.mem_of_getElem? (i := 971) (by decide +kernel)) (by decide +kernel)
theorem wm_195 : (Jvm.Cond.initialized "java/lang/System") ∈ gT := gT_in (List.mem_of_getElem? (i := 195) (by decide +kernel)) (by decide +kernel)
theorem dX2_copy_55 : decode cX2_copy 55 = .ok (.aload_n 1, 1) := by decide +kernel
theorem dX2_copy_56 : decode cX2_copy 56 = .ok (.getfield 31, 3) := by decide +kernel
theorem dX2_copy_59 : decode cX2_copy 59 = .ok (.iconst 0, 1) := by decide +kernel
theorem dX2_copy_60 : decode cX2_copy 60 = .ok (.aload_n 0, 1) := by decide +kernel
theorem dX2_copy_61 : decode cX2_copy 61 = .ok (.getfield 31, 3) := by decide +kernel
theorem dX2_copy_64 : decode cX2_copy 64 = .ok (.iconst 0, 1) := by decide +kernel
theorem dX2_copy_65 : decode cX2_copy 65 = .ok (.bipush 24, 2) := by decide +kernel
theorem dX2_copy_67 : decode cX2_copy 67 = .ok (.invokestatic 61, 3) := by decide +kernel
theorem dX2_copy_70 : decode cX2_copy 70 = .ok (.aload_n 1, 1) := by decide +kernel
theorem dX2_copy_71 : decode cX2_copy 71 = .ok (.getfield 34, 3) := by decide +kernel
theorem dX2_copy_74 : decode cX2_copy 74 = .ok (.iconst 0, 1) := by decide +kernel
theorem dX2_copy_75 : decode cX2_copy 75 = .ok (.aload_n 0, 1) := by decide +kernel
theorem dX2_copy_76 : decode cX2_copy 76 = .ok (.getfield 34, 3) := by decide +kernel
theorem dX2_copy_79 : decode cX2_copy 79 = .ok (.iconst 0, 1) := by decide +kernel
theorem dX2_copy_80 : decode cX2_copy 80 = .ok (.bipush 24, 2) := by decide +kernel
theorem dX2_copy_82 : decode cX2_copy 82 = .ok (.invokestatic 61, 3) := by decide +kernel
theorem dX2_copy_85 : decode cX2_copy 85 = .ok (.aload_n 1, 1) := by decide +kernel
theorem dX2_copy_86 : decode cX2_copy 86 = .ok (.getfield 37, 3) := by decide +kernel
theorem dX2_copy_89 : decode cX2_copy 89 = .ok (.iconst 0, 1) := by decide +kernel
theorem dX2_copy_90 : decode cX2_copy 90 = .ok (.aload_n 0, 1) := by decide +kernel
theorem dX2_copy_91 : decode cX2_copy 91 = .ok (.getfield 37, 3) := by decide +kernel
theorem dX2_copy_94 : decode cX2_copy 94 = .ok (.iconst 0, 1) := by decide +kernel
theorem dX2_copy_95 : decode cX2_copy 95 = .ok (.bipush 24, 2) := by decide +kernel
theorem dX2_copy_97 : decode cX2_copy 97 = .ok (.invokestatic 61, 3) := by decide +kernel
theorem dX2_copy_100 : decode cX2_copy 100 = .ok (.aload_n 1, 1) := by decide +kernel
theorem dX2_copy_101 : decode cX2_copy 101 = .ok (.getfield 40, 3) := by decide +kernel
theorem dX2_copy_104 : decode cX2_copy 104 = .ok (.iconst 0, 1) := by decide +kernel
theorem dX2_copy_105 : decode cX2_copy 105 = .ok (.aload_n 0, 1) := by decide +kernel
theorem dX2_copy_106 : decode cX2_copy 106 = .ok (.getfield 40, 3) := by decide +kernel
theorem dX2_copy_109 : decode cX2_copy 109 = .ok (.iconst 0, 1) := by decide +kernel
theorem dX2_copy_110 : decode cX2_copy 110 = .ok (.bipush 24, 2) := by decide +kernel
theorem dX2_copy_112 : decode cX2_copy 112 = .ok (.invokestatic 61, 3) := by decide +kernel
theorem dX2_copy_115 : decode cX2_copy 115 = .ok (.aload_n 1, 1) := by decide +kernel
theorem dX2_copy_116 : decode cX2_copy 116 = .ok (.getfield 43, 3) := by decide +kernel
theorem dX2_copy_119 : decode cX2_copy 119 = .ok (.iconst 0, 1) := by decide +kernel
theorem dX2_copy_120 : decode cX2_copy 120 = .ok (.aload_n 0, 1) := by decide +kernel
theorem dX2_copy_121 : decode cX2_copy 121 = .ok (.getfield 43, 3) := by decide +kernel
theorem dX2_copy_124 : decode cX2_copy 124 = .ok (.iconst 0, 1) := by decide +kernel
theorem dX2_copy_125 : decode cX2_copy 125 = .ok (.bipush 30, 2) := by decide +kernel
theorem dX2_copy_127 : decode cX2_copy 127 = .ok (.invokestatic 61, 3) := by decide +kernel
theorem dX2_copy_130 : decode cX2_copy 130 = .ok (.aload_n 1, 1) := by decide +kernel
theorem dX2_copy_131 : decode cX2_copy 131 = .ok (.getfield 46, 3) := by decide +kernel
theorem dX2_copy_134 : decode cX2_copy 134 = .ok (.iconst 0, 1) := by decide +kernel
theorem dX2_copy_135 : decode cX2_copy 135 = .ok (.aload_n 0, 1) := by decide +kernel
theorem dX2_copy_136 : decode cX2_copy 136 = .ok (.getfield 46, 3) := by decide +kernel
theorem dX2_copy_139 : decode cX2_copy 139 = .ok (.iconst 0, 1) := by decide +kernel
theorem dX2_copy_140 : decode cX2_copy 140 = .ok (.sipush 300, 3) := by decide +kernel
theorem dX2_copy_143 : decode cX2_copy 143 = .ok (.invokestatic 61, 3) := by decide +kernel
theorem dX2_copy_146 : decode cX2_copy 146 = .ok (.aload_n 1, 1) := by decide +kernel
theorem dX2_copy_147 : decode cX2_copy 147 = .ok (.getfield 49, 3) := by decide +kernel
theorem dX2_copy_150 : decode cX2_copy 150 = .ok (.iconst 0, 1) := by decide +kernel
theorem dX2_copy_151 : decode cX2_copy 151 = .ok (.aload_n 0, 1) := by decide +kernel
theorem dX2_copy_152 : decode cX2_copy 152 = .ok (.getfield 49, 3) := by decide +kernel
theorem dX2_copy_155 : decode cX2_copy 155 = .ok (.iconst 0, 1) := by decide +kernel
theorem dX2_copy_156 : decode cX2_copy 156 = .ok (.bipush 30, 2) := by decide +kernel
theorem dX2_copy_158 : decode cX2_copy 158 = .ok (.invokestatic 61, 3) := by decide +kernel
theorem dX2_copy_161 : decode cX2_copy 161 = .ok (.aload_n 1, 1) := by decide +kernel
theorem dX2_copy_162 : decode cX2_copy 162 = .ok (.getfield 52, 3) := by decide +kernel
theorem dX2_copy_165 : decode cX2_copy 165 = .ok (.iconst 0, 1) := by decide +kernel
theorem dX2_copy_166 : decode cX2_copy 166 = .ok (.aload_n 0, 1) := by decide +kernel
theorem dX2_copy_167 : decode cX2_copy 167 = .ok (.getfield 52, 3) := by decide +kernel
theorem dX2_copy_170 : decode cX2_copy 170 = .ok (.iconst 0, 1) := by decide +kernel
theorem dX2_copy_171 : decode cX2_copy 171 = .ok (.bipush 54, 2) := by decide +kernel
theorem dX2_copy_173 : decode cX2_copy 173 = .ok (.invokestatic 61, 3) := by decide +kernel
theorem dX2_copy_176 : decode cX2_copy 176 = .ok (.return_, 1) := by decide +kernel
theorem dX11_grammar_67 : decode cX11_grammar 67 = .ok (.aload_n 0, 1) := by decide +kernel
theorem dX11_grammar_68 : decode cX11_grammar 68 = .ok (.iconst 0, 1) := by decide +kernel
theorem dX11_grammar_69 : decode cX11_grammar 69 = .ok (.putfield 108, 3) := by decide +kernel
theorem dX11_grammar_72 : decode cX11_grammar 72 = .ok (.aload_n 0, 1) := by decide +kernel
theorem dX11_grammar_73 : decode cX11_grammar 73 = .ok (.invokevirtual 140, 3) := by decide +kernel
theorem wm_973 : (Jvm.Cond.methodLink "GrownKinds" (140 : Nat) ({ cls := "GrownKinds", name := "settle", desc := "()V" } : Jvm.MethodName)) ∈ gT := gT_in (List.mem_of_getElem? (i := 973) (by decide +kernel)) (by decide +kernel)
theorem wm_975 : (Jvm.Cond.instanceMethod ({ cls := "GrownKinds", name := "settle", desc := "()V" } : Jvm.MethodName)) ∈ gT := gT_in (List.mem_of_getElem? (i := 975) (by decide +kernel)) (by decide +kernel)
theorem wm_29 : Cond.selects "GrownKinds" ⟨"GrownKinds", "settle", "()V"⟩ ⟨"GrownKinds", "settle", "()V"⟩ ∈ gT := gT_in (List.mem_of_getElem? (i := 29) (by decide +kernel)) (by decide +kernel)
theorem wm_976 : (Jvm.Cond.code ({ cls := "GrownKinds", name := "settle", desc := "()V" } : Jvm.MethodName) prog_1_method_6_code (1 : Nat) (Option.none : Option Jvm.ClassFile.FieldType)) ∈ gT := gT_in (List.mem_of_getElem? (i := 976) (by decide +kernel)) (by decide +kernel)
theorem dX11_grammar_76 : decode cX11_grammar 76 = .ok (.iload_n 1, 1) := by decide +kernel
theorem dX11_grammar_77 : decode cX11_grammar 77 = .ok (.ireturn, 1) := by decide +kernel
theorem dX11_grammar_50 : decode cX11_grammar 50 = .ok (.bipush (-4), 2) := by decide +kernel
theorem dX11_grammar_52 : decode cX11_grammar 52 = .ok (.ireturn, 1) := by decide +kernel
theorem wV_11_143 : gWV "GrownKinds" 143 yX1_stop cX1_stop 1 none := ⟨wm_977, wm_978, wm_979, wm_187, wm_980, by decide +kernel, by decide +kernel⟩
def mX1_stop (S0 : St)  : Option (St) := nx (up S0 80 1 0) fun S_1 => some (S_1)
set_option maxHeartbeats 4000000 in
set_option maxRecDepth 100000 in
theorem vX1_stop (l : Launch) {D : va_G} {cy : Nat → ClassId} {b n : Nat} (hn : 102 ≤ n) {X : Nat → va_E} {S0 : St}  {o1 : St} (hM : mX1_stop S0  = some o1) : gV l yX1_stop cX1_stop 1 0 0 0 D cy b n (enc b cy X S0) [.ref (b + 77)] (fun u => u = (n, enc b cy X o1)) := by
  refine gV_of (by decide) (Nat.le_of_ble_eq_true rfl) ?_
  intro p e s m args below meth c S hr hlk hin hsz ls hl hG
  have hx := S.1
  have hb := S.2.1
  have hl : lv_has ls 1 [(0, .ref (b + 77))] := hl
  replace hG : gW D cy b n s s.heap [] (enc b cy X S0) := hG
  obtain ⟨H, eH⟩ : ∃ H, H = s.heap := ⟨_, rfl⟩
  obtain ⟨locs, elocs⟩ : ∃ locs : List Loc, locs = [] := ⟨_, rfl⟩
  rw [← eH, ← elocs] at hG
  rw [← eH, ← elocs]
  clear eH elocs
  unfold mX1_stop at hM
  refine lv_aload_n hx hb dX1_stop_0 rfl (lv_at hl 0 rfl) ?_
  refine lv_iconst (v := iI 0) hx hb dX1_stop_1 (by decide) ?_
  refine m_put S hG 77 80 1 rfl 1 0 ec_80 cpX1 wm_643 dX1_stop_2 (pf_80_1) (Nat.lt_of_lt_of_le (Nat.le_of_ble_eq_true rfl) hn) (by decide) (Nat.le_of_ble_eq_true rfl) rfl rfl rfl (fun H locs S_1 eS_1 hG => ?_)
  replace hM := nx_at hM eS_1
  clear eS_1
  cases hM
  exact g_vret S hr hlk hG hsz dX1_stop_5 ⟨Nat.le_of_ble_eq_true rfl, Nat.le_of_ble_eq_true rfl⟩ rfl
theorem wV_11_146 : gWV "GrownKinds" 146 yX3_study cX3_study 2 none := ⟨wm_981, wm_890, wm_891, wm_180, wm_892, by decide +kernel, by decide +kernel⟩
def mX3_isEmpty_33 (S0 : St) (a1 : Int) : Option (Int) := gd (inI a1) <| if a1 < 0 then (some (0)) else (gd (inI (an (shr (S0 33 1) a1) 1)) <| if (an (shr (S0 33 1) a1) 1) = 0 then (some (0)) else (some (1)))
set_option maxHeartbeats 4000000 in
set_option maxRecDepth 100000 in
theorem vX3_isEmpty_33 (l : Launch) {D : va_G} {cy : Nat → ClassId} {b n : Nat} (hn : 102 ≤ n) {X : Nat → va_E} {S0 : St} (a1 : Int) {o1 : Int} (hM : mX3_isEmpty_33 S0 a1 = some o1) : gI l yX3_isEmpty cX3_isEmpty 2 (some .boolean) 0 0 0 D cy b n (enc b cy X S0) [.ref (b + 33), .int (iI a1)] (fun r u => r = iI o1 ∧ u = (n, enc b cy X S0)) := by
  refine gI_of (by decide) (Nat.le_of_ble_eq_true rfl) ?_
  intro p e s m args below meth c S hr hlk hin hsz ls hl hG
  have hx := S.1
  have hb := S.2.1
  have hl : lv_has ls 2 [(0, .ref (b + 33)), (1, .int (iI a1))] := hl
  replace hG : gW D cy b n s s.heap [] (enc b cy X S0) := hG
  obtain ⟨H, eH⟩ : ∃ H, H = s.heap := ⟨_, rfl⟩
  obtain ⟨locs, elocs⟩ : ∃ locs : List Loc, locs = [] := ⟨_, rfl⟩
  rw [← eH, ← elocs] at hG
  rw [← eH, ← elocs]
  clear eH elocs
  unfold mX3_isEmpty_33 at hM
  refine lv_iload_n hx hb dX3_isEmpty_0 rfl (lv_at hl 1 rfl) ?_
  obtain ⟨hg_1, hM⟩ := gd_some hM
  refine gi_if_lt (tgt := 19) hx hb dX3_isEmpty_1 (by decide) hg_1 (fun c_2 => ?_) (fun c_2 => ?_)
  · replace hM := ifp hM c_2
    refine lv_iconst (v := iI 0) hx hb dX3_isEmpty_19 (by decide) ?_
    cases hM
    exact g_zret S hr hlk hG hsz dX3_isEmpty_20 ⟨Nat.le_of_ble_eq_true rfl, Nat.le_of_ble_eq_true rfl⟩ (nar_z (by decide)) ⟨rfl, rfl⟩
  · replace hM := ifn hM c_2
    refine lv_aload_n hx hb dX3_isEmpty_4 rfl (lv_at hl 0 rfl) ?_
    refine m_get S hG 33 33 1 rfl ec_33 cpX3 wm_320 dX3_isEmpty_5 rfl (Nat.lt_of_lt_of_le (Nat.le_of_ble_eq_true rfl) hn) (by decide) ?_
    refine lv_iload_n hx hb dX3_isEmpty_8 rfl (lv_at hl 1 rfl) ?_
    refine gi_shr hx hb dX3_isEmpty_9 ?_
    refine lv_iconst (v := iI 1) hx hb dX3_isEmpty_10 (by decide) ?_
    refine gi_and hx hb dX3_isEmpty_11 ?_
    obtain ⟨hg_3, hM⟩ := gd_some hM
    refine gi_if_eq (tgt := 19) hx hb dX3_isEmpty_12 (by decide) hg_3 (fun c_4 => ?_) (fun c_4 => ?_)
    · replace hM := ifp hM c_4
      refine lv_iconst (v := iI 0) hx hb dX3_isEmpty_19 (by decide) ?_
      cases hM
      exact g_zret S hr hlk hG hsz dX3_isEmpty_20 ⟨Nat.le_of_ble_eq_true rfl, Nat.le_of_ble_eq_true rfl⟩ (nar_z (by decide)) ⟨rfl, rfl⟩
    · replace hM := ifn hM c_4
      refine lv_iconst (v := iI 1) hx hb dX3_isEmpty_15 (by decide) ?_
      refine lv_goto (tgt := 20) hx hb dX3_isEmpty_16 (by decide) ?_
      cases hM
      exact g_zret S hr hlk hG hsz dX3_isEmpty_20 ⟨Nat.le_of_ble_eq_true rfl, Nat.le_of_ble_eq_true rfl⟩ (nar_z (by decide)) ⟨rfl, rfl⟩
def mX2_isOff_2 (S0 : St) (a1 : Int) (a2 : Int) : Option (Int) := gd (0 ≤ a1 ∧ a1 < 30) <| gd (inI (an (shr (S0 10 a1) a2) 1)) <| if (an (shr (S0 10 a1) a2) 1) = 0 then (some (0)) else (some (1))
set_option maxHeartbeats 4000000 in
set_option maxRecDepth 100000 in
theorem vX2_isOff_2 (l : Launch) {D : va_G} {cy : Nat → ClassId} {b n : Nat} (hn : 102 ≤ n) {X : Nat → va_E} {S0 : St} (a1 : Int) (a2 : Int) {o1 : Int} (hM : mX2_isOff_2 S0 a1 a2 = some o1) : gI l yX2_isOff cX2_isOff 3 (some .boolean) 0 0 0 D cy b n (enc b cy X S0) [.ref (b + 2), .int (iI a1), .int (iI a2)] (fun r u => r = iI o1 ∧ u = (n, enc b cy X S0)) := by
  refine gI_of (by decide) (Nat.le_of_ble_eq_true rfl) ?_
  intro p e s m args below meth c S hr hlk hin hsz ls hl hG
  have hx := S.1
  have hb := S.2.1
  have hl : lv_has ls 3 [(0, .ref (b + 2)), (1, .int (iI a1)), (2, .int (iI a2))] := hl
  replace hG : gW D cy b n s s.heap [] (enc b cy X S0) := hG
  obtain ⟨H, eH⟩ : ∃ H, H = s.heap := ⟨_, rfl⟩
  obtain ⟨locs, elocs⟩ : ∃ locs : List Loc, locs = [] := ⟨_, rfl⟩
  rw [← eH, ← elocs] at hG
  rw [← eH, ← elocs]
  clear eH elocs
  unfold mX2_isOff_2 at hM
  refine lv_aload_n hx hb dX2_isOff_0 rfl (lv_at hl 0 rfl) ?_
  refine m_get S hG 2 2 12 rfl ec_2 cpX2 wm_271 dX2_isOff_1 rfl (Nat.lt_of_lt_of_le (Nat.le_of_ble_eq_true rfl) hn) (by decide) ?_
  refine lv_iload_n hx hb dX2_isOff_4 rfl (lv_at hl 1 rfl) ?_
  obtain ⟨hg_1, hM⟩ := gd_some hM
  refine mi_ald S hG 10 10 rfl ec_10 (Nat.lt_of_lt_of_le (Nat.le_of_ble_eq_true rfl) hn) dX2_isOff_5 hg_1 (by decide) ?_
  refine lv_iload_n hx hb dX2_isOff_6 rfl (lv_at hl 2 rfl) ?_
  refine gi_shr hx hb dX2_isOff_7 ?_
  refine lv_iconst (v := iI 1) hx hb dX2_isOff_8 (by decide) ?_
  refine gi_and hx hb dX2_isOff_9 ?_
  obtain ⟨hg_2, hM⟩ := gd_some hM
  refine gi_if_eq (tgt := 17) hx hb dX2_isOff_10 (by decide) hg_2 (fun c_3 => ?_) (fun c_3 => ?_)
  · replace hM := ifp hM c_3
    refine lv_iconst (v := iI 0) hx hb dX2_isOff_17 (by decide) ?_
    cases hM
    exact g_zret S hr hlk hG hsz dX2_isOff_18 ⟨Nat.le_of_ble_eq_true rfl, Nat.le_of_ble_eq_true rfl⟩ (nar_z (by decide)) ⟨rfl, rfl⟩
  · replace hM := ifn hM c_3
    refine lv_iconst (v := iI 1) hx hb dX2_isOff_13 (by decide) ?_
    refine lv_goto (tgt := 18) hx hb dX2_isOff_14 (by decide) ?_
    cases hM
    exact g_zret S hr hlk hG hsz dX2_isOff_18 ⟨Nat.le_of_ble_eq_true rfl, Nat.le_of_ble_eq_true rfl⟩ (nar_z (by decide)) ⟨rfl, rfl⟩
def mX2_start_2 (S0 : St) (a1 : Int) (a2 : Int) : Option (Int) := gd (0 ≤ ((a1 * 10) + a2) ∧ ((a1 * 10) + a2) < 300) <| some ((S0 9 ((a1 * 10) + a2)))
set_option maxHeartbeats 4000000 in
set_option maxRecDepth 100000 in
theorem vX2_start_2 (l : Launch) {D : va_G} {cy : Nat → ClassId} {b n : Nat} (hn : 102 ≤ n) {X : Nat → va_E} {S0 : St} (a1 : Int) (a2 : Int) {o1 : Int} (hM : mX2_start_2 S0 a1 a2 = some o1) : gI l yX2_start cX2_start 3 (some .int) 0 0 0 D cy b n (enc b cy X S0) [.ref (b + 2), .int (iI a1), .int (iI a2)] (fun r u => r = iI o1 ∧ u = (n, enc b cy X S0)) := by
  refine gI_of (by decide) (Nat.le_of_ble_eq_true rfl) ?_
  intro p e s m args below meth c S hr hlk hin hsz ls hl hG
  have hx := S.1
  have hb := S.2.1
  have hl : lv_has ls 3 [(0, .ref (b + 2)), (1, .int (iI a1)), (2, .int (iI a2))] := hl
  replace hG : gW D cy b n s s.heap [] (enc b cy X S0) := hG
  obtain ⟨H, eH⟩ : ∃ H, H = s.heap := ⟨_, rfl⟩
  obtain ⟨locs, elocs⟩ : ∃ locs : List Loc, locs = [] := ⟨_, rfl⟩
  rw [← eH, ← elocs] at hG
  rw [← eH, ← elocs]
  clear eH elocs
  unfold mX2_start_2 at hM
  refine lv_aload_n hx hb dX2_start_0 rfl (lv_at hl 0 rfl) ?_
  refine m_get S hG 2 2 11 rfl ec_2 cpX2 wm_269 dX2_start_1 rfl (Nat.lt_of_lt_of_le (Nat.le_of_ble_eq_true rfl) hn) (by decide) ?_
  refine lv_iload_n hx hb dX2_start_4 rfl (lv_at hl 1 rfl) ?_
  refine lv_bipush (v := iI 10) hx hb dX2_start_5 (by decide) ?_
  refine gi_mul hx hb dX2_start_7 ?_
  refine lv_iload_n hx hb dX2_start_8 rfl (lv_at hl 2 rfl) ?_
  refine gi_add hx hb dX2_start_9 ?_
  obtain ⟨hg_1, hM⟩ := gd_some hM
  refine mi_ald S hG 9 9 rfl ec_9 (Nat.lt_of_lt_of_le (Nat.le_of_ble_eq_true rfl) hn) dX2_start_10 hg_1 (by decide) ?_
  cases hM
  exact g_iret S hr hlk hG hsz dX2_start_11 ⟨Nat.le_of_ble_eq_true rfl, Nat.le_of_ble_eq_true rfl⟩ ⟨rfl, rfl⟩
def mX3_allEmpty_33_5 (S0 : St) (a2 : Int) : Nat → Int → Int → Option (Int)
  | 0, _, _ => none
  | f + 1, v_1, v_2 => gd (inI v_1) <| if 24 ≤ v_1 then (some (1)) else (gd (inI v_2) <| if v_2 = (-1) then (some (1)) else (bd1 (gd (inI a2) <| if v_2 = a2 then (some (1)) else (bd1 (mX3_isEmpty_33 S0 v_2) fun r_23 => gd (inI r_23) <| if r_23 = 0 then (some (0)) else (some (1)))) fun t_14 => if t_14 = 0 then (some (0)) else (gd (0 ≤ v_2 ∧ v_2 < 24) <| nx (S0 6 v_2) fun x_19 => mX3_allEmpty_33_5 S0 a2 f (v_1 + 1) x_19)))
def mX3_allEmpty_33 (S0 : St) (a1 : Int) (a2 : Int) : Option (Int) := bd1 (mX3_allEmpty_33_5 S0 a2 FU 0 a1) fun t_3 => if t_3 = 0 then (some (0)) else (some (1))
set_option maxHeartbeats 4000000 in
set_option maxRecDepth 100000 in
theorem vX3_allEmpty_33 (l : Launch) {D : va_G} {cy : Nat → ClassId} {b n : Nat} (hn : 102 ≤ n) {X : Nat → va_E} {S0 : St} (a1 : Int) (a2 : Int) {o1 : Int} (hM : mX3_allEmpty_33 S0 a1 a2 = some o1) : gI l yX3_allEmpty cX3_allEmpty 5 (some .boolean) 1 0 0 D cy b n (enc b cy X S0) [.ref (b + 33), .int (iI a1), .int (iI a2)] (fun r u => r = iI o1 ∧ u = (n, enc b cy X S0)) := by
  refine gI_of (by decide) (Nat.le_of_ble_eq_true rfl) ?_
  intro p e s m args below meth c S hr hlk hin hsz ls hl hG
  have hx := S.1
  have hb := S.2.1
  have hl : lv_has ls 5 [(0, .ref (b + 33)), (1, .int (iI a1)), (2, .int (iI a2))] := hl
  replace hG : gW D cy b n s s.heap [] (enc b cy X S0) := hG
  obtain ⟨H, eH⟩ : ∃ H, H = s.heap := ⟨_, rfl⟩
  obtain ⟨locs, elocs⟩ : ∃ locs : List Loc, locs = [] := ⟨_, rfl⟩
  rw [← eH, ← elocs] at hG
  rw [← eH, ← elocs]
  clear eH elocs
  unfold mX3_allEmpty_33 at hM
  refine lv_iload_n hx hb dX3_allEmpty_0 rfl (lv_at hl 1 rfl) ?_
  refine lv_istore_n (lv' := [(3, .int (iI a1)), (0, .ref (b + 33)), (1, .int (iI a1)), (2, .int (iI a2))]) hx hb dX3_allEmpty_1 rfl hl (by decide) rfl (fun ls hl => ?_)
  refine lv_iconst (v := iI 0) hx hb dX3_allEmpty_2 (by decide) ?_
  refine lv_istore (lv' := [(4, .int (iI 0)), (3, .int (iI a1)), (0, .ref (b + 33)), (1, .int (iI a1)), (2, .int (iI a2))]) hx hb dX3_allEmpty_3 hl (by decide) rfl (fun ls hl => ?_)
  obtain ⟨t_3, hc_4, hM⟩ := bd1_some hM
  have hK_5 : ∀ (H : Heap) (locs : List Loc) (ls : Array Slot), t_3 = 0 → gW D cy b n s H locs (enc b cy X S0) → lv_has ls 5 [] → W p l e (gRm 1 0 0) s m args below meth c H locs 0 0 (gQI D cy b s args below 0 0 (fun r u => r = iI o1 ∧ u = (n, enc b cy X S0))) (F0 m 30 ls []) := by
    intro H locs ls ht hG hl
    subst ht
    replace hM := ifp hM rfl
    refine lv_iconst (v := iI 0) hx hb dX3_allEmpty_30 (by decide) ?_
    cases hM
    exact g_zret S hr hlk hG hsz dX3_allEmpty_31 ⟨Nat.le_of_ble_eq_true rfl, Nat.le_of_ble_eq_true rfl⟩ (nar_z (by decide)) ⟨rfl, rfl⟩
  have hK_6 : ∀ (H : Heap) (locs : List Loc) (ls : Array Slot), t_3 = 1 → gW D cy b n s H locs (enc b cy X S0) → lv_has ls 5 [] → W p l e (gRm 1 0 0) s m args below meth c H locs 0 0 (gQI D cy b s args below 0 0 (fun r u => r = iI o1 ∧ u = (n, enc b cy X S0))) (F0 m 48 ls []) := by
    intro H locs ls ht hG hl
    subst ht
    replace hM := ifn hM (by decide)
    refine lv_iconst (v := iI 1) hx hb dX3_allEmpty_48 (by decide) ?_
    cases hM
    exact g_zret S hr hlk hG hsz dX3_allEmpty_49 ⟨Nat.le_of_ble_eq_true rfl, Nat.le_of_ble_eq_true rfl⟩ (nar_z (by decide)) ⟨rfl, rfl⟩
  have loop_7 : ∀ (f : Nat) (v_1 : Int) (v_2 : Int) (H : Heap) (locs : List Loc) (ls : Array Slot), mX3_allEmpty_33_5 S0 a2 f v_1 v_2 = some t_3 → gW D cy b n s H locs (enc b cy X S0) → lv_has ls 5 [(4, .int (iI v_1)), (3, .int (iI v_2)), (0, .ref (b + 33)), (2, .int (iI a2))] → W p l e (gRm 1 0 0) s m args below meth c H locs 0 0 (gQI D cy b s args below 0 0 (fun r u => r = iI o1 ∧ u = (n, enc b cy X S0))) (F0 m 5 ls []) := by
    clear hM
    intro f
    induction f with
    | zero => intro v_1 v_2 H locs ls hM; rw [mX3_allEmpty_33_5] at hM; cases hM
    | succ f_9 ih_8 =>
      intro v_1 v_2 H locs ls hM hG hl
      rw [mX3_allEmpty_33_5] at hM
      refine lv_iload hx hb dX3_allEmpty_5 (lv_at hl 0 rfl) ?_
      refine lv_bipush (v := iI 24) hx hb dX3_allEmpty_7 (by decide) ?_
      obtain ⟨hg_10, hM⟩ := gd_some hM
      refine gi_icmp_ge (tgt := 48) hx hb dX3_allEmpty_9 (by decide) hg_10 (by decide) (fun c_11 => ?_) (fun c_11 => ?_)
      · replace hM := ifp hM c_11
        cases hM
        exact hK_6 H locs ls rfl hG (lv_sub hl [] rfl)
      · replace hM := ifn hM c_11
        refine lv_iload_n hx hb dX3_allEmpty_12 rfl (lv_at hl 1 rfl) ?_
        refine lv_iconst (v := iI (-1)) hx hb dX3_allEmpty_13 (by decide) ?_
        obtain ⟨hg_12, hM⟩ := gd_some hM
        refine gi_icmp_eq (tgt := 48) hx hb dX3_allEmpty_14 (by decide) hg_12 (by decide) (fun c_13 => ?_) (fun c_13 => ?_)
        · replace hM := ifp hM c_13
          cases hM
          exact hK_6 H locs ls rfl hG (lv_sub hl [] rfl)
        · replace hM := ifn hM c_13
          refine lv_iload_n hx hb dX3_allEmpty_17 rfl (lv_at hl 1 rfl) ?_
          refine lv_iload_n hx hb dX3_allEmpty_18 rfl (lv_at hl 3 rfl) ?_
          obtain ⟨t_14, hc_15, hM⟩ := bd1_some hM
          have hK_16 : ∀ (H : Heap) (locs : List Loc) (ls : Array Slot), t_14 = 0 → gW D cy b n s H locs (enc b cy X S0) → lv_has ls 5 [] → W p l e (gRm 1 0 0) s m args below meth c H locs 0 0 (gQI D cy b s args below 0 0 (fun r u => r = iI o1 ∧ u = (n, enc b cy X S0))) (F0 m 30 ls []) := by
            intro H locs ls ht hG hl
            subst ht
            replace hM := ifp hM rfl
            cases hM
            exact hK_5 H locs ls rfl hG (lv_sub hl [] rfl)
          have hK_17 : ∀ (H : Heap) (locs : List Loc) (ls : Array Slot), t_14 = 1 → gW D cy b n s H locs (enc b cy X S0) → lv_has ls 5 [(4, .int (iI v_1)), (3, .int (iI v_2)), (0, .ref (b + 33)), (2, .int (iI a2))] → W p l e (gRm 1 0 0) s m args below meth c H locs 0 0 (gQI D cy b s args below 0 0 (fun r u => r = iI o1 ∧ u = (n, enc b cy X S0))) (F0 m 32 ls []) := by
            intro H locs ls ht hG hl
            subst ht
            replace hM := ifn hM (by decide)
            refine lv_aload_n hx hb dX3_allEmpty_32 rfl (lv_at hl 2 rfl) ?_
            refine m_get S hG 33 33 0 rfl ec_33 cpX3 wm_319 dX3_allEmpty_33 rfl (Nat.lt_of_lt_of_le (Nat.le_of_ble_eq_true rfl) hn) (by decide) ?_
            refine m_get S hG 2 2 8 rfl ec_2 cpX2 wm_257 dX3_allEmpty_36 rfl (Nat.lt_of_lt_of_le (Nat.le_of_ble_eq_true rfl) hn) (by decide) ?_
            refine lv_iload_n hx hb dX3_allEmpty_39 rfl (lv_at hl 1 rfl) ?_
            obtain ⟨hg_18, hM⟩ := gd_some hM
            refine mi_ald S hG 6 6 rfl ec_6 (Nat.lt_of_lt_of_le (Nat.le_of_ble_eq_true rfl) hn) dX3_allEmpty_40 hg_18 (by decide) ?_
            refine gi_nm (fun x_19 ex_19 => ?_)
            replace hM := nx_at hM ex_19
            clear ex_19
            refine lv_istore_n (lv' := [(3, .int (iI x_19)), (4, .int (iI v_1)), (0, .ref (b + 33)), (2, .int (iI a2))]) hx hb dX3_allEmpty_41 rfl hl (by decide) rfl (fun ls hl => ?_)
            refine lv_iinc (v := iI (v_1 + 1)) (lv' := [(4, .int (iI (v_1 + 1))), (3, .int (iI x_19)), (0, .ref (b + 33)), (2, .int (iI a2))]) hx hb dX3_allEmpty_42 hl (k := 1) rfl ((iI_add v_1 (1)).trans (congrArg iI (by omega))) (by decide) rfl (fun ls hl => ?_)
            refine lv_goto (tgt := 5) hx hb dX3_allEmpty_45 (by decide) ?_
            exact ih_8 (v_1 + 1) x_19 H locs ls hM hG (lv_sub hl [0, 1, 2, 3] rfl)
          clear hM
          replace hM := hc_15
          obtain ⟨hg_20, hM⟩ := gd_some hM
          refine gi_icmp_eq (tgt := 32) hx hb dX3_allEmpty_19 (by decide) hg_12 hg_20 (fun c_21 => ?_) (fun c_21 => ?_)
          · replace hM := ifp hM c_21
            cases hM
            exact hK_17 H locs ls rfl hG (lv_sub hl [0, 1, 2, 3] rfl)
          · replace hM := ifn hM c_21
            refine lv_aload_n hx hb dX3_allEmpty_22 rfl (lv_at hl 2 rfl) ?_
            refine lv_iload_n hx hb dX3_allEmpty_23 rfl (lv_at hl 1 rfl) ?_
            obtain ⟨r_23, hc_22, hM⟩ := bd1_some hM
            refine g_vi (As := [.int (iI v_2)]) (rest := []) S hG hsz (vX3_isEmpty_33 l hn v_2 hc_22) wV_3_80 (ec_33 _) cpX3 (Nat.lt_of_lt_of_le (Nat.le_of_ble_eq_true rfl) hn) dX3_allEmpty_24 rfl hl.1 (ar := 1) (by decide +kernel) rfl ⟨Nat.le_of_ble_eq_true rfl, Nat.le_of_ble_eq_true rfl, Nat.le_of_ble_eq_true rfl, Nat.le_of_ble_eq_true rfl⟩ (Nat.le_of_ble_eq_true rfl) (fun rv uu H locs hp hG => ?_)
            obtain ⟨rfl, rfl⟩ := hp
            replace hG : gW D cy b n s H locs (enc b cy X S0) := hG
            obtain ⟨hg_24, hM⟩ := gd_some hM
            refine gi_if_ne (tgt := 32) hx hb dX3_allEmpty_27 (by decide) hg_24 (fun c_25 => ?_) (fun c_25 => ?_)
            · replace hM := ifn hM c_25
              cases hM
              exact hK_17 H locs ls rfl hG (lv_sub hl [0, 1, 2, 3] rfl)
            · replace hM := ifp hM c_25
              cases hM
              exact hK_16 H locs ls rfl hG (lv_sub hl [] rfl)
  exact loop_7 FU 0 a1 H locs ls hc_4 hG (lv_sub hl [0, 1, 2, 4] rfl)
def mX3_exprIsEmpty_33_2 (S0 : St) (a1 : Int) : Nat → Int → Option (Int)
  | 0, _ => none
  | f + 1, v_1 => gd (0 ≤ a1 ∧ a1 < 30) <| gd ((inI v_1) ∧ (inI (S0 8 a1))) <| if (S0 8 a1) ≤ v_1 then (some (1)) else (bd1 (mX2_isOff_2 S0 a1 v_1) fun r_13 => gd (inI r_13) <| if r_13 = 0 then (bd1 (mX2_start_2 S0 a1 v_1) fun r_17 => bd1 (mX3_allEmpty_33 S0 r_17 (-1)) fun r_19 => gd (inI r_19) <| if r_19 = 0 then (mX3_exprIsEmpty_33_2 S0 a1 f (v_1 + 1)) else (some (0))) else (mX3_exprIsEmpty_33_2 S0 a1 f (v_1 + 1)))
def mX3_exprIsEmpty_33 (S0 : St) (a1 : Int) : Option (Int) := bd1 (mX3_exprIsEmpty_33_2 S0 a1 FU 0) fun t_2 => if t_2 = 0 then (some (1)) else (some (0))
set_option maxHeartbeats 4000000 in
set_option maxRecDepth 100000 in
theorem vX3_exprIsEmpty_33 (l : Launch) {D : va_G} {cy : Nat → ClassId} {b n : Nat} (hn : 102 ≤ n) {X : Nat → va_E} {S0 : St} (a1 : Int) {o1 : Int} (hM : mX3_exprIsEmpty_33 S0 a1 = some o1) : gI l yX3_exprIsEmpty cX3_exprIsEmpty 3 (some .boolean) 2 0 0 D cy b n (enc b cy X S0) [.ref (b + 33), .int (iI a1)] (fun r u => r = iI o1 ∧ u = (n, enc b cy X S0)) := by
  refine gI_of (by decide) (Nat.le_of_ble_eq_true rfl) ?_
  intro p e s m args below meth c S hr hlk hin hsz ls hl hG
  have hx := S.1
  have hb := S.2.1
  have hl : lv_has ls 3 [(0, .ref (b + 33)), (1, .int (iI a1))] := hl
  replace hG : gW D cy b n s s.heap [] (enc b cy X S0) := hG
  obtain ⟨H, eH⟩ : ∃ H, H = s.heap := ⟨_, rfl⟩
  obtain ⟨locs, elocs⟩ : ∃ locs : List Loc, locs = [] := ⟨_, rfl⟩
  rw [← eH, ← elocs] at hG
  rw [← eH, ← elocs]
  clear eH elocs
  unfold mX3_exprIsEmpty_33 at hM
  refine lv_iconst (v := iI 0) hx hb dX3_exprIsEmpty_0 (by decide) ?_
  refine lv_istore_n (lv' := [(2, .int (iI 0)), (0, .ref (b + 33)), (1, .int (iI a1))]) hx hb dX3_exprIsEmpty_1 rfl hl (by decide) rfl (fun ls hl => ?_)
  obtain ⟨t_2, hc_3, hM⟩ := bd1_some hM
  have hK_4 : ∀ (H : Heap) (locs : List Loc) (ls : Array Slot), t_2 = 0 → gW D cy b n s H locs (enc b cy X S0) → lv_has ls 3 [] → W p l e (gRm 2 0 0) s m args below meth c H locs 0 0 (gQI D cy b s args below 0 0 (fun r u => r = iI o1 ∧ u = (n, enc b cy X S0))) (F0 m 44 ls []) := by
    intro H locs ls ht hG hl
    subst ht
    replace hM := ifp hM rfl
    refine lv_iconst (v := iI 1) hx hb dX3_exprIsEmpty_44 (by decide) ?_
    cases hM
    exact g_zret S hr hlk hG hsz dX3_exprIsEmpty_45 ⟨Nat.le_of_ble_eq_true rfl, Nat.le_of_ble_eq_true rfl⟩ (nar_z (by decide)) ⟨rfl, rfl⟩
  have hK_5 : ∀ (H : Heap) (locs : List Loc) (ls : Array Slot), t_2 = 1 → gW D cy b n s H locs (enc b cy X S0) → lv_has ls 3 [] → W p l e (gRm 2 0 0) s m args below meth c H locs 0 0 (gQI D cy b s args below 0 0 (fun r u => r = iI o1 ∧ u = (n, enc b cy X S0))) (F0 m 52 ls []) := by
    intro H locs ls ht hG hl
    subst ht
    replace hM := ifn hM (by decide)
    refine lv_iconst (v := iI 0) hx hb dX3_exprIsEmpty_52 (by decide) ?_
    cases hM
    exact g_zret S hr hlk hG hsz dX3_exprIsEmpty_53 ⟨Nat.le_of_ble_eq_true rfl, Nat.le_of_ble_eq_true rfl⟩ (nar_z (by decide)) ⟨rfl, rfl⟩
  have loop_6 : ∀ (f : Nat) (v_1 : Int) (H : Heap) (locs : List Loc) (ls : Array Slot), mX3_exprIsEmpty_33_2 S0 a1 f v_1 = some t_2 → gW D cy b n s H locs (enc b cy X S0) → lv_has ls 3 [(2, .int (iI v_1)), (0, .ref (b + 33)), (1, .int (iI a1))] → W p l e (gRm 2 0 0) s m args below meth c H locs 0 0 (gQI D cy b s args below 0 0 (fun r u => r = iI o1 ∧ u = (n, enc b cy X S0))) (F0 m 2 ls []) := by
    clear hM
    intro f
    induction f with
    | zero => intro v_1 H locs ls hM; rw [mX3_exprIsEmpty_33_2] at hM; cases hM
    | succ f_8 ih_7 =>
      intro v_1 H locs ls hM hG hl
      rw [mX3_exprIsEmpty_33_2] at hM
      refine lv_iload_n hx hb dX3_exprIsEmpty_2 rfl (lv_at hl 0 rfl) ?_
      refine lv_aload_n hx hb dX3_exprIsEmpty_3 rfl (lv_at hl 1 rfl) ?_
      refine m_get S hG 33 33 0 rfl ec_33 cpX3 wm_319 dX3_exprIsEmpty_4 rfl (Nat.lt_of_lt_of_le (Nat.le_of_ble_eq_true rfl) hn) (by decide) ?_
      refine m_get S hG 2 2 10 rfl ec_2 cpX2 wm_264 dX3_exprIsEmpty_7 rfl (Nat.lt_of_lt_of_le (Nat.le_of_ble_eq_true rfl) hn) (by decide) ?_
      refine lv_iload_n hx hb dX3_exprIsEmpty_10 rfl (lv_at hl 2 rfl) ?_
      obtain ⟨hg_9, hM⟩ := gd_some hM
      refine mi_ald S hG 8 8 rfl ec_8 (Nat.lt_of_lt_of_le (Nat.le_of_ble_eq_true rfl) hn) dX3_exprIsEmpty_11 hg_9 (by decide) ?_
      obtain ⟨hg_10, hM⟩ := gd_some hM
      refine gi_icmp_ge (tgt := 52) hx hb dX3_exprIsEmpty_12 (by decide) hg_10.1 hg_10.2 (fun c_11 => ?_) (fun c_11 => ?_)
      · replace hM := ifp hM c_11
        cases hM
        exact hK_5 H locs ls rfl hG (lv_sub hl [] rfl)
      · replace hM := ifn hM c_11
        refine lv_aload_n hx hb dX3_exprIsEmpty_15 rfl (lv_at hl 1 rfl) ?_
        refine m_get S hG 33 33 0 rfl ec_33 cpX3 wm_319 dX3_exprIsEmpty_16 rfl (Nat.lt_of_lt_of_le (Nat.le_of_ble_eq_true rfl) hn) (by decide) ?_
        refine lv_iload_n hx hb dX3_exprIsEmpty_19 rfl (lv_at hl 2 rfl) ?_
        refine lv_iload_n hx hb dX3_exprIsEmpty_20 rfl (lv_at hl 0 rfl) ?_
        obtain ⟨r_13, hc_12, hM⟩ := bd1_some hM
        refine g_vi (As := [.int (iI a1), .int (iI v_1)]) (rest := []) S hG hsz (vX2_isOff_2 l hn a1 v_1 hc_12) wV_3_86 (ec_2 _) cpX2 (Nat.lt_of_lt_of_le (Nat.le_of_ble_eq_true rfl) hn) dX3_exprIsEmpty_21 rfl hl.1 (ar := 2) (by decide +kernel) rfl ⟨Nat.le_of_ble_eq_true rfl, Nat.le_of_ble_eq_true rfl, Nat.le_of_ble_eq_true rfl, Nat.le_of_ble_eq_true rfl⟩ (Nat.le_of_ble_eq_true rfl) (fun rv uu H locs hp hG => ?_)
        obtain ⟨rfl, rfl⟩ := hp
        replace hG : gW D cy b n s H locs (enc b cy X S0) := hG
        obtain ⟨hg_14, hM⟩ := gd_some hM
        refine gi_if_ne (tgt := 46) hx hb dX3_exprIsEmpty_24 (by decide) hg_14 (fun c_15 => ?_) (fun c_15 => ?_)
        · replace hM := ifn hM c_15
          refine lv_iinc (v := iI (v_1 + 1)) (lv' := [(2, .int (iI (v_1 + 1))), (0, .ref (b + 33)), (1, .int (iI a1))]) hx hb dX3_exprIsEmpty_46 hl (k := 0) rfl ((iI_add v_1 (1)).trans (congrArg iI (by omega))) (by decide) rfl (fun ls hl => ?_)
          refine lv_goto (tgt := 2) hx hb dX3_exprIsEmpty_49 (by decide) ?_
          exact ih_7 (v_1 + 1) H locs ls hM hG (lv_sub hl [0, 1, 2] rfl)
        · replace hM := ifp hM c_15
          refine lv_aload_n hx hb dX3_exprIsEmpty_27 rfl (lv_at hl 1 rfl) ?_
          refine lv_aload_n hx hb dX3_exprIsEmpty_28 rfl (lv_at hl 1 rfl) ?_
          refine m_get S hG 33 33 0 rfl ec_33 cpX3 wm_319 dX3_exprIsEmpty_29 rfl (Nat.lt_of_lt_of_le (Nat.le_of_ble_eq_true rfl) hn) (by decide) ?_
          refine lv_iload_n hx hb dX3_exprIsEmpty_32 rfl (lv_at hl 2 rfl) ?_
          refine lv_iload_n hx hb dX3_exprIsEmpty_33 rfl (lv_at hl 0 rfl) ?_
          obtain ⟨r_17, hc_16, hM⟩ := bd1_some hM
          refine g_vi (As := [.int (iI a1), .int (iI v_1)]) (rest := [.ref (b + 33)]) S hG hsz (vX2_start_2 l hn a1 v_1 hc_16) wV_3_90 (ec_2 _) cpX2 (Nat.lt_of_lt_of_le (Nat.le_of_ble_eq_true rfl) hn) dX3_exprIsEmpty_34 rfl hl.1 (ar := 2) (by decide +kernel) rfl ⟨Nat.le_of_ble_eq_true rfl, Nat.le_of_ble_eq_true rfl, Nat.le_of_ble_eq_true rfl, Nat.le_of_ble_eq_true rfl⟩ (Nat.le_of_ble_eq_true rfl) (fun rv uu H locs hp hG => ?_)
          obtain ⟨rfl, rfl⟩ := hp
          replace hG : gW D cy b n s H locs (enc b cy X S0) := hG
          refine lv_iconst (v := iI (-1)) hx hb dX3_exprIsEmpty_37 (by decide) ?_
          obtain ⟨r_19, hc_18, hM⟩ := bd1_some hM
          refine g_vi (As := [.int (iI r_17), .int (iI (-1))]) (rest := []) S hG hsz (vX3_allEmpty_33 l hn r_17 (-1) hc_18) wV_3_94 (ec_33 _) cpX3 (Nat.lt_of_lt_of_le (Nat.le_of_ble_eq_true rfl) hn) dX3_exprIsEmpty_38 rfl hl.1 (ar := 2) (by decide +kernel) rfl ⟨Nat.le_of_ble_eq_true rfl, Nat.le_of_ble_eq_true rfl, Nat.le_of_ble_eq_true rfl, Nat.le_of_ble_eq_true rfl⟩ (Nat.le_of_ble_eq_true rfl) (fun rv uu H locs hp hG => ?_)
          obtain ⟨rfl, rfl⟩ := hp
          replace hG : gW D cy b n s H locs (enc b cy X S0) := hG
          obtain ⟨hg_20, hM⟩ := gd_some hM
          refine gi_if_eq (tgt := 46) hx hb dX3_exprIsEmpty_41 (by decide) hg_20 (fun c_21 => ?_) (fun c_21 => ?_)
          · replace hM := ifp hM c_21
            refine lv_iinc (v := iI (v_1 + 1)) (lv' := [(2, .int (iI (v_1 + 1))), (0, .ref (b + 33)), (1, .int (iI a1))]) hx hb dX3_exprIsEmpty_46 hl (k := 0) rfl ((iI_add v_1 (1)).trans (congrArg iI (by omega))) (by decide) rfl (fun ls hl => ?_)
            refine lv_goto (tgt := 2) hx hb dX3_exprIsEmpty_49 (by decide) ?_
            exact ih_7 (v_1 + 1) H locs ls hM hG (lv_sub hl [0, 1, 2] rfl)
          · replace hM := ifn hM c_21
            cases hM
            exact hK_4 H locs ls rfl hG (lv_sub hl [] rfl)
  exact loop_6 FU 0 H locs ls hc_3 hG (lv_sub hl [0, 1, 2] rfl)
def mX3_partIsEmpty_33 (S0 : St) (a1 : Int) : Option (Int) := gd (0 ≤ a1 ∧ a1 < 24) <| nx (S0 3 a1) fun x_2 => bd1 (gd (inI x_2) <| if x_2 = 0 then (some (0)) else (if x_2 = 1 then (some (0)) else (some (1)))) fun t_3 => if t_3 = 0 then (gd (inI x_2) <| if x_2 = 1 then (some (1)) else (some (0))) else (gd (inI x_2) <| if x_2 = 2 then (gd (inI (an (shr (S0 33 2) (S0 4 a1)) 1)) <| if (an (shr (S0 33 2) (S0 4 a1)) 1) = 0 then (some (0)) else (some (1))) else (if x_2 = 7 then (bd1 (mX3_exprIsEmpty_33 S0 (6 + a1)) fun r_24 => gd (r_24 = 0 ∨ r_24 = 1) <| some (r_24)) else (if x_2 = 6 then (bd1 (mX3_isEmpty_33 S0 (S0 5 a1)) fun r_14 => gd (inI r_14) <| if r_14 = 0 then (some (0)) else (some (1))) else (gd (inI (S0 4 a1)) <| if (S0 4 a1) = 0 then (some (1)) else (bd1 (mX3_isEmpty_33 S0 (S0 5 a1)) fun r_20 => gd (inI r_20) <| if r_20 = 0 then (some (0)) else (some (1)))))))
set_option maxHeartbeats 4000000 in
set_option maxRecDepth 100000 in
theorem vX3_partIsEmpty_33 (l : Launch) {D : va_G} {cy : Nat → ClassId} {b n : Nat} (hn : 102 ≤ n) {X : Nat → va_E} {S0 : St} (a1 : Int) {o1 : Int} (hM : mX3_partIsEmpty_33 S0 a1 = some o1) : gI l yX3_partIsEmpty cX3_partIsEmpty 3 (some .boolean) 3 0 0 D cy b n (enc b cy X S0) [.ref (b + 33), .int (iI a1)] (fun r u => r = iI o1 ∧ u = (n, enc b cy X S0)) := by
  refine gI_of (by decide) (Nat.le_of_ble_eq_true rfl) ?_
  intro p e s m args below meth c S hr hlk hin hsz ls hl hG
  have hx := S.1
  have hb := S.2.1
  have hl : lv_has ls 3 [(0, .ref (b + 33)), (1, .int (iI a1))] := hl
  replace hG : gW D cy b n s s.heap [] (enc b cy X S0) := hG
  obtain ⟨H, eH⟩ : ∃ H, H = s.heap := ⟨_, rfl⟩
  obtain ⟨locs, elocs⟩ : ∃ locs : List Loc, locs = [] := ⟨_, rfl⟩
  rw [← eH, ← elocs] at hG
  rw [← eH, ← elocs]
  clear eH elocs
  unfold mX3_partIsEmpty_33 at hM
  refine lv_aload_n hx hb dX3_partIsEmpty_0 rfl (lv_at hl 0 rfl) ?_
  refine m_get S hG 33 33 0 rfl ec_33 cpX3 wm_319 dX3_partIsEmpty_1 rfl (Nat.lt_of_lt_of_le (Nat.le_of_ble_eq_true rfl) hn) (by decide) ?_
  refine m_get S hG 2 2 5 rfl ec_2 cpX2 wm_236 dX3_partIsEmpty_4 rfl (Nat.lt_of_lt_of_le (Nat.le_of_ble_eq_true rfl) hn) (by decide) ?_
  refine lv_iload_n hx hb dX3_partIsEmpty_7 rfl (lv_at hl 1 rfl) ?_
  obtain ⟨hg_1, hM⟩ := gd_some hM
  refine mi_ald S hG 3 3 rfl ec_3 (Nat.lt_of_lt_of_le (Nat.le_of_ble_eq_true rfl) hn) dX3_partIsEmpty_8 hg_1 (by decide) ?_
  refine gi_nm (fun x_2 ex_2 => ?_)
  replace hM := nx_at hM ex_2
  clear ex_2
  refine lv_istore_n (lv' := [(2, .int (iI x_2)), (0, .ref (b + 33)), (1, .int (iI a1))]) hx hb dX3_partIsEmpty_9 rfl hl (by decide) rfl (fun ls hl => ?_)
  refine lv_iload_n hx hb dX3_partIsEmpty_10 rfl (lv_at hl 0 rfl) ?_
  obtain ⟨t_3, hc_4, hM⟩ := bd1_some hM
  have hK_5 : ∀ (H : Heap) (locs : List Loc) (ls : Array Slot), t_3 = 0 → gW D cy b n s H locs (enc b cy X S0) → lv_has ls 3 [(2, .int (iI x_2))] → W p l e (gRm 3 0 0) s m args below meth c H locs 0 0 (gQI D cy b s args below 0 0 (fun r u => r = iI o1 ∧ u = (n, enc b cy X S0))) (F0 m 19 ls []) := by
    intro H locs ls ht hG hl
    subst ht
    replace hM := ifp hM rfl
    refine lv_iload_n hx hb dX3_partIsEmpty_19 rfl (lv_at hl 0 rfl) ?_
    refine lv_iconst (v := iI 1) hx hb dX3_partIsEmpty_20 (by decide) ?_
    obtain ⟨hg_6, hM⟩ := gd_some hM
    refine gi_icmp_ne (tgt := 28) hx hb dX3_partIsEmpty_21 (by decide) hg_6 (by decide) (fun c_7 => ?_) (fun c_7 => ?_)
    · replace hM := ifn hM c_7
      refine lv_iconst (v := iI 0) hx hb dX3_partIsEmpty_28 (by decide) ?_
      cases hM
      exact g_zret S hr hlk hG hsz dX3_partIsEmpty_29 ⟨Nat.le_of_ble_eq_true rfl, Nat.le_of_ble_eq_true rfl⟩ (nar_z (by decide)) ⟨rfl, rfl⟩
    · replace hM := ifp hM c_7
      refine lv_iconst (v := iI 1) hx hb dX3_partIsEmpty_24 (by decide) ?_
      refine lv_goto (tgt := 29) hx hb dX3_partIsEmpty_25 (by decide) ?_
      cases hM
      exact g_zret S hr hlk hG hsz dX3_partIsEmpty_29 ⟨Nat.le_of_ble_eq_true rfl, Nat.le_of_ble_eq_true rfl⟩ (nar_z (by decide)) ⟨rfl, rfl⟩
  have hK_8 : ∀ (H : Heap) (locs : List Loc) (ls : Array Slot), t_3 = 1 → gW D cy b n s H locs (enc b cy X S0) → lv_has ls 3 [(2, .int (iI x_2)), (0, .ref (b + 33)), (1, .int (iI a1))] → W p l e (gRm 3 0 0) s m args below meth c H locs 0 0 (gQI D cy b s args below 0 0 (fun r u => r = iI o1 ∧ u = (n, enc b cy X S0))) (F0 m 30 ls []) := by
    intro H locs ls ht hG hl
    subst ht
    replace hM := ifn hM (by decide)
    refine lv_iload_n hx hb dX3_partIsEmpty_30 rfl (lv_at hl 0 rfl) ?_
    refine lv_iconst (v := iI 2) hx hb dX3_partIsEmpty_31 (by decide) ?_
    obtain ⟨hg_9, hM⟩ := gd_some hM
    refine gi_icmp_ne (tgt := 60) hx hb dX3_partIsEmpty_32 (by decide) hg_9 (by decide) (fun c_10 => ?_) (fun c_10 => ?_)
    · replace hM := ifn hM c_10
      refine lv_iload_n hx hb dX3_partIsEmpty_60 rfl (lv_at hl 0 rfl) ?_
      refine lv_bipush (v := iI 7) hx hb dX3_partIsEmpty_61 (by decide) ?_
      refine gi_icmp_ne (tgt := 75) hx hb dX3_partIsEmpty_63 (by decide) hg_9 (by decide) (fun c_11 => ?_) (fun c_11 => ?_)
      · replace hM := ifn hM c_11
        refine lv_iload_n hx hb dX3_partIsEmpty_75 rfl (lv_at hl 0 rfl) ?_
        refine lv_bipush (v := iI 6) hx hb dX3_partIsEmpty_76 (by decide) ?_
        refine gi_icmp_eq (tgt := 93) hx hb dX3_partIsEmpty_78 (by decide) hg_9 (by decide) (fun c_12 => ?_) (fun c_12 => ?_)
        · replace hM := ifp hM c_12
          refine lv_aload_n hx hb dX3_partIsEmpty_93 rfl (lv_at hl 1 rfl) ?_
          refine lv_aload_n hx hb dX3_partIsEmpty_94 rfl (lv_at hl 1 rfl) ?_
          refine m_get S hG 33 33 0 rfl ec_33 cpX3 wm_319 dX3_partIsEmpty_95 rfl (Nat.lt_of_lt_of_le (Nat.le_of_ble_eq_true rfl) hn) (by decide) ?_
          refine m_get S hG 2 2 7 rfl ec_2 cpX2 wm_249 dX3_partIsEmpty_98 rfl (Nat.lt_of_lt_of_le (Nat.le_of_ble_eq_true rfl) hn) (by decide) ?_
          refine lv_iload_n hx hb dX3_partIsEmpty_101 rfl (lv_at hl 2 rfl) ?_
          refine mi_ald S hG 5 5 rfl ec_5 (Nat.lt_of_lt_of_le (Nat.le_of_ble_eq_true rfl) hn) dX3_partIsEmpty_102 hg_1 (by decide) ?_
          obtain ⟨r_14, hc_13, hM⟩ := bd1_some hM
          refine g_vi (As := [.int (iI (S0 5 a1))]) (rest := []) S hG hsz (vX3_isEmpty_33 l hn (S0 5 a1) hc_13) wV_3_80 (ec_33 _) cpX3 (Nat.lt_of_lt_of_le (Nat.le_of_ble_eq_true rfl) hn) dX3_partIsEmpty_103 rfl hl.1 (ar := 1) (by decide +kernel) rfl ⟨Nat.le_of_ble_eq_true rfl, Nat.le_of_ble_eq_true rfl, Nat.le_of_ble_eq_true rfl, Nat.le_of_ble_eq_true rfl⟩ (Nat.le_of_ble_eq_true rfl) (fun rv uu H locs hp hG => ?_)
          obtain ⟨rfl, rfl⟩ := hp
          replace hG : gW D cy b n s H locs (enc b cy X S0) := hG
          obtain ⟨hg_15, hM⟩ := gd_some hM
          refine gi_if_eq (tgt := 113) hx hb dX3_partIsEmpty_106 (by decide) hg_15 (fun c_16 => ?_) (fun c_16 => ?_)
          · replace hM := ifp hM c_16
            refine lv_iconst (v := iI 0) hx hb dX3_partIsEmpty_113 (by decide) ?_
            cases hM
            exact g_zret S hr hlk hG hsz dX3_partIsEmpty_114 ⟨Nat.le_of_ble_eq_true rfl, Nat.le_of_ble_eq_true rfl⟩ (nar_z (by decide)) ⟨rfl, rfl⟩
          · replace hM := ifn hM c_16
            refine lv_iconst (v := iI 1) hx hb dX3_partIsEmpty_109 (by decide) ?_
            refine lv_goto (tgt := 114) hx hb dX3_partIsEmpty_110 (by decide) ?_
            cases hM
            exact g_zret S hr hlk hG hsz dX3_partIsEmpty_114 ⟨Nat.le_of_ble_eq_true rfl, Nat.le_of_ble_eq_true rfl⟩ (nar_z (by decide)) ⟨rfl, rfl⟩
        · replace hM := ifn hM c_12
          refine lv_aload_n hx hb dX3_partIsEmpty_81 rfl (lv_at hl 1 rfl) ?_
          refine m_get S hG 33 33 0 rfl ec_33 cpX3 wm_319 dX3_partIsEmpty_82 rfl (Nat.lt_of_lt_of_le (Nat.le_of_ble_eq_true rfl) hn) (by decide) ?_
          refine m_get S hG 2 2 6 rfl ec_2 cpX2 wm_242 dX3_partIsEmpty_85 rfl (Nat.lt_of_lt_of_le (Nat.le_of_ble_eq_true rfl) hn) (by decide) ?_
          refine lv_iload_n hx hb dX3_partIsEmpty_88 rfl (lv_at hl 2 rfl) ?_
          refine mi_ald S hG 4 4 rfl ec_4 (Nat.lt_of_lt_of_le (Nat.le_of_ble_eq_true rfl) hn) dX3_partIsEmpty_89 hg_1 (by decide) ?_
          obtain ⟨hg_17, hM⟩ := gd_some hM
          refine gi_if_eq (tgt := 109) hx hb dX3_partIsEmpty_90 (by decide) hg_17 (fun c_18 => ?_) (fun c_18 => ?_)
          · replace hM := ifp hM c_18
            refine lv_iconst (v := iI 1) hx hb dX3_partIsEmpty_109 (by decide) ?_
            refine lv_goto (tgt := 114) hx hb dX3_partIsEmpty_110 (by decide) ?_
            cases hM
            exact g_zret S hr hlk hG hsz dX3_partIsEmpty_114 ⟨Nat.le_of_ble_eq_true rfl, Nat.le_of_ble_eq_true rfl⟩ (nar_z (by decide)) ⟨rfl, rfl⟩
          · replace hM := ifn hM c_18
            refine lv_aload_n hx hb dX3_partIsEmpty_93 rfl (lv_at hl 1 rfl) ?_
            refine lv_aload_n hx hb dX3_partIsEmpty_94 rfl (lv_at hl 1 rfl) ?_
            refine m_get S hG 33 33 0 rfl ec_33 cpX3 wm_319 dX3_partIsEmpty_95 rfl (Nat.lt_of_lt_of_le (Nat.le_of_ble_eq_true rfl) hn) (by decide) ?_
            refine m_get S hG 2 2 7 rfl ec_2 cpX2 wm_249 dX3_partIsEmpty_98 rfl (Nat.lt_of_lt_of_le (Nat.le_of_ble_eq_true rfl) hn) (by decide) ?_
            refine lv_iload_n hx hb dX3_partIsEmpty_101 rfl (lv_at hl 2 rfl) ?_
            refine mi_ald S hG 5 5 rfl ec_5 (Nat.lt_of_lt_of_le (Nat.le_of_ble_eq_true rfl) hn) dX3_partIsEmpty_102 hg_1 (by decide) ?_
            obtain ⟨r_20, hc_19, hM⟩ := bd1_some hM
            refine g_vi (As := [.int (iI (S0 5 a1))]) (rest := []) S hG hsz (vX3_isEmpty_33 l hn (S0 5 a1) hc_19) wV_3_80 (ec_33 _) cpX3 (Nat.lt_of_lt_of_le (Nat.le_of_ble_eq_true rfl) hn) dX3_partIsEmpty_103 rfl hl.1 (ar := 1) (by decide +kernel) rfl ⟨Nat.le_of_ble_eq_true rfl, Nat.le_of_ble_eq_true rfl, Nat.le_of_ble_eq_true rfl, Nat.le_of_ble_eq_true rfl⟩ (Nat.le_of_ble_eq_true rfl) (fun rv uu H locs hp hG => ?_)
            obtain ⟨rfl, rfl⟩ := hp
            replace hG : gW D cy b n s H locs (enc b cy X S0) := hG
            obtain ⟨hg_21, hM⟩ := gd_some hM
            refine gi_if_eq (tgt := 113) hx hb dX3_partIsEmpty_106 (by decide) hg_21 (fun c_22 => ?_) (fun c_22 => ?_)
            · replace hM := ifp hM c_22
              refine lv_iconst (v := iI 0) hx hb dX3_partIsEmpty_113 (by decide) ?_
              cases hM
              exact g_zret S hr hlk hG hsz dX3_partIsEmpty_114 ⟨Nat.le_of_ble_eq_true rfl, Nat.le_of_ble_eq_true rfl⟩ (nar_z (by decide)) ⟨rfl, rfl⟩
            · replace hM := ifn hM c_22
              refine lv_iconst (v := iI 1) hx hb dX3_partIsEmpty_109 (by decide) ?_
              refine lv_goto (tgt := 114) hx hb dX3_partIsEmpty_110 (by decide) ?_
              cases hM
              exact g_zret S hr hlk hG hsz dX3_partIsEmpty_114 ⟨Nat.le_of_ble_eq_true rfl, Nat.le_of_ble_eq_true rfl⟩ (nar_z (by decide)) ⟨rfl, rfl⟩
      · replace hM := ifp hM c_11
        refine lv_aload_n hx hb dX3_partIsEmpty_66 rfl (lv_at hl 1 rfl) ?_
        refine lv_bipush (v := iI 6) hx hb dX3_partIsEmpty_67 (by decide) ?_
        refine lv_iload_n hx hb dX3_partIsEmpty_69 rfl (lv_at hl 2 rfl) ?_
        refine gi_add hx hb dX3_partIsEmpty_70 ?_
        obtain ⟨r_24, hc_23, hM⟩ := bd1_some hM
        refine g_vi (As := [.int (iI (6 + a1))]) (rest := []) S hG hsz (vX3_exprIsEmpty_33 l hn (6 + a1) hc_23) wV_3_68 (ec_33 _) cpX3 (Nat.lt_of_lt_of_le (Nat.le_of_ble_eq_true rfl) hn) dX3_partIsEmpty_71 rfl hl.1 (ar := 1) (by decide +kernel) rfl ⟨Nat.le_of_ble_eq_true rfl, Nat.le_of_ble_eq_true rfl, Nat.le_of_ble_eq_true rfl, Nat.le_of_ble_eq_true rfl⟩ (Nat.le_of_ble_eq_true rfl) (fun rv uu H locs hp hG => ?_)
        obtain ⟨rfl, rfl⟩ := hp
        replace hG : gW D cy b n s H locs (enc b cy X S0) := hG
        obtain ⟨hg_25, hM⟩ := gd_some hM
        cases hM
        exact g_zret S hr hlk hG hsz dX3_partIsEmpty_74 ⟨Nat.le_of_ble_eq_true rfl, Nat.le_of_ble_eq_true rfl⟩ (nar_z hg_25) ⟨rfl, rfl⟩
    · replace hM := ifp hM c_10
      refine lv_aload_n hx hb dX3_partIsEmpty_35 rfl (lv_at hl 1 rfl) ?_
      refine m_get S hG 33 33 2 rfl ec_33 cpX3 wm_321 dX3_partIsEmpty_36 rfl (Nat.lt_of_lt_of_le (Nat.le_of_ble_eq_true rfl) hn) (by decide) ?_
      refine lv_aload_n hx hb dX3_partIsEmpty_39 rfl (lv_at hl 1 rfl) ?_
      refine m_get S hG 33 33 0 rfl ec_33 cpX3 wm_319 dX3_partIsEmpty_40 rfl (Nat.lt_of_lt_of_le (Nat.le_of_ble_eq_true rfl) hn) (by decide) ?_
      refine m_get S hG 2 2 6 rfl ec_2 cpX2 wm_242 dX3_partIsEmpty_43 rfl (Nat.lt_of_lt_of_le (Nat.le_of_ble_eq_true rfl) hn) (by decide) ?_
      refine lv_iload_n hx hb dX3_partIsEmpty_46 rfl (lv_at hl 2 rfl) ?_
      refine mi_ald S hG 4 4 rfl ec_4 (Nat.lt_of_lt_of_le (Nat.le_of_ble_eq_true rfl) hn) dX3_partIsEmpty_47 hg_1 (by decide) ?_
      refine gi_shr hx hb dX3_partIsEmpty_48 ?_
      refine lv_iconst (v := iI 1) hx hb dX3_partIsEmpty_49 (by decide) ?_
      refine gi_and hx hb dX3_partIsEmpty_50 ?_
      obtain ⟨hg_26, hM⟩ := gd_some hM
      refine gi_if_eq (tgt := 58) hx hb dX3_partIsEmpty_51 (by decide) hg_26 (fun c_27 => ?_) (fun c_27 => ?_)
      · replace hM := ifp hM c_27
        refine lv_iconst (v := iI 0) hx hb dX3_partIsEmpty_58 (by decide) ?_
        cases hM
        exact g_zret S hr hlk hG hsz dX3_partIsEmpty_59 ⟨Nat.le_of_ble_eq_true rfl, Nat.le_of_ble_eq_true rfl⟩ (nar_z (by decide)) ⟨rfl, rfl⟩
      · replace hM := ifn hM c_27
        refine lv_iconst (v := iI 1) hx hb dX3_partIsEmpty_54 (by decide) ?_
        refine lv_goto (tgt := 59) hx hb dX3_partIsEmpty_55 (by decide) ?_
        cases hM
        exact g_zret S hr hlk hG hsz dX3_partIsEmpty_59 ⟨Nat.le_of_ble_eq_true rfl, Nat.le_of_ble_eq_true rfl⟩ (nar_z (by decide)) ⟨rfl, rfl⟩
  clear hM
  replace hM := hc_4
  obtain ⟨hg_28, hM⟩ := gd_some hM
  refine gi_if_eq (tgt := 19) hx hb dX3_partIsEmpty_11 (by decide) hg_28 (fun c_29 => ?_) (fun c_29 => ?_)
  · replace hM := ifp hM c_29
    cases hM
    exact hK_5 H locs ls rfl hG (lv_sub hl [0] rfl)
  · replace hM := ifn hM c_29
    refine lv_iload_n hx hb dX3_partIsEmpty_14 rfl (lv_at hl 0 rfl) ?_
    refine lv_iconst (v := iI 1) hx hb dX3_partIsEmpty_15 (by decide) ?_
    refine gi_icmp_ne (tgt := 30) hx hb dX3_partIsEmpty_16 (by decide) hg_28 (by decide) (fun c_30 => ?_) (fun c_30 => ?_)
    · replace hM := ifn hM c_30
      cases hM
      exact hK_8 H locs ls rfl hG (lv_sub hl [0, 1, 2] rfl)
    · replace hM := ifp hM c_30
      cases hM
      exact hK_5 H locs ls rfl hG (lv_sub hl [0] rfl)
def mX3_findEmpty_33_86 (x_17 : Int) (x_16 : Int) (v_3 : Int) : Nat → Int → St → Option (St)
  | 0, _, _ => none
  | f + 1, v_24, S_25 => gd ((inI v_24) ∧ (inI (S_25 2 1))) <| if (S_25 2 1) ≤ v_24 then (some (S_25)) else (bd1 (mX3_exprIsEmpty_33 S_25 v_24) fun r_39 => gd (inI r_39) <| if r_39 = 0 then (nx (up S_25 33 2 (orr (S_25 33 2) 0)) fun S_42 => mX3_findEmpty_33_86 x_17 x_16 v_3 f (v_24 + 1) S_42) else (nx (up S_25 33 2 (orr (S_25 33 2) (shl 1 v_24))) fun S_43 => mX3_findEmpty_33_86 x_17 x_16 v_3 f (v_24 + 1) S_43))
def mX3_findEmpty_33_46 (x_17 : Int) (x_16 : Int) (v_3 : Int) : Nat → Int → St → Option (St)
  | 0, _, _ => none
  | f + 1, v_19, S_20 => gd (inI v_19) <| if v_19 < 0 then (some (S_20)) else (bd1 (mX3_partIsEmpty_33 S_20 v_19) fun r_50 => gd (inI r_50) <| if r_50 = 0 then (nx (up S_20 33 1 (orr (S_20 33 1) 0)) fun S_53 => mX3_findEmpty_33_46 x_17 x_16 v_3 f (v_19 - 1) S_53) else (nx (up S_20 33 1 (orr (S_20 33 1) (shl 1 v_19))) fun S_54 => mX3_findEmpty_33_46 x_17 x_16 v_3 f (v_19 - 1) S_54))
def mX3_findEmpty_33_14  : Nat → Int → Int → St → Option (St)
  | 0, _, _, _ => none
  | f + 1, v_3, v_4, S_5 => gd (inI v_3) <| if 54 < v_3 then (some (S_5)) else (gd (inI v_4) <| if v_4 = 0 then (some (S_5)) else (nx (S_5 33 1) fun x_16 => nx (S_5 33 2) fun x_17 => nx ((S_5 2 3) - 1) fun x_18 => bd1 (mX3_findEmpty_33_46 x_17 x_16 v_3 FU x_18 S_5) fun S_21 => bd1 (mX3_findEmpty_33_86 x_17 x_16 v_3 FU 0 S_21) fun S_26 => gd ((inI x_16) ∧ (inI (S_26 33 1))) <| if x_16 = (S_26 33 1) then (gd ((inI x_17) ∧ (inI (S_26 33 2))) <| if x_17 = (S_26 33 2) then (mX3_findEmpty_33_14 f (v_3 + 1) 0 S_26) else (mX3_findEmpty_33_14 f (v_3 + 1) 1 S_26)) else (mX3_findEmpty_33_14 f (v_3 + 1) 1 S_26)))
def mX3_findEmpty_33 (S0 : St)  : Option (St) := nx (up S0 33 1 0) fun S_1 => nx (up S_1 33 2 0) fun S_2 => bd1 (mX3_findEmpty_33_14 FU 0 1 S_2) fun S_6 => some (S_6)
set_option maxHeartbeats 4000000 in
set_option maxRecDepth 100000 in
theorem vX3_findEmpty_33 (l : Launch) {D : va_G} {cy : Nat → ClassId} {b n : Nat} (hn : 102 ≤ n) {X : Nat → va_E} {S0 : St}  {o1 : St} (hM : mX3_findEmpty_33 S0  = some o1) : gV l yX3_findEmpty cX3_findEmpty 6 4 0 0 D cy b n (enc b cy X S0) [.ref (b + 33)] (fun u => u = (n, enc b cy X o1)) := by
  refine gV_of (by decide) (Nat.le_of_ble_eq_true rfl) ?_
  intro p e s m args below meth c S hr hlk hin hsz ls hl hG
  have hx := S.1
  have hb := S.2.1
  have hl : lv_has ls 6 [(0, .ref (b + 33))] := hl
  replace hG : gW D cy b n s s.heap [] (enc b cy X S0) := hG
  obtain ⟨H, eH⟩ : ∃ H, H = s.heap := ⟨_, rfl⟩
  obtain ⟨locs, elocs⟩ : ∃ locs : List Loc, locs = [] := ⟨_, rfl⟩
  rw [← eH, ← elocs] at hG
  rw [← eH, ← elocs]
  clear eH elocs
  unfold mX3_findEmpty_33 at hM
  refine lv_aload_n hx hb dX3_findEmpty_0 rfl (lv_at hl 0 rfl) ?_
  refine lv_iconst (v := iI 0) hx hb dX3_findEmpty_1 (by decide) ?_
  refine m_put S hG 33 33 1 rfl 1 0 ec_33 cpX3 wm_320 dX3_findEmpty_2 (pf_33_1) (Nat.lt_of_lt_of_le (Nat.le_of_ble_eq_true rfl) hn) (by decide) (Nat.le_of_ble_eq_true rfl) rfl rfl rfl (fun H locs S_1 eS_1 hG => ?_)
  replace hM := nx_at hM eS_1
  clear eS_1
  refine lv_aload_n hx hb dX3_findEmpty_5 rfl (lv_at hl 0 rfl) ?_
  refine lv_iconst (v := iI 0) hx hb dX3_findEmpty_6 (by decide) ?_
  refine m_put S hG 33 33 2 rfl 2 0 ec_33 cpX3 wm_321 dX3_findEmpty_7 (pf_33_2) (Nat.lt_of_lt_of_le (Nat.le_of_ble_eq_true rfl) hn) (by decide) (Nat.le_of_ble_eq_true rfl) rfl rfl rfl (fun H locs S_2 eS_2 hG => ?_)
  replace hM := nx_at hM eS_2
  clear eS_2
  refine lv_iconst (v := iI 1) hx hb dX3_findEmpty_10 (by decide) ?_
  refine lv_istore_n (lv' := [(1, .int (iI 1)), (0, .ref (b + 33))]) hx hb dX3_findEmpty_11 rfl hl (by decide) rfl (fun ls hl => ?_)
  refine lv_iconst (v := iI 0) hx hb dX3_findEmpty_12 (by decide) ?_
  refine lv_istore_n (lv' := [(2, .int (iI 0)), (1, .int (iI 1)), (0, .ref (b + 33))]) hx hb dX3_findEmpty_13 rfl hl (by decide) rfl (fun ls hl => ?_)
  obtain ⟨S_6, hc_7, hM⟩ := bd1_some hM
  have hK_8 : ∀ (H : Heap) (locs : List Loc) (ls : Array Slot), gW D cy b n s H locs (enc b cy X S_6) → lv_has ls 6 [] → W p l e (gRm 4 0 0) s m args below meth c H locs 0 0 (gQV D cy b s args below 0 0 (fun u => u = (n, enc b cy X o1))) (F0 m 159 ls []) := by
    intro H locs ls hG hl
    cases hM
    exact g_vret S hr hlk hG hsz dX3_findEmpty_159 ⟨Nat.le_of_ble_eq_true rfl, Nat.le_of_ble_eq_true rfl⟩ rfl
  have loop_9 : ∀ (f : Nat) (v_3 : Int) (v_4 : Int) (S_5 : St) (H : Heap) (locs : List Loc) (ls : Array Slot), mX3_findEmpty_33_14 f v_3 v_4 S_5 = some S_6 → gW D cy b n s H locs (enc b cy X S_5) → lv_has ls 6 [(2, .int (iI v_3)), (1, .int (iI v_4)), (0, .ref (b + 33))] → W p l e (gRm 4 0 0) s m args below meth c H locs 0 0 (gQV D cy b s args below 0 0 (fun u => u = (n, enc b cy X o1))) (F0 m 14 ls []) := by
    clear hM
    intro f
    induction f with
    | zero => intro v_3 v_4 S_5 H locs ls hM; rw [mX3_findEmpty_33_14] at hM; cases hM
    | succ f_11 ih_10 =>
      intro v_3 v_4 S_5 H locs ls hM hG hl
      rw [mX3_findEmpty_33_14] at hM
      refine lv_iload_n hx hb dX3_findEmpty_14 rfl (lv_at hl 0 rfl) ?_
      refine lv_bipush (v := iI 54) hx hb dX3_findEmpty_15 (by decide) ?_
      obtain ⟨hg_12, hM⟩ := gd_some hM
      refine gi_icmp_gt (tgt := 159) hx hb dX3_findEmpty_17 (by decide) hg_12 (by decide) (fun c_13 => ?_) (fun c_13 => ?_)
      · replace hM := ifp hM c_13
        cases hM
        exact hK_8 H locs ls hG (lv_sub hl [] rfl)
      · replace hM := ifn hM c_13
        refine lv_iload_n hx hb dX3_findEmpty_20 rfl (lv_at hl 1 rfl) ?_
        obtain ⟨hg_14, hM⟩ := gd_some hM
        refine gi_if_eq (tgt := 159) hx hb dX3_findEmpty_21 (by decide) hg_14 (fun c_15 => ?_) (fun c_15 => ?_)
        · replace hM := ifp hM c_15
          cases hM
          exact hK_8 H locs ls hG (lv_sub hl [] rfl)
        · replace hM := ifn hM c_15
          refine lv_aload_n hx hb dX3_findEmpty_24 rfl (lv_at hl 2 rfl) ?_
          refine m_get S hG 33 33 1 rfl ec_33 cpX3 wm_320 dX3_findEmpty_25 rfl (Nat.lt_of_lt_of_le (Nat.le_of_ble_eq_true rfl) hn) (by decide) ?_
          refine gi_nm (fun x_16 ex_16 => ?_)
          replace hM := nx_at hM ex_16
          clear ex_16
          refine lv_istore_n (lv' := [(3, .int (iI x_16)), (2, .int (iI v_3)), (1, .int (iI v_4)), (0, .ref (b + 33))]) hx hb dX3_findEmpty_28 rfl hl (by decide) rfl (fun ls hl => ?_)
          refine lv_aload_n hx hb dX3_findEmpty_29 rfl (lv_at hl 3 rfl) ?_
          refine m_get S hG 33 33 2 rfl ec_33 cpX3 wm_321 dX3_findEmpty_30 rfl (Nat.lt_of_lt_of_le (Nat.le_of_ble_eq_true rfl) hn) (by decide) ?_
          refine gi_nm (fun x_17 ex_17 => ?_)
          replace hM := nx_at hM ex_17
          clear ex_17
          refine lv_istore (lv' := [(4, .int (iI x_17)), (3, .int (iI x_16)), (2, .int (iI v_3)), (1, .int (iI v_4)), (0, .ref (b + 33))]) hx hb dX3_findEmpty_33 hl (by decide) rfl (fun ls hl => ?_)
          refine lv_aload_n hx hb dX3_findEmpty_35 rfl (lv_at hl 4 rfl) ?_
          refine m_get S hG 33 33 0 rfl ec_33 cpX3 wm_319 dX3_findEmpty_36 rfl (Nat.lt_of_lt_of_le (Nat.le_of_ble_eq_true rfl) hn) (by decide) ?_
          refine m_get S hG 2 2 3 rfl ec_2 cpX2 wm_227 dX3_findEmpty_39 rfl (Nat.lt_of_lt_of_le (Nat.le_of_ble_eq_true rfl) hn) (by decide) ?_
          refine lv_iconst (v := iI 1) hx hb dX3_findEmpty_42 (by decide) ?_
          refine gi_sub hx hb dX3_findEmpty_43 ?_
          refine gi_nm (fun x_18 ex_18 => ?_)
          replace hM := nx_at hM ex_18
          clear ex_18
          refine lv_istore (lv' := [(5, .int (iI x_18)), (4, .int (iI x_17)), (3, .int (iI x_16)), (2, .int (iI v_3)), (1, .int (iI v_4)), (0, .ref (b + 33))]) hx hb dX3_findEmpty_44 hl (by decide) rfl (fun ls hl => ?_)
          obtain ⟨S_21, hc_22, hM⟩ := bd1_some hM
          have hK_23 : ∀ (H : Heap) (locs : List Loc) (ls : Array Slot), gW D cy b n s H locs (enc b cy X S_21) → lv_has ls 6 [(4, .int (iI x_17)), (3, .int (iI x_16)), (2, .int (iI v_3)), (0, .ref (b + 33))] → W p l e (gRm 4 0 0) s m args below meth c H locs 0 0 (gQV D cy b s args below 0 0 (fun u => u = (n, enc b cy X o1))) (F0 m 83 ls []) := by
            intro H locs ls hG hl
            refine lv_iconst (v := iI 0) hx hb dX3_findEmpty_83 (by decide) ?_
            refine lv_istore (lv' := [(5, .int (iI 0)), (4, .int (iI x_17)), (3, .int (iI x_16)), (2, .int (iI v_3)), (0, .ref (b + 33))]) hx hb dX3_findEmpty_84 hl (by decide) rfl (fun ls hl => ?_)
            obtain ⟨S_26, hc_27, hM⟩ := bd1_some hM
            have hK_28 : ∀ (H : Heap) (locs : List Loc) (ls : Array Slot), gW D cy b n s H locs (enc b cy X S_26) → lv_has ls 6 [(4, .int (iI x_17)), (3, .int (iI x_16)), (2, .int (iI v_3)), (0, .ref (b + 33))] → W p l e (gRm 4 0 0) s m args below meth c H locs 0 0 (gQV D cy b s args below 0 0 (fun u => u = (n, enc b cy X o1))) (F0 m 130 ls []) := by
              intro H locs ls hG hl
              refine lv_iload_n hx hb dX3_findEmpty_130 rfl (lv_at hl 1 rfl) ?_
              refine lv_aload_n hx hb dX3_findEmpty_131 rfl (lv_at hl 3 rfl) ?_
              refine m_get S hG 33 33 1 rfl ec_33 cpX3 wm_320 dX3_findEmpty_132 rfl (Nat.lt_of_lt_of_le (Nat.le_of_ble_eq_true rfl) hn) (by decide) ?_
              obtain ⟨hg_29, hM⟩ := gd_some hM
              refine gi_icmp_ne (tgt := 147) hx hb dX3_findEmpty_135 (by decide) hg_29.1 hg_29.2 (fun c_30 => ?_) (fun c_30 => ?_)
              · replace hM := ifn hM c_30
                refine lv_iconst (v := iI 1) hx hb dX3_findEmpty_147 (by decide) ?_
                refine lv_goto (tgt := 152) hx hb dX3_findEmpty_148 (by decide) ?_
                refine lv_istore_n (lv' := [(1, .int (iI 1)), (4, .int (iI x_17)), (3, .int (iI x_16)), (2, .int (iI v_3)), (0, .ref (b + 33))]) hx hb dX3_findEmpty_152 rfl hl (by decide) rfl (fun ls hl => ?_)
                refine lv_iinc (v := iI (v_3 + 1)) (lv' := [(2, .int (iI (v_3 + 1))), (1, .int (iI 1)), (4, .int (iI x_17)), (3, .int (iI x_16)), (0, .ref (b + 33))]) hx hb dX3_findEmpty_153 hl (k := 3) rfl ((iI_add v_3 (1)).trans (congrArg iI (by omega))) (by decide) rfl (fun ls hl => ?_)
                refine lv_goto (tgt := 14) hx hb dX3_findEmpty_156 (by decide) ?_
                exact ih_10 (v_3 + 1) 1 S_26 H locs ls hM hG (lv_sub hl [0, 1, 4] rfl)
              · replace hM := ifp hM c_30
                refine lv_iload hx hb dX3_findEmpty_138 (lv_at hl 0 rfl) ?_
                refine lv_aload_n hx hb dX3_findEmpty_140 rfl (lv_at hl 3 rfl) ?_
                refine m_get S hG 33 33 2 rfl ec_33 cpX3 wm_321 dX3_findEmpty_141 rfl (Nat.lt_of_lt_of_le (Nat.le_of_ble_eq_true rfl) hn) (by decide) ?_
                obtain ⟨hg_31, hM⟩ := gd_some hM
                refine gi_icmp_eq (tgt := 151) hx hb dX3_findEmpty_144 (by decide) hg_31.1 hg_31.2 (fun c_32 => ?_) (fun c_32 => ?_)
                · replace hM := ifp hM c_32
                  refine lv_iconst (v := iI 0) hx hb dX3_findEmpty_151 (by decide) ?_
                  refine lv_istore_n (lv' := [(1, .int (iI 0)), (4, .int (iI x_17)), (3, .int (iI x_16)), (2, .int (iI v_3)), (0, .ref (b + 33))]) hx hb dX3_findEmpty_152 rfl hl (by decide) rfl (fun ls hl => ?_)
                  refine lv_iinc (v := iI (v_3 + 1)) (lv' := [(2, .int (iI (v_3 + 1))), (1, .int (iI 0)), (4, .int (iI x_17)), (3, .int (iI x_16)), (0, .ref (b + 33))]) hx hb dX3_findEmpty_153 hl (k := 3) rfl ((iI_add v_3 (1)).trans (congrArg iI (by omega))) (by decide) rfl (fun ls hl => ?_)
                  refine lv_goto (tgt := 14) hx hb dX3_findEmpty_156 (by decide) ?_
                  exact ih_10 (v_3 + 1) 0 S_26 H locs ls hM hG (lv_sub hl [0, 1, 4] rfl)
                · replace hM := ifn hM c_32
                  refine lv_iconst (v := iI 1) hx hb dX3_findEmpty_147 (by decide) ?_
                  refine lv_goto (tgt := 152) hx hb dX3_findEmpty_148 (by decide) ?_
                  refine lv_istore_n (lv' := [(1, .int (iI 1)), (4, .int (iI x_17)), (3, .int (iI x_16)), (2, .int (iI v_3)), (0, .ref (b + 33))]) hx hb dX3_findEmpty_152 rfl hl (by decide) rfl (fun ls hl => ?_)
                  refine lv_iinc (v := iI (v_3 + 1)) (lv' := [(2, .int (iI (v_3 + 1))), (1, .int (iI 1)), (4, .int (iI x_17)), (3, .int (iI x_16)), (0, .ref (b + 33))]) hx hb dX3_findEmpty_153 hl (k := 3) rfl ((iI_add v_3 (1)).trans (congrArg iI (by omega))) (by decide) rfl (fun ls hl => ?_)
                  refine lv_goto (tgt := 14) hx hb dX3_findEmpty_156 (by decide) ?_
                  exact ih_10 (v_3 + 1) 1 S_26 H locs ls hM hG (lv_sub hl [0, 1, 4] rfl)
            have loop_33 : ∀ (f : Nat) (v_24 : Int) (S_25 : St) (H : Heap) (locs : List Loc) (ls : Array Slot), mX3_findEmpty_33_86 x_17 x_16 v_3 f v_24 S_25 = some S_26 → gW D cy b n s H locs (enc b cy X S_25) → lv_has ls 6 [(5, .int (iI v_24)), (4, .int (iI x_17)), (3, .int (iI x_16)), (2, .int (iI v_3)), (0, .ref (b + 33))] → W p l e (gRm 4 0 0) s m args below meth c H locs 0 0 (gQV D cy b s args below 0 0 (fun u => u = (n, enc b cy X o1))) (F0 m 86 ls []) := by
              clear hM
              intro f
              induction f with
              | zero => intro v_24 S_25 H locs ls hM; rw [mX3_findEmpty_33_86] at hM; cases hM
              | succ f_35 ih_34 =>
                intro v_24 S_25 H locs ls hM hG hl
                rw [mX3_findEmpty_33_86] at hM
                refine lv_iload hx hb dX3_findEmpty_86 (lv_at hl 0 rfl) ?_
                refine lv_aload_n hx hb dX3_findEmpty_88 rfl (lv_at hl 4 rfl) ?_
                refine m_get S hG 33 33 0 rfl ec_33 cpX3 wm_319 dX3_findEmpty_89 rfl (Nat.lt_of_lt_of_le (Nat.le_of_ble_eq_true rfl) hn) (by decide) ?_
                refine m_get S hG 2 2 1 rfl ec_2 cpX2 wm_219 dX3_findEmpty_92 rfl (Nat.lt_of_lt_of_le (Nat.le_of_ble_eq_true rfl) hn) (by decide) ?_
                obtain ⟨hg_36, hM⟩ := gd_some hM
                refine gi_icmp_ge (tgt := 130) hx hb dX3_findEmpty_95 (by decide) hg_36.1 hg_36.2 (fun c_37 => ?_) (fun c_37 => ?_)
                · replace hM := ifp hM c_37
                  cases hM
                  exact hK_28 H locs ls hG (lv_sub hl [1, 2, 3, 4] rfl)
                · replace hM := ifn hM c_37
                  refine lv_aload_n hx hb dX3_findEmpty_98 rfl (lv_at hl 4 rfl) ?_
                  refine lv_dup hx hb dX3_findEmpty_99 rfl ?_
                  refine m_get S hG 33 33 2 rfl ec_33 cpX3 wm_321 dX3_findEmpty_100 rfl (Nat.lt_of_lt_of_le (Nat.le_of_ble_eq_true rfl) hn) (by decide) ?_
                  refine lv_aload_n hx hb dX3_findEmpty_103 rfl (lv_at hl 4 rfl) ?_
                  refine lv_iload hx hb dX3_findEmpty_104 (lv_at hl 0 rfl) ?_
                  obtain ⟨r_39, hc_38, hM⟩ := bd1_some hM
                  refine g_vi (As := [.int (iI v_24)]) (rest := [.int (iI (S_25 33 2)), .ref (b + 33)]) S hG hsz (vX3_exprIsEmpty_33 l hn v_24 hc_38) wV_3_68 (ec_33 _) cpX3 (Nat.lt_of_lt_of_le (Nat.le_of_ble_eq_true rfl) hn) dX3_findEmpty_106 rfl hl.1 (ar := 1) (by decide +kernel) rfl ⟨Nat.le_of_ble_eq_true rfl, Nat.le_of_ble_eq_true rfl, Nat.le_of_ble_eq_true rfl, Nat.le_of_ble_eq_true rfl⟩ (Nat.le_of_ble_eq_true rfl) (fun rv uu H locs hp hG => ?_)
                  obtain ⟨rfl, rfl⟩ := hp
                  replace hG : gW D cy b n s H locs (enc b cy X S_25) := hG
                  obtain ⟨hg_40, hM⟩ := gd_some hM
                  refine gi_if_eq (tgt := 119) hx hb dX3_findEmpty_109 (by decide) hg_40 (fun c_41 => ?_) (fun c_41 => ?_)
                  · replace hM := ifp hM c_41
                    refine lv_iconst (v := iI 0) hx hb dX3_findEmpty_119 (by decide) ?_
                    refine gi_or hx hb dX3_findEmpty_120 ?_
                    refine m_put S hG 33 33 2 rfl 2 (orr (S_25 33 2) 0) ec_33 cpX3 wm_321 dX3_findEmpty_121 (pf_33_2) (Nat.lt_of_lt_of_le (Nat.le_of_ble_eq_true rfl) hn) (by decide) (Nat.le_of_ble_eq_true rfl) rfl rfl rfl (fun H locs S_42 eS_42 hG => ?_)
                    replace hM := nx_at hM eS_42
                    clear eS_42
                    refine lv_iinc (v := iI (v_24 + 1)) (lv' := [(5, .int (iI (v_24 + 1))), (4, .int (iI x_17)), (3, .int (iI x_16)), (2, .int (iI v_3)), (0, .ref (b + 33))]) hx hb dX3_findEmpty_124 hl (k := 0) rfl ((iI_add v_24 (1)).trans (congrArg iI (by omega))) (by decide) rfl (fun ls hl => ?_)
                    refine lv_goto (tgt := 86) hx hb dX3_findEmpty_127 (by decide) ?_
                    exact ih_34 (v_24 + 1) S_42 H locs ls hM hG (lv_sub hl [0, 1, 2, 3, 4] rfl)
                  · replace hM := ifn hM c_41
                    refine lv_iconst (v := iI 1) hx hb dX3_findEmpty_112 (by decide) ?_
                    refine lv_iload hx hb dX3_findEmpty_113 (lv_at hl 0 rfl) ?_
                    refine gi_shl hx hb dX3_findEmpty_115 ?_
                    refine lv_goto (tgt := 120) hx hb dX3_findEmpty_116 (by decide) ?_
                    refine gi_or hx hb dX3_findEmpty_120 ?_
                    refine m_put S hG 33 33 2 rfl 2 (orr (S_25 33 2) (shl 1 v_24)) ec_33 cpX3 wm_321 dX3_findEmpty_121 (pf_33_2) (Nat.lt_of_lt_of_le (Nat.le_of_ble_eq_true rfl) hn) (by decide) (Nat.le_of_ble_eq_true rfl) rfl rfl rfl (fun H locs S_43 eS_43 hG => ?_)
                    replace hM := nx_at hM eS_43
                    clear eS_43
                    refine lv_iinc (v := iI (v_24 + 1)) (lv' := [(5, .int (iI (v_24 + 1))), (4, .int (iI x_17)), (3, .int (iI x_16)), (2, .int (iI v_3)), (0, .ref (b + 33))]) hx hb dX3_findEmpty_124 hl (k := 0) rfl ((iI_add v_24 (1)).trans (congrArg iI (by omega))) (by decide) rfl (fun ls hl => ?_)
                    refine lv_goto (tgt := 86) hx hb dX3_findEmpty_127 (by decide) ?_
                    exact ih_34 (v_24 + 1) S_43 H locs ls hM hG (lv_sub hl [0, 1, 2, 3, 4] rfl)
            exact loop_33 FU 0 S_21 H locs ls hc_27 hG (lv_sub hl [0, 1, 2, 3, 4] rfl)
          have loop_44 : ∀ (f : Nat) (v_19 : Int) (S_20 : St) (H : Heap) (locs : List Loc) (ls : Array Slot), mX3_findEmpty_33_46 x_17 x_16 v_3 f v_19 S_20 = some S_21 → gW D cy b n s H locs (enc b cy X S_20) → lv_has ls 6 [(5, .int (iI v_19)), (4, .int (iI x_17)), (3, .int (iI x_16)), (2, .int (iI v_3)), (0, .ref (b + 33))] → W p l e (gRm 4 0 0) s m args below meth c H locs 0 0 (gQV D cy b s args below 0 0 (fun u => u = (n, enc b cy X o1))) (F0 m 46 ls []) := by
            clear hM
            intro f
            induction f with
            | zero => intro v_19 S_20 H locs ls hM; rw [mX3_findEmpty_33_46] at hM; cases hM
            | succ f_46 ih_45 =>
              intro v_19 S_20 H locs ls hM hG hl
              rw [mX3_findEmpty_33_46] at hM
              refine lv_iload hx hb dX3_findEmpty_46 (lv_at hl 0 rfl) ?_
              obtain ⟨hg_47, hM⟩ := gd_some hM
              refine gi_if_lt (tgt := 83) hx hb dX3_findEmpty_48 (by decide) hg_47 (fun c_48 => ?_) (fun c_48 => ?_)
              · replace hM := ifp hM c_48
                cases hM
                exact hK_23 H locs ls hG (lv_sub hl [1, 2, 3, 4] rfl)
              · replace hM := ifn hM c_48
                refine lv_aload_n hx hb dX3_findEmpty_51 rfl (lv_at hl 4 rfl) ?_
                refine lv_dup hx hb dX3_findEmpty_52 rfl ?_
                refine m_get S hG 33 33 1 rfl ec_33 cpX3 wm_320 dX3_findEmpty_53 rfl (Nat.lt_of_lt_of_le (Nat.le_of_ble_eq_true rfl) hn) (by decide) ?_
                refine lv_aload_n hx hb dX3_findEmpty_56 rfl (lv_at hl 4 rfl) ?_
                refine lv_iload hx hb dX3_findEmpty_57 (lv_at hl 0 rfl) ?_
                obtain ⟨r_50, hc_49, hM⟩ := bd1_some hM
                refine g_vi (As := [.int (iI v_19)]) (rest := [.int (iI (S_20 33 1)), .ref (b + 33)]) S hG hsz (vX3_partIsEmpty_33 l hn v_19 hc_49) wV_3_64 (ec_33 _) cpX3 (Nat.lt_of_lt_of_le (Nat.le_of_ble_eq_true rfl) hn) dX3_findEmpty_59 rfl hl.1 (ar := 1) (by decide +kernel) rfl ⟨Nat.le_of_ble_eq_true rfl, Nat.le_of_ble_eq_true rfl, Nat.le_of_ble_eq_true rfl, Nat.le_of_ble_eq_true rfl⟩ (Nat.le_of_ble_eq_true rfl) (fun rv uu H locs hp hG => ?_)
                obtain ⟨rfl, rfl⟩ := hp
                replace hG : gW D cy b n s H locs (enc b cy X S_20) := hG
                obtain ⟨hg_51, hM⟩ := gd_some hM
                refine gi_if_eq (tgt := 72) hx hb dX3_findEmpty_62 (by decide) hg_51 (fun c_52 => ?_) (fun c_52 => ?_)
                · replace hM := ifp hM c_52
                  refine lv_iconst (v := iI 0) hx hb dX3_findEmpty_72 (by decide) ?_
                  refine gi_or hx hb dX3_findEmpty_73 ?_
                  refine m_put S hG 33 33 1 rfl 1 (orr (S_20 33 1) 0) ec_33 cpX3 wm_320 dX3_findEmpty_74 (pf_33_1) (Nat.lt_of_lt_of_le (Nat.le_of_ble_eq_true rfl) hn) (by decide) (Nat.le_of_ble_eq_true rfl) rfl rfl rfl (fun H locs S_53 eS_53 hG => ?_)
                  replace hM := nx_at hM eS_53
                  clear eS_53
                  refine lv_iinc (v := iI (v_19 - 1)) (lv' := [(5, .int (iI (v_19 - 1))), (4, .int (iI x_17)), (3, .int (iI x_16)), (2, .int (iI v_3)), (0, .ref (b + 33))]) hx hb dX3_findEmpty_77 hl (k := 0) rfl ((iI_add v_19 (-1)).trans (congrArg iI (by omega))) (by decide) rfl (fun ls hl => ?_)
                  refine lv_goto (tgt := 46) hx hb dX3_findEmpty_80 (by decide) ?_
                  exact ih_45 (v_19 - 1) S_53 H locs ls hM hG (lv_sub hl [0, 1, 2, 3, 4] rfl)
                · replace hM := ifn hM c_52
                  refine lv_iconst (v := iI 1) hx hb dX3_findEmpty_65 (by decide) ?_
                  refine lv_iload hx hb dX3_findEmpty_66 (lv_at hl 0 rfl) ?_
                  refine gi_shl hx hb dX3_findEmpty_68 ?_
                  refine lv_goto (tgt := 73) hx hb dX3_findEmpty_69 (by decide) ?_
                  refine gi_or hx hb dX3_findEmpty_73 ?_
                  refine m_put S hG 33 33 1 rfl 1 (orr (S_20 33 1) (shl 1 v_19)) ec_33 cpX3 wm_320 dX3_findEmpty_74 (pf_33_1) (Nat.lt_of_lt_of_le (Nat.le_of_ble_eq_true rfl) hn) (by decide) (Nat.le_of_ble_eq_true rfl) rfl rfl rfl (fun H locs S_54 eS_54 hG => ?_)
                  replace hM := nx_at hM eS_54
                  clear eS_54
                  refine lv_iinc (v := iI (v_19 - 1)) (lv' := [(5, .int (iI (v_19 - 1))), (4, .int (iI x_17)), (3, .int (iI x_16)), (2, .int (iI v_3)), (0, .ref (b + 33))]) hx hb dX3_findEmpty_77 hl (k := 0) rfl ((iI_add v_19 (-1)).trans (congrArg iI (by omega))) (by decide) rfl (fun ls hl => ?_)
                  refine lv_goto (tgt := 46) hx hb dX3_findEmpty_80 (by decide) ?_
                  exact ih_45 (v_19 - 1) S_54 H locs ls hM hG (lv_sub hl [0, 1, 2, 3, 4] rfl)
          exact loop_44 FU x_18 S_5 H locs ls hc_22 hG (lv_sub hl [0, 1, 2, 3, 5] rfl)
  exact loop_9 FU 0 1 S_2 H locs ls hc_7 hG (lv_sub hl [0, 1, 2] rfl)
def mX3_exprLeans_33_51 (S0 : St) (r_13 : Int) (v_1 : Int) (a1 : Int) : Nat → Int → Int → Int → Option (Int)
  | 0, _, _, _ => none
  | f + 1, v_19, v_20, v_21 => gd (inI v_19) <| if 24 ≤ v_19 then (some (v_21)) else (gd (inI v_20) <| if v_20 = (-1) then (some (v_21)) else (bd1 (mX3_allEmpty_33 S0 r_13 v_20) fun r_33 => bd1 (gd (inI r_33) <| if r_33 = 0 then (some (0)) else (gd (0 ≤ v_20 ∧ v_20 < 24) <| some ((S0 34 v_20)))) fun z_34 => nx (orr v_21 z_34) fun x_37 => gd (0 ≤ v_20 ∧ v_20 < 24) <| nx (S0 6 v_20) fun x_39 => mX3_exprLeans_33_51 S0 r_13 v_1 a1 f (v_19 + 1) x_39 x_37))
def mX3_exprLeans_33_4 (S0 : St) (a1 : Int) : Nat → Int → Int → Option (Int)
  | 0, _, _ => none
  | f + 1, v_1, v_2 => gd (0 ≤ a1 ∧ a1 < 30) <| gd ((inI v_1) ∧ (inI (S0 8 a1))) <| if (S0 8 a1) ≤ v_1 then (some (v_2)) else (bd1 (mX2_start_2 S0 a1 v_1) fun r_13 => bd1 (mX2_isOff_2 S0 a1 v_1) fun r_15 => bd1 (gd (inI r_15) <| if r_15 = 0 then (some (r_13)) else (some ((-1)))) fun z_16 => bd1 (mX3_exprLeans_33_51 S0 r_13 v_1 a1 FU 0 z_16 v_2) fun y_22 => mX3_exprLeans_33_4 S0 a1 f (v_1 + 1) y_22)
def mX3_exprLeans_33 (S0 : St) (a1 : Int) : Option (Int) := bd1 (mX3_exprLeans_33_4 S0 a1 FU 0 0) fun y_3 => some (y_3)
set_option maxHeartbeats 4000000 in
set_option maxRecDepth 100000 in
theorem vX3_exprLeans_33 (l : Launch) {D : va_G} {cy : Nat → ClassId} {b n : Nat} (hn : 102 ≤ n) {X : Nat → va_E} {S0 : St} (a1 : Int) {o1 : Int} (hM : mX3_exprLeans_33 S0 a1 = some o1) : gI l yX3_exprLeans cX3_exprLeans 7 (some .int) 2 0 0 D cy b n (enc b cy X S0) [.ref (b + 33), .int (iI a1)] (fun r u => r = iI o1 ∧ u = (n, enc b cy X S0)) := by
  refine gI_of (by decide) (Nat.le_of_ble_eq_true rfl) ?_
  intro p e s m args below meth c S hr hlk hin hsz ls hl hG
  have hx := S.1
  have hb := S.2.1
  have hl : lv_has ls 7 [(0, .ref (b + 33)), (1, .int (iI a1))] := hl
  replace hG : gW D cy b n s s.heap [] (enc b cy X S0) := hG
  obtain ⟨H, eH⟩ : ∃ H, H = s.heap := ⟨_, rfl⟩
  obtain ⟨locs, elocs⟩ : ∃ locs : List Loc, locs = [] := ⟨_, rfl⟩
  rw [← eH, ← elocs] at hG
  rw [← eH, ← elocs]
  clear eH elocs
  unfold mX3_exprLeans_33 at hM
  refine lv_iconst (v := iI 0) hx hb dX3_exprLeans_0 (by decide) ?_
  refine lv_istore_n (lv' := [(2, .int (iI 0)), (0, .ref (b + 33)), (1, .int (iI a1))]) hx hb dX3_exprLeans_1 rfl hl (by decide) rfl (fun ls hl => ?_)
  refine lv_iconst (v := iI 0) hx hb dX3_exprLeans_2 (by decide) ?_
  refine lv_istore_n (lv' := [(3, .int (iI 0)), (2, .int (iI 0)), (0, .ref (b + 33)), (1, .int (iI a1))]) hx hb dX3_exprLeans_3 rfl hl (by decide) rfl (fun ls hl => ?_)
  obtain ⟨y_3, hc_4, hM⟩ := bd1_some hM
  have hK_5 : ∀ (H : Heap) (locs : List Loc) (ls : Array Slot), gW D cy b n s H locs (enc b cy X S0) → lv_has ls 7 [(2, .int (iI y_3))] → W p l e (gRm 2 0 0) s m args below meth c H locs 0 0 (gQI D cy b s args below 0 0 (fun r u => r = iI o1 ∧ u = (n, enc b cy X S0))) (F0 m 113 ls []) := by
    intro H locs ls hG hl
    refine lv_iload_n hx hb dX3_exprLeans_113 rfl (lv_at hl 0 rfl) ?_
    cases hM
    exact g_iret S hr hlk hG hsz dX3_exprLeans_114 ⟨Nat.le_of_ble_eq_true rfl, Nat.le_of_ble_eq_true rfl⟩ ⟨rfl, rfl⟩
  have loop_6 : ∀ (f : Nat) (v_1 : Int) (v_2 : Int) (H : Heap) (locs : List Loc) (ls : Array Slot), mX3_exprLeans_33_4 S0 a1 f v_1 v_2 = some y_3 → gW D cy b n s H locs (enc b cy X S0) → lv_has ls 7 [(3, .int (iI v_1)), (2, .int (iI v_2)), (0, .ref (b + 33)), (1, .int (iI a1))] → W p l e (gRm 2 0 0) s m args below meth c H locs 0 0 (gQI D cy b s args below 0 0 (fun r u => r = iI o1 ∧ u = (n, enc b cy X S0))) (F0 m 4 ls []) := by
    clear hM
    intro f
    induction f with
    | zero => intro v_1 v_2 H locs ls hM; rw [mX3_exprLeans_33_4] at hM; cases hM
    | succ f_8 ih_7 =>
      intro v_1 v_2 H locs ls hM hG hl
      rw [mX3_exprLeans_33_4] at hM
      refine lv_iload_n hx hb dX3_exprLeans_4 rfl (lv_at hl 0 rfl) ?_
      refine lv_aload_n hx hb dX3_exprLeans_5 rfl (lv_at hl 2 rfl) ?_
      refine m_get S hG 33 33 0 rfl ec_33 cpX3 wm_319 dX3_exprLeans_6 rfl (Nat.lt_of_lt_of_le (Nat.le_of_ble_eq_true rfl) hn) (by decide) ?_
      refine m_get S hG 2 2 10 rfl ec_2 cpX2 wm_264 dX3_exprLeans_9 rfl (Nat.lt_of_lt_of_le (Nat.le_of_ble_eq_true rfl) hn) (by decide) ?_
      refine lv_iload_n hx hb dX3_exprLeans_12 rfl (lv_at hl 3 rfl) ?_
      obtain ⟨hg_9, hM⟩ := gd_some hM
      refine mi_ald S hG 8 8 rfl ec_8 (Nat.lt_of_lt_of_le (Nat.le_of_ble_eq_true rfl) hn) dX3_exprLeans_13 hg_9 (by decide) ?_
      obtain ⟨hg_10, hM⟩ := gd_some hM
      refine gi_icmp_ge (tgt := 113) hx hb dX3_exprLeans_14 (by decide) hg_10.1 hg_10.2 (fun c_11 => ?_) (fun c_11 => ?_)
      · replace hM := ifp hM c_11
        cases hM
        exact hK_5 H locs ls hG (lv_sub hl [1] rfl)
      · replace hM := ifn hM c_11
        refine lv_aload_n hx hb dX3_exprLeans_17 rfl (lv_at hl 2 rfl) ?_
        refine m_get S hG 33 33 0 rfl ec_33 cpX3 wm_319 dX3_exprLeans_18 rfl (Nat.lt_of_lt_of_le (Nat.le_of_ble_eq_true rfl) hn) (by decide) ?_
        refine lv_iload_n hx hb dX3_exprLeans_21 rfl (lv_at hl 3 rfl) ?_
        refine lv_iload_n hx hb dX3_exprLeans_22 rfl (lv_at hl 0 rfl) ?_
        obtain ⟨r_13, hc_12, hM⟩ := bd1_some hM
        refine g_vi (As := [.int (iI a1), .int (iI v_1)]) (rest := []) S hG hsz (vX2_start_2 l hn a1 v_1 hc_12) wV_3_90 (ec_2 _) cpX2 (Nat.lt_of_lt_of_le (Nat.le_of_ble_eq_true rfl) hn) dX3_exprLeans_23 rfl hl.1 (ar := 2) (by decide +kernel) rfl ⟨Nat.le_of_ble_eq_true rfl, Nat.le_of_ble_eq_true rfl, Nat.le_of_ble_eq_true rfl, Nat.le_of_ble_eq_true rfl⟩ (Nat.le_of_ble_eq_true rfl) (fun rv uu H locs hp hG => ?_)
        obtain ⟨rfl, rfl⟩ := hp
        replace hG : gW D cy b n s H locs (enc b cy X S0) := hG
        refine lv_istore (lv' := [(4, .int (iI r_13)), (3, .int (iI v_1)), (2, .int (iI v_2)), (0, .ref (b + 33)), (1, .int (iI a1))]) hx hb dX3_exprLeans_26 hl (by decide) rfl (fun ls hl => ?_)
        refine lv_aload_n hx hb dX3_exprLeans_28 rfl (lv_at hl 3 rfl) ?_
        refine m_get S hG 33 33 0 rfl ec_33 cpX3 wm_319 dX3_exprLeans_29 rfl (Nat.lt_of_lt_of_le (Nat.le_of_ble_eq_true rfl) hn) (by decide) ?_
        refine lv_iload_n hx hb dX3_exprLeans_32 rfl (lv_at hl 4 rfl) ?_
        refine lv_iload_n hx hb dX3_exprLeans_33 rfl (lv_at hl 1 rfl) ?_
        obtain ⟨r_15, hc_14, hM⟩ := bd1_some hM
        refine g_vi (As := [.int (iI a1), .int (iI v_1)]) (rest := []) S hG hsz (vX2_isOff_2 l hn a1 v_1 hc_14) wV_3_86 (ec_2 _) cpX2 (Nat.lt_of_lt_of_le (Nat.le_of_ble_eq_true rfl) hn) dX3_exprLeans_34 rfl hl.1 (ar := 2) (by decide +kernel) rfl ⟨Nat.le_of_ble_eq_true rfl, Nat.le_of_ble_eq_true rfl, Nat.le_of_ble_eq_true rfl, Nat.le_of_ble_eq_true rfl⟩ (Nat.le_of_ble_eq_true rfl) (fun rv uu H locs hp hG => ?_)
        obtain ⟨rfl, rfl⟩ := hp
        replace hG : gW D cy b n s H locs (enc b cy X S0) := hG
        obtain ⟨z_16, hc_17, hM⟩ := bd1_some hM
        have hK_18 : ∀ (H : Heap) (locs : List Loc) (ls : Array Slot), gW D cy b n s H locs (enc b cy X S0) → lv_has ls 7 [(4, .int (iI r_13)), (3, .int (iI v_1)), (2, .int (iI v_2)), (0, .ref (b + 33)), (1, .int (iI a1))] → W p l e (gRm 2 0 0) s m args below meth c H locs 0 0 (gQI D cy b s args below 0 0 (fun r u => r = iI o1 ∧ u = (n, enc b cy X S0))) (F0 m 46 ls [.int (iI z_16)]) := by
          intro H locs ls hG hl
          refine lv_istore (lv' := [(5, .int (iI z_16)), (4, .int (iI r_13)), (3, .int (iI v_1)), (2, .int (iI v_2)), (0, .ref (b + 33)), (1, .int (iI a1))]) hx hb dX3_exprLeans_46 hl (by decide) rfl (fun ls hl => ?_)
          refine lv_iconst (v := iI 0) hx hb dX3_exprLeans_48 (by decide) ?_
          refine lv_istore (lv' := [(6, .int (iI 0)), (5, .int (iI z_16)), (4, .int (iI r_13)), (3, .int (iI v_1)), (2, .int (iI v_2)), (0, .ref (b + 33)), (1, .int (iI a1))]) hx hb dX3_exprLeans_49 hl (by decide) rfl (fun ls hl => ?_)
          obtain ⟨y_22, hc_23, hM⟩ := bd1_some hM
          have hK_24 : ∀ (H : Heap) (locs : List Loc) (ls : Array Slot), gW D cy b n s H locs (enc b cy X S0) → lv_has ls 7 [(3, .int (iI v_1)), (0, .ref (b + 33)), (1, .int (iI a1)), (2, .int (iI y_22))] → W p l e (gRm 2 0 0) s m args below meth c H locs 0 0 (gQI D cy b s args below 0 0 (fun r u => r = iI o1 ∧ u = (n, enc b cy X S0))) (F0 m 107 ls []) := by
            intro H locs ls hG hl
            refine lv_iinc (v := iI (v_1 + 1)) (lv' := [(3, .int (iI (v_1 + 1))), (0, .ref (b + 33)), (1, .int (iI a1)), (2, .int (iI y_22))]) hx hb dX3_exprLeans_107 hl (k := 0) rfl ((iI_add v_1 (1)).trans (congrArg iI (by omega))) (by decide) rfl (fun ls hl => ?_)
            refine lv_goto (tgt := 4) hx hb dX3_exprLeans_110 (by decide) ?_
            exact ih_7 (v_1 + 1) y_22 H locs ls hM hG (lv_sub hl [0, 3, 1, 2] rfl)
          have loop_25 : ∀ (f : Nat) (v_19 : Int) (v_20 : Int) (v_21 : Int) (H : Heap) (locs : List Loc) (ls : Array Slot), mX3_exprLeans_33_51 S0 r_13 v_1 a1 f v_19 v_20 v_21 = some y_22 → gW D cy b n s H locs (enc b cy X S0) → lv_has ls 7 [(6, .int (iI v_19)), (5, .int (iI v_20)), (4, .int (iI r_13)), (3, .int (iI v_1)), (2, .int (iI v_21)), (0, .ref (b + 33)), (1, .int (iI a1))] → W p l e (gRm 2 0 0) s m args below meth c H locs 0 0 (gQI D cy b s args below 0 0 (fun r u => r = iI o1 ∧ u = (n, enc b cy X S0))) (F0 m 51 ls []) := by
            clear hM
            intro f
            induction f with
            | zero => intro v_19 v_20 v_21 H locs ls hM; rw [mX3_exprLeans_33_51] at hM; cases hM
            | succ f_27 ih_26 =>
              intro v_19 v_20 v_21 H locs ls hM hG hl
              rw [mX3_exprLeans_33_51] at hM
              refine lv_iload hx hb dX3_exprLeans_51 (lv_at hl 0 rfl) ?_
              refine lv_bipush (v := iI 24) hx hb dX3_exprLeans_53 (by decide) ?_
              obtain ⟨hg_28, hM⟩ := gd_some hM
              refine gi_icmp_ge (tgt := 107) hx hb dX3_exprLeans_55 (by decide) hg_28 (by decide) (fun c_29 => ?_) (fun c_29 => ?_)
              · replace hM := ifp hM c_29
                cases hM
                exact hK_24 H locs ls hG (lv_sub hl [3, 5, 6, 4] rfl)
              · replace hM := ifn hM c_29
                refine lv_iload hx hb dX3_exprLeans_58 (lv_at hl 1 rfl) ?_
                refine lv_iconst (v := iI (-1)) hx hb dX3_exprLeans_60 (by decide) ?_
                obtain ⟨hg_30, hM⟩ := gd_some hM
                refine gi_icmp_eq (tgt := 107) hx hb dX3_exprLeans_61 (by decide) hg_30 (by decide) (fun c_31 => ?_) (fun c_31 => ?_)
                · replace hM := ifp hM c_31
                  cases hM
                  exact hK_24 H locs ls hG (lv_sub hl [3, 5, 6, 4] rfl)
                · replace hM := ifn hM c_31
                  refine lv_iload_n hx hb dX3_exprLeans_64 rfl (lv_at hl 4 rfl) ?_
                  refine lv_aload_n hx hb dX3_exprLeans_65 rfl (lv_at hl 5 rfl) ?_
                  refine lv_iload hx hb dX3_exprLeans_66 (lv_at hl 2 rfl) ?_
                  refine lv_iload hx hb dX3_exprLeans_68 (lv_at hl 1 rfl) ?_
                  obtain ⟨r_33, hc_32, hM⟩ := bd1_some hM
                  refine g_vi (As := [.int (iI r_13), .int (iI v_20)]) (rest := [.int (iI v_21)]) S hG hsz (vX3_allEmpty_33 l hn r_13 v_20 hc_32) wV_3_94 (ec_33 _) cpX3 (Nat.lt_of_lt_of_le (Nat.le_of_ble_eq_true rfl) hn) dX3_exprLeans_70 rfl hl.1 (ar := 2) (by decide +kernel) rfl ⟨Nat.le_of_ble_eq_true rfl, Nat.le_of_ble_eq_true rfl, Nat.le_of_ble_eq_true rfl, Nat.le_of_ble_eq_true rfl⟩ (Nat.le_of_ble_eq_true rfl) (fun rv uu H locs hp hG => ?_)
                  obtain ⟨rfl, rfl⟩ := hp
                  replace hG : gW D cy b n s H locs (enc b cy X S0) := hG
                  obtain ⟨z_34, hc_35, hM⟩ := bd1_some hM
                  have hK_36 : ∀ (H : Heap) (locs : List Loc) (ls : Array Slot), gW D cy b n s H locs (enc b cy X S0) → lv_has ls 7 [(6, .int (iI v_19)), (5, .int (iI v_20)), (4, .int (iI r_13)), (3, .int (iI v_1)), (0, .ref (b + 33)), (1, .int (iI a1))] → W p l e (gRm 2 0 0) s m args below meth c H locs 0 0 (gQI D cy b s args below 0 0 (fun r u => r = iI o1 ∧ u = (n, enc b cy X S0))) (F0 m 87 ls [.int (iI z_34), .int (iI v_21)]) := by
                    intro H locs ls hG hl
                    refine gi_or hx hb dX3_exprLeans_87 ?_
                    refine gi_nm (fun x_37 ex_37 => ?_)
                    replace hM := nx_at hM ex_37
                    clear ex_37
                    refine lv_istore_n (lv' := [(2, .int (iI x_37)), (6, .int (iI v_19)), (5, .int (iI v_20)), (4, .int (iI r_13)), (3, .int (iI v_1)), (0, .ref (b + 33)), (1, .int (iI a1))]) hx hb dX3_exprLeans_88 rfl hl (by decide) rfl (fun ls hl => ?_)
                    refine lv_aload_n hx hb dX3_exprLeans_89 rfl (lv_at hl 5 rfl) ?_
                    refine m_get S hG 33 33 0 rfl ec_33 cpX3 wm_319 dX3_exprLeans_90 rfl (Nat.lt_of_lt_of_le (Nat.le_of_ble_eq_true rfl) hn) (by decide) ?_
                    refine m_get S hG 2 2 8 rfl ec_2 cpX2 wm_257 dX3_exprLeans_93 rfl (Nat.lt_of_lt_of_le (Nat.le_of_ble_eq_true rfl) hn) (by decide) ?_
                    refine lv_iload hx hb dX3_exprLeans_96 (lv_at hl 2 rfl) ?_
                    obtain ⟨hg_38, hM⟩ := gd_some hM
                    refine mi_ald S hG 6 6 rfl ec_6 (Nat.lt_of_lt_of_le (Nat.le_of_ble_eq_true rfl) hn) dX3_exprLeans_98 hg_38 (by decide) ?_
                    refine gi_nm (fun x_39 ex_39 => ?_)
                    replace hM := nx_at hM ex_39
                    clear ex_39
                    refine lv_istore (lv' := [(5, .int (iI x_39)), (2, .int (iI x_37)), (6, .int (iI v_19)), (4, .int (iI r_13)), (3, .int (iI v_1)), (0, .ref (b + 33)), (1, .int (iI a1))]) hx hb dX3_exprLeans_99 hl (by decide) rfl (fun ls hl => ?_)
                    refine lv_iinc (v := iI (v_19 + 1)) (lv' := [(6, .int (iI (v_19 + 1))), (5, .int (iI x_39)), (2, .int (iI x_37)), (4, .int (iI r_13)), (3, .int (iI v_1)), (0, .ref (b + 33)), (1, .int (iI a1))]) hx hb dX3_exprLeans_101 hl (k := 2) rfl ((iI_add v_19 (1)).trans (congrArg iI (by omega))) (by decide) rfl (fun ls hl => ?_)
                    refine lv_goto (tgt := 51) hx hb dX3_exprLeans_104 (by decide) ?_
                    exact ih_26 (v_19 + 1) x_39 x_37 H locs ls hM hG (lv_sub hl [0, 1, 3, 4, 2, 5, 6] rfl)
                  clear hM
                  replace hM := hc_35
                  obtain ⟨hg_40, hM⟩ := gd_some hM
                  refine gi_if_eq (tgt := 86) hx hb dX3_exprLeans_73 (by decide) hg_40 (fun c_41 => ?_) (fun c_41 => ?_)
                  · replace hM := ifp hM c_41
                    refine lv_iconst (v := iI 0) hx hb dX3_exprLeans_86 (by decide) ?_
                    cases hM
                    exact hK_36 H locs ls hG (lv_sub hl [0, 1, 2, 3, 5, 6] rfl)
                  · replace hM := ifn hM c_41
                    refine lv_aload_n hx hb dX3_exprLeans_76 rfl (lv_at hl 5 rfl) ?_
                    refine m_get S hG 33 33 3 rfl ec_33 cpX3 wm_323 dX3_exprLeans_77 rfl (Nat.lt_of_lt_of_le (Nat.le_of_ble_eq_true rfl) hn) (by decide) ?_
                    refine lv_iload hx hb dX3_exprLeans_80 (lv_at hl 1 rfl) ?_
                    obtain ⟨hg_42, hM⟩ := gd_some hM
                    refine mi_ald S hG 34 34 rfl ec_34 (Nat.lt_of_lt_of_le (Nat.le_of_ble_eq_true rfl) hn) dX3_exprLeans_82 hg_42 (by decide) ?_
                    refine lv_goto (tgt := 87) hx hb dX3_exprLeans_83 (by decide) ?_
                    cases hM
                    exact hK_36 H locs ls hG (lv_sub hl [0, 1, 2, 3, 5, 6] rfl)
          exact loop_25 FU 0 z_16 v_2 H locs ls hc_23 hG (lv_sub hl [0, 1, 2, 3, 4, 5, 6] rfl)
        clear hM
        replace hM := hc_17
        obtain ⟨hg_43, hM⟩ := gd_some hM
        refine gi_if_eq (tgt := 44) hx hb dX3_exprLeans_37 (by decide) hg_43 (fun c_44 => ?_) (fun c_44 => ?_)
        · replace hM := ifp hM c_44
          refine lv_iload hx hb dX3_exprLeans_44 (lv_at hl 0 rfl) ?_
          cases hM
          exact hK_18 H locs ls hG (lv_sub hl [0, 1, 2, 3, 4] rfl)
        · replace hM := ifn hM c_44
          refine lv_iconst (v := iI (-1)) hx hb dX3_exprLeans_40 (by decide) ?_
          refine lv_goto (tgt := 46) hx hb dX3_exprLeans_41 (by decide) ?_
          cases hM
          exact hK_18 H locs ls hG (lv_sub hl [0, 1, 2, 3, 4] rfl)
  exact loop_6 FU 0 0 H locs ls hc_4 hG (lv_sub hl [0, 1, 2, 3] rfl)
def mX3_exprHas_33_35_51 (S0 : St) (v_1 : Int) (a1 : Int) : Nat → Int → Int → Int → Option (Int)
  | 0, _, _, _ => none
  | f + 1, v_17, v_18, v_19 => gd (inI v_17) <| if 24 ≤ v_17 then (some (v_19)) else (gd (inI v_18) <| if v_18 = (-1) then (some (v_19)) else (gd (0 ≤ v_18 ∧ v_18 < 24) <| nx (orr v_19 (S0 35 v_18)) fun x_31 => nx (S0 6 v_18) fun x_32 => mX3_exprHas_33_35_51 S0 v_1 a1 f (v_17 + 1) x_32 x_31))
def mX3_exprHas_33_35_5 (S0 : St) (a1 : Int) : Nat → Int → Int → Option (Int)
  | 0, _, _ => none
  | f + 1, v_1, v_2 => gd (0 ≤ a1 ∧ a1 < 30) <| gd ((inI v_1) ∧ (inI (S0 8 a1))) <| if (S0 8 a1) ≤ v_1 then (some (v_2)) else (bd1 (mX2_isOff_2 S0 a1 v_1) fun r_13 => bd1 (gd (inI r_13) <| if r_13 = 0 then (bd1 (mX2_start_2 S0 a1 v_1) fun r_36 => some (r_36)) else (some ((-1)))) fun z_14 => bd1 (mX3_exprHas_33_35_51 S0 v_1 a1 FU 0 z_14 v_2) fun y_20 => mX3_exprHas_33_35_5 S0 a1 f (v_1 + 1) y_20)
def mX3_exprHas_33_35 (S0 : St) (a1 : Int) : Option (Int) := bd1 (mX3_exprHas_33_35_5 S0 a1 FU 0 0) fun y_3 => some (y_3)
set_option maxHeartbeats 4000000 in
set_option maxRecDepth 100000 in
theorem vX3_exprHas_33_35 (l : Launch) {D : va_G} {cy : Nat → ClassId} {b n : Nat} (hn : 102 ≤ n) {X : Nat → va_E} {S0 : St} (a1 : Int) {o1 : Int} (hM : mX3_exprHas_33_35 S0 a1 = some o1) : gI l yX3_exprHas cX3_exprHas 7 (some .int) 1 0 0 D cy b n (enc b cy X S0) [.ref (b + 33), .int (iI a1), .ref (b + 35)] (fun r u => r = iI o1 ∧ u = (n, enc b cy X S0)) := by
  refine gI_of (by decide) (Nat.le_of_ble_eq_true rfl) ?_
  intro p e s m args below meth c S hr hlk hin hsz ls hl hG
  have hx := S.1
  have hb := S.2.1
  have hl : lv_has ls 7 [(0, .ref (b + 33)), (1, .int (iI a1)), (2, .ref (b + 35))] := hl
  replace hG : gW D cy b n s s.heap [] (enc b cy X S0) := hG
  obtain ⟨H, eH⟩ : ∃ H, H = s.heap := ⟨_, rfl⟩
  obtain ⟨locs, elocs⟩ : ∃ locs : List Loc, locs = [] := ⟨_, rfl⟩
  rw [← eH, ← elocs] at hG
  rw [← eH, ← elocs]
  clear eH elocs
  unfold mX3_exprHas_33_35 at hM
  refine lv_iconst (v := iI 0) hx hb dX3_exprHas_0 (by decide) ?_
  refine lv_istore_n (lv' := [(3, .int (iI 0)), (0, .ref (b + 33)), (1, .int (iI a1)), (2, .ref (b + 35))]) hx hb dX3_exprHas_1 rfl hl (by decide) rfl (fun ls hl => ?_)
  refine lv_iconst (v := iI 0) hx hb dX3_exprHas_2 (by decide) ?_
  refine lv_istore (lv' := [(4, .int (iI 0)), (3, .int (iI 0)), (0, .ref (b + 33)), (1, .int (iI a1)), (2, .ref (b + 35))]) hx hb dX3_exprHas_3 hl (by decide) rfl (fun ls hl => ?_)
  obtain ⟨y_3, hc_4, hM⟩ := bd1_some hM
  have hK_5 : ∀ (H : Heap) (locs : List Loc) (ls : Array Slot), gW D cy b n s H locs (enc b cy X S0) → lv_has ls 7 [(3, .int (iI y_3))] → W p l e (gRm 1 0 0) s m args below meth c H locs 0 0 (gQI D cy b s args below 0 0 (fun r u => r = iI o1 ∧ u = (n, enc b cy X S0))) (F0 m 95 ls []) := by
    intro H locs ls hG hl
    refine lv_iload_n hx hb dX3_exprHas_95 rfl (lv_at hl 0 rfl) ?_
    cases hM
    exact g_iret S hr hlk hG hsz dX3_exprHas_96 ⟨Nat.le_of_ble_eq_true rfl, Nat.le_of_ble_eq_true rfl⟩ ⟨rfl, rfl⟩
  have loop_6 : ∀ (f : Nat) (v_1 : Int) (v_2 : Int) (H : Heap) (locs : List Loc) (ls : Array Slot), mX3_exprHas_33_35_5 S0 a1 f v_1 v_2 = some y_3 → gW D cy b n s H locs (enc b cy X S0) → lv_has ls 7 [(4, .int (iI v_1)), (3, .int (iI v_2)), (0, .ref (b + 33)), (1, .int (iI a1)), (2, .ref (b + 35))] → W p l e (gRm 1 0 0) s m args below meth c H locs 0 0 (gQI D cy b s args below 0 0 (fun r u => r = iI o1 ∧ u = (n, enc b cy X S0))) (F0 m 5 ls []) := by
    clear hM
    intro f
    induction f with
    | zero => intro v_1 v_2 H locs ls hM; rw [mX3_exprHas_33_35_5] at hM; cases hM
    | succ f_8 ih_7 =>
      intro v_1 v_2 H locs ls hM hG hl
      rw [mX3_exprHas_33_35_5] at hM
      refine lv_iload hx hb dX3_exprHas_5 (lv_at hl 0 rfl) ?_
      refine lv_aload_n hx hb dX3_exprHas_7 rfl (lv_at hl 2 rfl) ?_
      refine m_get S hG 33 33 0 rfl ec_33 cpX3 wm_319 dX3_exprHas_8 rfl (Nat.lt_of_lt_of_le (Nat.le_of_ble_eq_true rfl) hn) (by decide) ?_
      refine m_get S hG 2 2 10 rfl ec_2 cpX2 wm_264 dX3_exprHas_11 rfl (Nat.lt_of_lt_of_le (Nat.le_of_ble_eq_true rfl) hn) (by decide) ?_
      refine lv_iload_n hx hb dX3_exprHas_14 rfl (lv_at hl 3 rfl) ?_
      obtain ⟨hg_9, hM⟩ := gd_some hM
      refine mi_ald S hG 8 8 rfl ec_8 (Nat.lt_of_lt_of_le (Nat.le_of_ble_eq_true rfl) hn) dX3_exprHas_15 hg_9 (by decide) ?_
      obtain ⟨hg_10, hM⟩ := gd_some hM
      refine gi_icmp_ge (tgt := 95) hx hb dX3_exprHas_16 (by decide) hg_10.1 hg_10.2 (fun c_11 => ?_) (fun c_11 => ?_)
      · replace hM := ifp hM c_11
        cases hM
        exact hK_5 H locs ls hG (lv_sub hl [1] rfl)
      · replace hM := ifn hM c_11
        refine lv_aload_n hx hb dX3_exprHas_19 rfl (lv_at hl 2 rfl) ?_
        refine m_get S hG 33 33 0 rfl ec_33 cpX3 wm_319 dX3_exprHas_20 rfl (Nat.lt_of_lt_of_le (Nat.le_of_ble_eq_true rfl) hn) (by decide) ?_
        refine lv_iload_n hx hb dX3_exprHas_23 rfl (lv_at hl 3 rfl) ?_
        refine lv_iload hx hb dX3_exprHas_24 (lv_at hl 0 rfl) ?_
        obtain ⟨r_13, hc_12, hM⟩ := bd1_some hM
        refine g_vi (As := [.int (iI a1), .int (iI v_1)]) (rest := []) S hG hsz (vX2_isOff_2 l hn a1 v_1 hc_12) wV_3_86 (ec_2 _) cpX2 (Nat.lt_of_lt_of_le (Nat.le_of_ble_eq_true rfl) hn) dX3_exprHas_26 rfl hl.1 (ar := 2) (by decide +kernel) rfl ⟨Nat.le_of_ble_eq_true rfl, Nat.le_of_ble_eq_true rfl, Nat.le_of_ble_eq_true rfl, Nat.le_of_ble_eq_true rfl⟩ (Nat.le_of_ble_eq_true rfl) (fun rv uu H locs hp hG => ?_)
        obtain ⟨rfl, rfl⟩ := hp
        replace hG : gW D cy b n s H locs (enc b cy X S0) := hG
        obtain ⟨z_14, hc_15, hM⟩ := bd1_some hM
        have hK_16 : ∀ (H : Heap) (locs : List Loc) (ls : Array Slot), gW D cy b n s H locs (enc b cy X S0) → lv_has ls 7 [(4, .int (iI v_1)), (3, .int (iI v_2)), (0, .ref (b + 33)), (1, .int (iI a1)), (2, .ref (b + 35))] → W p l e (gRm 1 0 0) s m args below meth c H locs 0 0 (gQI D cy b s args below 0 0 (fun r u => r = iI o1 ∧ u = (n, enc b cy X S0))) (F0 m 46 ls [.int (iI z_14)]) := by
          intro H locs ls hG hl
          refine lv_istore (lv' := [(5, .int (iI z_14)), (4, .int (iI v_1)), (3, .int (iI v_2)), (0, .ref (b + 33)), (1, .int (iI a1)), (2, .ref (b + 35))]) hx hb dX3_exprHas_46 hl (by decide) rfl (fun ls hl => ?_)
          refine lv_iconst (v := iI 0) hx hb dX3_exprHas_48 (by decide) ?_
          refine lv_istore (lv' := [(6, .int (iI 0)), (5, .int (iI z_14)), (4, .int (iI v_1)), (3, .int (iI v_2)), (0, .ref (b + 33)), (1, .int (iI a1)), (2, .ref (b + 35))]) hx hb dX3_exprHas_49 hl (by decide) rfl (fun ls hl => ?_)
          obtain ⟨y_20, hc_21, hM⟩ := bd1_some hM
          have hK_22 : ∀ (H : Heap) (locs : List Loc) (ls : Array Slot), gW D cy b n s H locs (enc b cy X S0) → lv_has ls 7 [(4, .int (iI v_1)), (0, .ref (b + 33)), (1, .int (iI a1)), (2, .ref (b + 35)), (3, .int (iI y_20))] → W p l e (gRm 1 0 0) s m args below meth c H locs 0 0 (gQI D cy b s args below 0 0 (fun r u => r = iI o1 ∧ u = (n, enc b cy X S0))) (F0 m 89 ls []) := by
            intro H locs ls hG hl
            refine lv_iinc (v := iI (v_1 + 1)) (lv' := [(4, .int (iI (v_1 + 1))), (0, .ref (b + 33)), (1, .int (iI a1)), (2, .ref (b + 35)), (3, .int (iI y_20))]) hx hb dX3_exprHas_89 hl (k := 0) rfl ((iI_add v_1 (1)).trans (congrArg iI (by omega))) (by decide) rfl (fun ls hl => ?_)
            refine lv_goto (tgt := 5) hx hb dX3_exprHas_92 (by decide) ?_
            exact ih_7 (v_1 + 1) y_20 H locs ls hM hG (lv_sub hl [0, 4, 1, 2, 3] rfl)
          have loop_23 : ∀ (f : Nat) (v_17 : Int) (v_18 : Int) (v_19 : Int) (H : Heap) (locs : List Loc) (ls : Array Slot), mX3_exprHas_33_35_51 S0 v_1 a1 f v_17 v_18 v_19 = some y_20 → gW D cy b n s H locs (enc b cy X S0) → lv_has ls 7 [(6, .int (iI v_17)), (5, .int (iI v_18)), (4, .int (iI v_1)), (3, .int (iI v_19)), (0, .ref (b + 33)), (1, .int (iI a1)), (2, .ref (b + 35))] → W p l e (gRm 1 0 0) s m args below meth c H locs 0 0 (gQI D cy b s args below 0 0 (fun r u => r = iI o1 ∧ u = (n, enc b cy X S0))) (F0 m 51 ls []) := by
            clear hM
            intro f
            induction f with
            | zero => intro v_17 v_18 v_19 H locs ls hM; rw [mX3_exprHas_33_35_51] at hM; cases hM
            | succ f_25 ih_24 =>
              intro v_17 v_18 v_19 H locs ls hM hG hl
              rw [mX3_exprHas_33_35_51] at hM
              refine lv_iload hx hb dX3_exprHas_51 (lv_at hl 0 rfl) ?_
              refine lv_bipush (v := iI 24) hx hb dX3_exprHas_53 (by decide) ?_
              obtain ⟨hg_26, hM⟩ := gd_some hM
              refine gi_icmp_ge (tgt := 89) hx hb dX3_exprHas_55 (by decide) hg_26 (by decide) (fun c_27 => ?_) (fun c_27 => ?_)
              · replace hM := ifp hM c_27
                cases hM
                exact hK_22 H locs ls hG (lv_sub hl [2, 4, 5, 6, 3] rfl)
              · replace hM := ifn hM c_27
                refine lv_iload hx hb dX3_exprHas_58 (lv_at hl 1 rfl) ?_
                refine lv_iconst (v := iI (-1)) hx hb dX3_exprHas_60 (by decide) ?_
                obtain ⟨hg_28, hM⟩ := gd_some hM
                refine gi_icmp_eq (tgt := 89) hx hb dX3_exprHas_61 (by decide) hg_28 (by decide) (fun c_29 => ?_) (fun c_29 => ?_)
                · replace hM := ifp hM c_29
                  cases hM
                  exact hK_22 H locs ls hG (lv_sub hl [2, 4, 5, 6, 3] rfl)
                · replace hM := ifn hM c_29
                  refine lv_iload_n hx hb dX3_exprHas_64 rfl (lv_at hl 3 rfl) ?_
                  refine lv_aload_n hx hb dX3_exprHas_65 rfl (lv_at hl 6 rfl) ?_
                  refine lv_iload hx hb dX3_exprHas_66 (lv_at hl 1 rfl) ?_
                  obtain ⟨hg_30, hM⟩ := gd_some hM
                  refine mi_ald S hG 35 35 rfl ec_35 (Nat.lt_of_lt_of_le (Nat.le_of_ble_eq_true rfl) hn) dX3_exprHas_68 hg_30 (by decide) ?_
                  refine gi_or hx hb dX3_exprHas_69 ?_
                  refine gi_nm (fun x_31 ex_31 => ?_)
                  replace hM := nx_at hM ex_31
                  clear ex_31
                  refine lv_istore_n (lv' := [(3, .int (iI x_31)), (6, .int (iI v_17)), (5, .int (iI v_18)), (4, .int (iI v_1)), (0, .ref (b + 33)), (1, .int (iI a1)), (2, .ref (b + 35))]) hx hb dX3_exprHas_70 rfl hl (by decide) rfl (fun ls hl => ?_)
                  refine lv_aload_n hx hb dX3_exprHas_71 rfl (lv_at hl 4 rfl) ?_
                  refine m_get S hG 33 33 0 rfl ec_33 cpX3 wm_319 dX3_exprHas_72 rfl (Nat.lt_of_lt_of_le (Nat.le_of_ble_eq_true rfl) hn) (by decide) ?_
                  refine m_get S hG 2 2 8 rfl ec_2 cpX2 wm_257 dX3_exprHas_75 rfl (Nat.lt_of_lt_of_le (Nat.le_of_ble_eq_true rfl) hn) (by decide) ?_
                  refine lv_iload hx hb dX3_exprHas_78 (lv_at hl 2 rfl) ?_
                  refine mi_ald S hG 6 6 rfl ec_6 (Nat.lt_of_lt_of_le (Nat.le_of_ble_eq_true rfl) hn) dX3_exprHas_80 hg_30 (by decide) ?_
                  refine gi_nm (fun x_32 ex_32 => ?_)
                  replace hM := nx_at hM ex_32
                  clear ex_32
                  refine lv_istore (lv' := [(5, .int (iI x_32)), (3, .int (iI x_31)), (6, .int (iI v_17)), (4, .int (iI v_1)), (0, .ref (b + 33)), (1, .int (iI a1)), (2, .ref (b + 35))]) hx hb dX3_exprHas_81 hl (by decide) rfl (fun ls hl => ?_)
                  refine lv_iinc (v := iI (v_17 + 1)) (lv' := [(6, .int (iI (v_17 + 1))), (5, .int (iI x_32)), (3, .int (iI x_31)), (4, .int (iI v_1)), (0, .ref (b + 33)), (1, .int (iI a1)), (2, .ref (b + 35))]) hx hb dX3_exprHas_83 hl (k := 2) rfl ((iI_add v_17 (1)).trans (congrArg iI (by omega))) (by decide) rfl (fun ls hl => ?_)
                  refine lv_goto (tgt := 51) hx hb dX3_exprHas_86 (by decide) ?_
                  exact ih_24 (v_17 + 1) x_32 x_31 H locs ls hM hG (lv_sub hl [0, 1, 3, 2, 4, 5, 6] rfl)
          exact loop_23 FU 0 z_14 v_2 H locs ls hc_21 hG (lv_sub hl [0, 1, 2, 3, 4, 5, 6] rfl)
        clear hM
        replace hM := hc_15
        obtain ⟨hg_33, hM⟩ := gd_some hM
        refine gi_if_eq (tgt := 36) hx hb dX3_exprHas_29 (by decide) hg_33 (fun c_34 => ?_) (fun c_34 => ?_)
        · replace hM := ifp hM c_34
          refine lv_aload_n hx hb dX3_exprHas_36 rfl (lv_at hl 2 rfl) ?_
          refine m_get S hG 33 33 0 rfl ec_33 cpX3 wm_319 dX3_exprHas_37 rfl (Nat.lt_of_lt_of_le (Nat.le_of_ble_eq_true rfl) hn) (by decide) ?_
          refine lv_iload_n hx hb dX3_exprHas_40 rfl (lv_at hl 3 rfl) ?_
          refine lv_iload hx hb dX3_exprHas_41 (lv_at hl 0 rfl) ?_
          obtain ⟨r_36, hc_35, hM⟩ := bd1_some hM
          refine g_vi (As := [.int (iI a1), .int (iI v_1)]) (rest := []) S hG hsz (vX2_start_2 l hn a1 v_1 hc_35) wV_3_90 (ec_2 _) cpX2 (Nat.lt_of_lt_of_le (Nat.le_of_ble_eq_true rfl) hn) dX3_exprHas_43 rfl hl.1 (ar := 2) (by decide +kernel) rfl ⟨Nat.le_of_ble_eq_true rfl, Nat.le_of_ble_eq_true rfl, Nat.le_of_ble_eq_true rfl, Nat.le_of_ble_eq_true rfl⟩ (Nat.le_of_ble_eq_true rfl) (fun rv uu H locs hp hG => ?_)
          obtain ⟨rfl, rfl⟩ := hp
          replace hG : gW D cy b n s H locs (enc b cy X S0) := hG
          cases hM
          exact hK_16 H locs ls hG (lv_sub hl [0, 1, 2, 3, 4] rfl)
        · replace hM := ifn hM c_34
          refine lv_iconst (v := iI (-1)) hx hb dX3_exprHas_32 (by decide) ?_
          refine lv_goto (tgt := 46) hx hb dX3_exprHas_33 (by decide) ?_
          cases hM
          exact hK_16 H locs ls hG (lv_sub hl [0, 1, 2, 3, 4] rfl)
  exact loop_6 FU 0 0 H locs ls hc_4 hG (lv_sub hl [0, 1, 2, 3, 4] rfl)
def mX3_exprHas_33_36_51 (S0 : St) (v_1 : Int) (a1 : Int) : Nat → Int → Int → Int → Option (Int)
  | 0, _, _, _ => none
  | f + 1, v_17, v_18, v_19 => gd (inI v_17) <| if 24 ≤ v_17 then (some (v_19)) else (gd (inI v_18) <| if v_18 = (-1) then (some (v_19)) else (gd (0 ≤ v_18 ∧ v_18 < 24) <| nx (orr v_19 (S0 36 v_18)) fun x_31 => nx (S0 6 v_18) fun x_32 => mX3_exprHas_33_36_51 S0 v_1 a1 f (v_17 + 1) x_32 x_31))
def mX3_exprHas_33_36_5 (S0 : St) (a1 : Int) : Nat → Int → Int → Option (Int)
  | 0, _, _ => none
  | f + 1, v_1, v_2 => gd (0 ≤ a1 ∧ a1 < 30) <| gd ((inI v_1) ∧ (inI (S0 8 a1))) <| if (S0 8 a1) ≤ v_1 then (some (v_2)) else (bd1 (mX2_isOff_2 S0 a1 v_1) fun r_13 => bd1 (gd (inI r_13) <| if r_13 = 0 then (bd1 (mX2_start_2 S0 a1 v_1) fun r_36 => some (r_36)) else (some ((-1)))) fun z_14 => bd1 (mX3_exprHas_33_36_51 S0 v_1 a1 FU 0 z_14 v_2) fun y_20 => mX3_exprHas_33_36_5 S0 a1 f (v_1 + 1) y_20)
def mX3_exprHas_33_36 (S0 : St) (a1 : Int) : Option (Int) := bd1 (mX3_exprHas_33_36_5 S0 a1 FU 0 0) fun y_3 => some (y_3)
set_option maxHeartbeats 4000000 in
set_option maxRecDepth 100000 in
theorem vX3_exprHas_33_36 (l : Launch) {D : va_G} {cy : Nat → ClassId} {b n : Nat} (hn : 102 ≤ n) {X : Nat → va_E} {S0 : St} (a1 : Int) {o1 : Int} (hM : mX3_exprHas_33_36 S0 a1 = some o1) : gI l yX3_exprHas cX3_exprHas 7 (some .int) 1 0 0 D cy b n (enc b cy X S0) [.ref (b + 33), .int (iI a1), .ref (b + 36)] (fun r u => r = iI o1 ∧ u = (n, enc b cy X S0)) := by
  refine gI_of (by decide) (Nat.le_of_ble_eq_true rfl) ?_
  intro p e s m args below meth c S hr hlk hin hsz ls hl hG
  have hx := S.1
  have hb := S.2.1
  have hl : lv_has ls 7 [(0, .ref (b + 33)), (1, .int (iI a1)), (2, .ref (b + 36))] := hl
  replace hG : gW D cy b n s s.heap [] (enc b cy X S0) := hG
  obtain ⟨H, eH⟩ : ∃ H, H = s.heap := ⟨_, rfl⟩
  obtain ⟨locs, elocs⟩ : ∃ locs : List Loc, locs = [] := ⟨_, rfl⟩
  rw [← eH, ← elocs] at hG
  rw [← eH, ← elocs]
  clear eH elocs
  unfold mX3_exprHas_33_36 at hM
  refine lv_iconst (v := iI 0) hx hb dX3_exprHas_0 (by decide) ?_
  refine lv_istore_n (lv' := [(3, .int (iI 0)), (0, .ref (b + 33)), (1, .int (iI a1)), (2, .ref (b + 36))]) hx hb dX3_exprHas_1 rfl hl (by decide) rfl (fun ls hl => ?_)
  refine lv_iconst (v := iI 0) hx hb dX3_exprHas_2 (by decide) ?_
  refine lv_istore (lv' := [(4, .int (iI 0)), (3, .int (iI 0)), (0, .ref (b + 33)), (1, .int (iI a1)), (2, .ref (b + 36))]) hx hb dX3_exprHas_3 hl (by decide) rfl (fun ls hl => ?_)
  obtain ⟨y_3, hc_4, hM⟩ := bd1_some hM
  have hK_5 : ∀ (H : Heap) (locs : List Loc) (ls : Array Slot), gW D cy b n s H locs (enc b cy X S0) → lv_has ls 7 [(3, .int (iI y_3))] → W p l e (gRm 1 0 0) s m args below meth c H locs 0 0 (gQI D cy b s args below 0 0 (fun r u => r = iI o1 ∧ u = (n, enc b cy X S0))) (F0 m 95 ls []) := by
    intro H locs ls hG hl
    refine lv_iload_n hx hb dX3_exprHas_95 rfl (lv_at hl 0 rfl) ?_
    cases hM
    exact g_iret S hr hlk hG hsz dX3_exprHas_96 ⟨Nat.le_of_ble_eq_true rfl, Nat.le_of_ble_eq_true rfl⟩ ⟨rfl, rfl⟩
  have loop_6 : ∀ (f : Nat) (v_1 : Int) (v_2 : Int) (H : Heap) (locs : List Loc) (ls : Array Slot), mX3_exprHas_33_36_5 S0 a1 f v_1 v_2 = some y_3 → gW D cy b n s H locs (enc b cy X S0) → lv_has ls 7 [(4, .int (iI v_1)), (3, .int (iI v_2)), (0, .ref (b + 33)), (1, .int (iI a1)), (2, .ref (b + 36))] → W p l e (gRm 1 0 0) s m args below meth c H locs 0 0 (gQI D cy b s args below 0 0 (fun r u => r = iI o1 ∧ u = (n, enc b cy X S0))) (F0 m 5 ls []) := by
    clear hM
    intro f
    induction f with
    | zero => intro v_1 v_2 H locs ls hM; rw [mX3_exprHas_33_36_5] at hM; cases hM
    | succ f_8 ih_7 =>
      intro v_1 v_2 H locs ls hM hG hl
      rw [mX3_exprHas_33_36_5] at hM
      refine lv_iload hx hb dX3_exprHas_5 (lv_at hl 0 rfl) ?_
      refine lv_aload_n hx hb dX3_exprHas_7 rfl (lv_at hl 2 rfl) ?_
      refine m_get S hG 33 33 0 rfl ec_33 cpX3 wm_319 dX3_exprHas_8 rfl (Nat.lt_of_lt_of_le (Nat.le_of_ble_eq_true rfl) hn) (by decide) ?_
      refine m_get S hG 2 2 10 rfl ec_2 cpX2 wm_264 dX3_exprHas_11 rfl (Nat.lt_of_lt_of_le (Nat.le_of_ble_eq_true rfl) hn) (by decide) ?_
      refine lv_iload_n hx hb dX3_exprHas_14 rfl (lv_at hl 3 rfl) ?_
      obtain ⟨hg_9, hM⟩ := gd_some hM
      refine mi_ald S hG 8 8 rfl ec_8 (Nat.lt_of_lt_of_le (Nat.le_of_ble_eq_true rfl) hn) dX3_exprHas_15 hg_9 (by decide) ?_
      obtain ⟨hg_10, hM⟩ := gd_some hM
      refine gi_icmp_ge (tgt := 95) hx hb dX3_exprHas_16 (by decide) hg_10.1 hg_10.2 (fun c_11 => ?_) (fun c_11 => ?_)
      · replace hM := ifp hM c_11
        cases hM
        exact hK_5 H locs ls hG (lv_sub hl [1] rfl)
      · replace hM := ifn hM c_11
        refine lv_aload_n hx hb dX3_exprHas_19 rfl (lv_at hl 2 rfl) ?_
        refine m_get S hG 33 33 0 rfl ec_33 cpX3 wm_319 dX3_exprHas_20 rfl (Nat.lt_of_lt_of_le (Nat.le_of_ble_eq_true rfl) hn) (by decide) ?_
        refine lv_iload_n hx hb dX3_exprHas_23 rfl (lv_at hl 3 rfl) ?_
        refine lv_iload hx hb dX3_exprHas_24 (lv_at hl 0 rfl) ?_
        obtain ⟨r_13, hc_12, hM⟩ := bd1_some hM
        refine g_vi (As := [.int (iI a1), .int (iI v_1)]) (rest := []) S hG hsz (vX2_isOff_2 l hn a1 v_1 hc_12) wV_3_86 (ec_2 _) cpX2 (Nat.lt_of_lt_of_le (Nat.le_of_ble_eq_true rfl) hn) dX3_exprHas_26 rfl hl.1 (ar := 2) (by decide +kernel) rfl ⟨Nat.le_of_ble_eq_true rfl, Nat.le_of_ble_eq_true rfl, Nat.le_of_ble_eq_true rfl, Nat.le_of_ble_eq_true rfl⟩ (Nat.le_of_ble_eq_true rfl) (fun rv uu H locs hp hG => ?_)
        obtain ⟨rfl, rfl⟩ := hp
        replace hG : gW D cy b n s H locs (enc b cy X S0) := hG
        obtain ⟨z_14, hc_15, hM⟩ := bd1_some hM
        have hK_16 : ∀ (H : Heap) (locs : List Loc) (ls : Array Slot), gW D cy b n s H locs (enc b cy X S0) → lv_has ls 7 [(4, .int (iI v_1)), (3, .int (iI v_2)), (0, .ref (b + 33)), (1, .int (iI a1)), (2, .ref (b + 36))] → W p l e (gRm 1 0 0) s m args below meth c H locs 0 0 (gQI D cy b s args below 0 0 (fun r u => r = iI o1 ∧ u = (n, enc b cy X S0))) (F0 m 46 ls [.int (iI z_14)]) := by
          intro H locs ls hG hl
          refine lv_istore (lv' := [(5, .int (iI z_14)), (4, .int (iI v_1)), (3, .int (iI v_2)), (0, .ref (b + 33)), (1, .int (iI a1)), (2, .ref (b + 36))]) hx hb dX3_exprHas_46 hl (by decide) rfl (fun ls hl => ?_)
          refine lv_iconst (v := iI 0) hx hb dX3_exprHas_48 (by decide) ?_
          refine lv_istore (lv' := [(6, .int (iI 0)), (5, .int (iI z_14)), (4, .int (iI v_1)), (3, .int (iI v_2)), (0, .ref (b + 33)), (1, .int (iI a1)), (2, .ref (b + 36))]) hx hb dX3_exprHas_49 hl (by decide) rfl (fun ls hl => ?_)
          obtain ⟨y_20, hc_21, hM⟩ := bd1_some hM
          have hK_22 : ∀ (H : Heap) (locs : List Loc) (ls : Array Slot), gW D cy b n s H locs (enc b cy X S0) → lv_has ls 7 [(4, .int (iI v_1)), (0, .ref (b + 33)), (1, .int (iI a1)), (2, .ref (b + 36)), (3, .int (iI y_20))] → W p l e (gRm 1 0 0) s m args below meth c H locs 0 0 (gQI D cy b s args below 0 0 (fun r u => r = iI o1 ∧ u = (n, enc b cy X S0))) (F0 m 89 ls []) := by
            intro H locs ls hG hl
            refine lv_iinc (v := iI (v_1 + 1)) (lv' := [(4, .int (iI (v_1 + 1))), (0, .ref (b + 33)), (1, .int (iI a1)), (2, .ref (b + 36)), (3, .int (iI y_20))]) hx hb dX3_exprHas_89 hl (k := 0) rfl ((iI_add v_1 (1)).trans (congrArg iI (by omega))) (by decide) rfl (fun ls hl => ?_)
            refine lv_goto (tgt := 5) hx hb dX3_exprHas_92 (by decide) ?_
            exact ih_7 (v_1 + 1) y_20 H locs ls hM hG (lv_sub hl [0, 4, 1, 2, 3] rfl)
          have loop_23 : ∀ (f : Nat) (v_17 : Int) (v_18 : Int) (v_19 : Int) (H : Heap) (locs : List Loc) (ls : Array Slot), mX3_exprHas_33_36_51 S0 v_1 a1 f v_17 v_18 v_19 = some y_20 → gW D cy b n s H locs (enc b cy X S0) → lv_has ls 7 [(6, .int (iI v_17)), (5, .int (iI v_18)), (4, .int (iI v_1)), (3, .int (iI v_19)), (0, .ref (b + 33)), (1, .int (iI a1)), (2, .ref (b + 36))] → W p l e (gRm 1 0 0) s m args below meth c H locs 0 0 (gQI D cy b s args below 0 0 (fun r u => r = iI o1 ∧ u = (n, enc b cy X S0))) (F0 m 51 ls []) := by
            clear hM
            intro f
            induction f with
            | zero => intro v_17 v_18 v_19 H locs ls hM; rw [mX3_exprHas_33_36_51] at hM; cases hM
            | succ f_25 ih_24 =>
              intro v_17 v_18 v_19 H locs ls hM hG hl
              rw [mX3_exprHas_33_36_51] at hM
              refine lv_iload hx hb dX3_exprHas_51 (lv_at hl 0 rfl) ?_
              refine lv_bipush (v := iI 24) hx hb dX3_exprHas_53 (by decide) ?_
              obtain ⟨hg_26, hM⟩ := gd_some hM
              refine gi_icmp_ge (tgt := 89) hx hb dX3_exprHas_55 (by decide) hg_26 (by decide) (fun c_27 => ?_) (fun c_27 => ?_)
              · replace hM := ifp hM c_27
                cases hM
                exact hK_22 H locs ls hG (lv_sub hl [2, 4, 5, 6, 3] rfl)
              · replace hM := ifn hM c_27
                refine lv_iload hx hb dX3_exprHas_58 (lv_at hl 1 rfl) ?_
                refine lv_iconst (v := iI (-1)) hx hb dX3_exprHas_60 (by decide) ?_
                obtain ⟨hg_28, hM⟩ := gd_some hM
                refine gi_icmp_eq (tgt := 89) hx hb dX3_exprHas_61 (by decide) hg_28 (by decide) (fun c_29 => ?_) (fun c_29 => ?_)
                · replace hM := ifp hM c_29
                  cases hM
                  exact hK_22 H locs ls hG (lv_sub hl [2, 4, 5, 6, 3] rfl)
                · replace hM := ifn hM c_29
                  refine lv_iload_n hx hb dX3_exprHas_64 rfl (lv_at hl 3 rfl) ?_
                  refine lv_aload_n hx hb dX3_exprHas_65 rfl (lv_at hl 6 rfl) ?_
                  refine lv_iload hx hb dX3_exprHas_66 (lv_at hl 1 rfl) ?_
                  obtain ⟨hg_30, hM⟩ := gd_some hM
                  refine mi_ald S hG 36 36 rfl ec_36 (Nat.lt_of_lt_of_le (Nat.le_of_ble_eq_true rfl) hn) dX3_exprHas_68 hg_30 (by decide) ?_
                  refine gi_or hx hb dX3_exprHas_69 ?_
                  refine gi_nm (fun x_31 ex_31 => ?_)
                  replace hM := nx_at hM ex_31
                  clear ex_31
                  refine lv_istore_n (lv' := [(3, .int (iI x_31)), (6, .int (iI v_17)), (5, .int (iI v_18)), (4, .int (iI v_1)), (0, .ref (b + 33)), (1, .int (iI a1)), (2, .ref (b + 36))]) hx hb dX3_exprHas_70 rfl hl (by decide) rfl (fun ls hl => ?_)
                  refine lv_aload_n hx hb dX3_exprHas_71 rfl (lv_at hl 4 rfl) ?_
                  refine m_get S hG 33 33 0 rfl ec_33 cpX3 wm_319 dX3_exprHas_72 rfl (Nat.lt_of_lt_of_le (Nat.le_of_ble_eq_true rfl) hn) (by decide) ?_
                  refine m_get S hG 2 2 8 rfl ec_2 cpX2 wm_257 dX3_exprHas_75 rfl (Nat.lt_of_lt_of_le (Nat.le_of_ble_eq_true rfl) hn) (by decide) ?_
                  refine lv_iload hx hb dX3_exprHas_78 (lv_at hl 2 rfl) ?_
                  refine mi_ald S hG 6 6 rfl ec_6 (Nat.lt_of_lt_of_le (Nat.le_of_ble_eq_true rfl) hn) dX3_exprHas_80 hg_30 (by decide) ?_
                  refine gi_nm (fun x_32 ex_32 => ?_)
                  replace hM := nx_at hM ex_32
                  clear ex_32
                  refine lv_istore (lv' := [(5, .int (iI x_32)), (3, .int (iI x_31)), (6, .int (iI v_17)), (4, .int (iI v_1)), (0, .ref (b + 33)), (1, .int (iI a1)), (2, .ref (b + 36))]) hx hb dX3_exprHas_81 hl (by decide) rfl (fun ls hl => ?_)
                  refine lv_iinc (v := iI (v_17 + 1)) (lv' := [(6, .int (iI (v_17 + 1))), (5, .int (iI x_32)), (3, .int (iI x_31)), (4, .int (iI v_1)), (0, .ref (b + 33)), (1, .int (iI a1)), (2, .ref (b + 36))]) hx hb dX3_exprHas_83 hl (k := 2) rfl ((iI_add v_17 (1)).trans (congrArg iI (by omega))) (by decide) rfl (fun ls hl => ?_)
                  refine lv_goto (tgt := 51) hx hb dX3_exprHas_86 (by decide) ?_
                  exact ih_24 (v_17 + 1) x_32 x_31 H locs ls hM hG (lv_sub hl [0, 1, 3, 2, 4, 5, 6] rfl)
          exact loop_23 FU 0 z_14 v_2 H locs ls hc_21 hG (lv_sub hl [0, 1, 2, 3, 4, 5, 6] rfl)
        clear hM
        replace hM := hc_15
        obtain ⟨hg_33, hM⟩ := gd_some hM
        refine gi_if_eq (tgt := 36) hx hb dX3_exprHas_29 (by decide) hg_33 (fun c_34 => ?_) (fun c_34 => ?_)
        · replace hM := ifp hM c_34
          refine lv_aload_n hx hb dX3_exprHas_36 rfl (lv_at hl 2 rfl) ?_
          refine m_get S hG 33 33 0 rfl ec_33 cpX3 wm_319 dX3_exprHas_37 rfl (Nat.lt_of_lt_of_le (Nat.le_of_ble_eq_true rfl) hn) (by decide) ?_
          refine lv_iload_n hx hb dX3_exprHas_40 rfl (lv_at hl 3 rfl) ?_
          refine lv_iload hx hb dX3_exprHas_41 (lv_at hl 0 rfl) ?_
          obtain ⟨r_36, hc_35, hM⟩ := bd1_some hM
          refine g_vi (As := [.int (iI a1), .int (iI v_1)]) (rest := []) S hG hsz (vX2_start_2 l hn a1 v_1 hc_35) wV_3_90 (ec_2 _) cpX2 (Nat.lt_of_lt_of_le (Nat.le_of_ble_eq_true rfl) hn) dX3_exprHas_43 rfl hl.1 (ar := 2) (by decide +kernel) rfl ⟨Nat.le_of_ble_eq_true rfl, Nat.le_of_ble_eq_true rfl, Nat.le_of_ble_eq_true rfl, Nat.le_of_ble_eq_true rfl⟩ (Nat.le_of_ble_eq_true rfl) (fun rv uu H locs hp hG => ?_)
          obtain ⟨rfl, rfl⟩ := hp
          replace hG : gW D cy b n s H locs (enc b cy X S0) := hG
          cases hM
          exact hK_16 H locs ls hG (lv_sub hl [0, 1, 2, 3, 4] rfl)
        · replace hM := ifn hM c_34
          refine lv_iconst (v := iI (-1)) hx hb dX3_exprHas_32 (by decide) ?_
          refine lv_goto (tgt := 46) hx hb dX3_exprHas_33 (by decide) ?_
          cases hM
          exact hK_16 H locs ls hG (lv_sub hl [0, 1, 2, 3, 4] rfl)
  exact loop_6 FU 0 0 H locs ls hc_4 hG (lv_sub hl [0, 1, 2, 3, 4] rfl)
def mX3_studyPart_33 (S0 : St) (a1 : Int) : Option (St) := gd (0 ≤ a1 ∧ a1 < 24) <| nx (S0 3 a1) fun x_2 => nx (S0 5 a1) fun x_3 => gd (inI x_2) <| if x_2 = 7 then (nx (6 + a1) fun x_27 => bd1 (mX3_exprLeans_33 S0 x_27) fun r_29 => nx (up S0 34 a1 r_29) fun S_30 => bd1 (mX3_exprHas_33_35 S_30 x_27) fun r_32 => nx (up S_30 35 a1 r_32) fun S_33 => bd1 (mX3_exprHas_33_36 S_33 x_27) fun r_35 => nx (up S_33 36 a1 r_35) fun S_36 => some (S_36)) else (gd (inI x_3) <| if x_3 = (-1) then (bd1 (if x_2 = 2 then (some ((shl 1 (S0 4 a1)))) else (some (0))) fun z_8 => nx (up S0 34 a1 z_8) fun S_11 => nx (up S_11 35 a1 (S_11 34 a1)) fun S_12 => if x_2 = 0 then (nx (up S_12 36 a1 (shl 1 (S_12 4 a1))) fun S_15 => some (S_15)) else (nx (up S_12 36 a1 0) fun S_14 => some (S_14))) else (bd1 (gd (inI (S0 4 a1)) <| if 1 < (S0 4 a1) then (some (0)) else (gd (0 ≤ x_3 ∧ x_3 < 24) <| some ((S0 34 x_3)))) fun z_17 => nx (up S0 34 a1 z_17) fun S_20 => gd (0 ≤ x_3 ∧ x_3 < 24) <| nx (up S_20 35 a1 (S_20 35 x_3)) fun S_22 => nx (up S_22 36 a1 (S_22 36 x_3)) fun S_23 => some (S_23)))
set_option maxHeartbeats 4000000 in
set_option maxRecDepth 100000 in
theorem vX3_studyPart_33 (l : Launch) {D : va_G} {cy : Nat → ClassId} {b n : Nat} (hn : 102 ≤ n) {X : Nat → va_E} {S0 : St} (a1 : Int) {o1 : St} (hM : mX3_studyPart_33 S0 a1 = some o1) : gV l yX3_studyPart cX3_studyPart 5 3 0 0 D cy b n (enc b cy X S0) [.ref (b + 33), .int (iI a1)] (fun u => u = (n, enc b cy X o1)) := by
  refine gV_of (by decide) (Nat.le_of_ble_eq_true rfl) ?_
  intro p e s m args below meth c S hr hlk hin hsz ls hl hG
  have hx := S.1
  have hb := S.2.1
  have hl : lv_has ls 5 [(0, .ref (b + 33)), (1, .int (iI a1))] := hl
  replace hG : gW D cy b n s s.heap [] (enc b cy X S0) := hG
  obtain ⟨H, eH⟩ : ∃ H, H = s.heap := ⟨_, rfl⟩
  obtain ⟨locs, elocs⟩ : ∃ locs : List Loc, locs = [] := ⟨_, rfl⟩
  rw [← eH, ← elocs] at hG
  rw [← eH, ← elocs]
  clear eH elocs
  unfold mX3_studyPart_33 at hM
  refine lv_aload_n hx hb dX3_studyPart_0 rfl (lv_at hl 0 rfl) ?_
  refine m_get S hG 33 33 0 rfl ec_33 cpX3 wm_319 dX3_studyPart_1 rfl (Nat.lt_of_lt_of_le (Nat.le_of_ble_eq_true rfl) hn) (by decide) ?_
  refine m_get S hG 2 2 5 rfl ec_2 cpX2 wm_236 dX3_studyPart_4 rfl (Nat.lt_of_lt_of_le (Nat.le_of_ble_eq_true rfl) hn) (by decide) ?_
  refine lv_iload_n hx hb dX3_studyPart_7 rfl (lv_at hl 1 rfl) ?_
  obtain ⟨hg_1, hM⟩ := gd_some hM
  refine mi_ald S hG 3 3 rfl ec_3 (Nat.lt_of_lt_of_le (Nat.le_of_ble_eq_true rfl) hn) dX3_studyPart_8 hg_1 (by decide) ?_
  refine gi_nm (fun x_2 ex_2 => ?_)
  replace hM := nx_at hM ex_2
  clear ex_2
  refine lv_istore_n (lv' := [(2, .int (iI x_2)), (0, .ref (b + 33)), (1, .int (iI a1))]) hx hb dX3_studyPart_9 rfl hl (by decide) rfl (fun ls hl => ?_)
  refine lv_aload_n hx hb dX3_studyPart_10 rfl (lv_at hl 1 rfl) ?_
  refine m_get S hG 33 33 0 rfl ec_33 cpX3 wm_319 dX3_studyPart_11 rfl (Nat.lt_of_lt_of_le (Nat.le_of_ble_eq_true rfl) hn) (by decide) ?_
  refine m_get S hG 2 2 7 rfl ec_2 cpX2 wm_249 dX3_studyPart_14 rfl (Nat.lt_of_lt_of_le (Nat.le_of_ble_eq_true rfl) hn) (by decide) ?_
  refine lv_iload_n hx hb dX3_studyPart_17 rfl (lv_at hl 2 rfl) ?_
  refine mi_ald S hG 5 5 rfl ec_5 (Nat.lt_of_lt_of_le (Nat.le_of_ble_eq_true rfl) hn) dX3_studyPart_18 hg_1 (by decide) ?_
  refine gi_nm (fun x_3 ex_3 => ?_)
  replace hM := nx_at hM ex_3
  clear ex_3
  refine lv_istore_n (lv' := [(3, .int (iI x_3)), (2, .int (iI x_2)), (0, .ref (b + 33)), (1, .int (iI a1))]) hx hb dX3_studyPart_19 rfl hl (by decide) rfl (fun ls hl => ?_)
  refine lv_iload_n hx hb dX3_studyPart_20 rfl (lv_at hl 1 rfl) ?_
  refine lv_bipush (v := iI 7) hx hb dX3_studyPart_21 (by decide) ?_
  obtain ⟨hg_4, hM⟩ := gd_some hM
  refine gi_icmp_ne (tgt := 79) hx hb dX3_studyPart_23 (by decide) hg_4 (by decide) (fun c_5 => ?_) (fun c_5 => ?_)
  · replace hM := ifn hM c_5
    refine lv_iload_n hx hb dX3_studyPart_79 rfl (lv_at hl 0 rfl) ?_
    refine lv_iconst (v := iI (-1)) hx hb dX3_studyPart_80 (by decide) ?_
    obtain ⟨hg_6, hM⟩ := gd_some hM
    refine gi_icmp_eq (tgt := 140) hx hb dX3_studyPart_81 (by decide) hg_6 (by decide) (fun c_7 => ?_) (fun c_7 => ?_)
    · replace hM := ifp hM c_7
      refine lv_aload_n hx hb dX3_studyPart_140 rfl (lv_at hl 2 rfl) ?_
      refine m_get S hG 33 33 3 rfl ec_33 cpX3 wm_323 dX3_studyPart_141 rfl (Nat.lt_of_lt_of_le (Nat.le_of_ble_eq_true rfl) hn) (by decide) ?_
      refine lv_iload_n hx hb dX3_studyPart_144 rfl (lv_at hl 3 rfl) ?_
      refine lv_iload_n hx hb dX3_studyPart_145 rfl (lv_at hl 1 rfl) ?_
      refine lv_iconst (v := iI 2) hx hb dX3_studyPart_146 (by decide) ?_
      obtain ⟨z_8, hc_9, hM⟩ := bd1_some hM
      have hK_10 : ∀ (H : Heap) (locs : List Loc) (ls : Array Slot), gW D cy b n s H locs (enc b cy X S0) → lv_has ls 5 [(2, .int (iI x_2)), (0, .ref (b + 33)), (1, .int (iI a1))] → W p l e (gRm 3 0 0) s m args below meth c H locs 0 0 (gQV D cy b s args below 0 0 (fun u => u = (n, enc b cy X o1))) (F0 m 165 ls [.int (iI z_8), .int (iI a1), .ref (b + 34)]) := by
        intro H locs ls hG hl
        refine mi_ast S hG 34 34 rfl ec_34 (Nat.lt_of_lt_of_le (Nat.le_of_ble_eq_true rfl) hn) dX3_studyPart_165 hg_1 (by decide) (fun H locs S_11 eS_11 hG => ?_)
        replace hM := nx_at hM eS_11
        clear eS_11
        refine lv_aload_n hx hb dX3_studyPart_166 rfl (lv_at hl 1 rfl) ?_
        refine m_get S hG 33 33 4 rfl ec_33 cpX3 wm_324 dX3_studyPart_167 rfl (Nat.lt_of_lt_of_le (Nat.le_of_ble_eq_true rfl) hn) (by decide) ?_
        refine lv_iload_n hx hb dX3_studyPart_170 rfl (lv_at hl 2 rfl) ?_
        refine lv_aload_n hx hb dX3_studyPart_171 rfl (lv_at hl 1 rfl) ?_
        refine m_get S hG 33 33 3 rfl ec_33 cpX3 wm_323 dX3_studyPart_172 rfl (Nat.lt_of_lt_of_le (Nat.le_of_ble_eq_true rfl) hn) (by decide) ?_
        refine lv_iload_n hx hb dX3_studyPart_175 rfl (lv_at hl 2 rfl) ?_
        refine mi_ald S hG 34 34 rfl ec_34 (Nat.lt_of_lt_of_le (Nat.le_of_ble_eq_true rfl) hn) dX3_studyPart_176 hg_1 (by decide) ?_
        refine mi_ast S hG 35 35 rfl ec_35 (Nat.lt_of_lt_of_le (Nat.le_of_ble_eq_true rfl) hn) dX3_studyPart_177 hg_1 (by decide) (fun H locs S_12 eS_12 hG => ?_)
        replace hM := nx_at hM eS_12
        clear eS_12
        refine lv_aload_n hx hb dX3_studyPart_178 rfl (lv_at hl 1 rfl) ?_
        refine m_get S hG 33 33 5 rfl ec_33 cpX3 wm_325 dX3_studyPart_179 rfl (Nat.lt_of_lt_of_le (Nat.le_of_ble_eq_true rfl) hn) (by decide) ?_
        refine lv_iload_n hx hb dX3_studyPart_182 rfl (lv_at hl 2 rfl) ?_
        refine lv_iload_n hx hb dX3_studyPart_183 rfl (lv_at hl 0 rfl) ?_
        refine gi_if_ne (tgt := 201) hx hb dX3_studyPart_184 (by decide) hg_4 (fun c_13 => ?_) (fun c_13 => ?_)
        · replace hM := ifn hM c_13
          refine lv_iconst (v := iI 0) hx hb dX3_studyPart_201 (by decide) ?_
          refine mi_ast S hG 36 36 rfl ec_36 (Nat.lt_of_lt_of_le (Nat.le_of_ble_eq_true rfl) hn) dX3_studyPart_202 hg_1 (by decide) (fun H locs S_14 eS_14 hG => ?_)
          replace hM := nx_at hM eS_14
          clear eS_14
          cases hM
          exact g_vret S hr hlk hG hsz dX3_studyPart_203 ⟨Nat.le_of_ble_eq_true rfl, Nat.le_of_ble_eq_true rfl⟩ rfl
        · replace hM := ifp hM c_13
          refine lv_iconst (v := iI 1) hx hb dX3_studyPart_187 (by decide) ?_
          refine lv_aload_n hx hb dX3_studyPart_188 rfl (lv_at hl 1 rfl) ?_
          refine m_get S hG 33 33 0 rfl ec_33 cpX3 wm_319 dX3_studyPart_189 rfl (Nat.lt_of_lt_of_le (Nat.le_of_ble_eq_true rfl) hn) (by decide) ?_
          refine m_get S hG 2 2 6 rfl ec_2 cpX2 wm_242 dX3_studyPart_192 rfl (Nat.lt_of_lt_of_le (Nat.le_of_ble_eq_true rfl) hn) (by decide) ?_
          refine lv_iload_n hx hb dX3_studyPart_195 rfl (lv_at hl 2 rfl) ?_
          refine mi_ald S hG 4 4 rfl ec_4 (Nat.lt_of_lt_of_le (Nat.le_of_ble_eq_true rfl) hn) dX3_studyPart_196 hg_1 (by decide) ?_
          refine gi_shl hx hb dX3_studyPart_197 ?_
          refine lv_goto (tgt := 202) hx hb dX3_studyPart_198 (by decide) ?_
          refine mi_ast S hG 36 36 rfl ec_36 (Nat.lt_of_lt_of_le (Nat.le_of_ble_eq_true rfl) hn) dX3_studyPart_202 hg_1 (by decide) (fun H locs S_15 eS_15 hG => ?_)
          replace hM := nx_at hM eS_15
          clear eS_15
          cases hM
          exact g_vret S hr hlk hG hsz dX3_studyPart_203 ⟨Nat.le_of_ble_eq_true rfl, Nat.le_of_ble_eq_true rfl⟩ rfl
      clear hM
      replace hM := hc_9
      refine gi_icmp_ne (tgt := 164) hx hb dX3_studyPart_147 (by decide) hg_4 (by decide) (fun c_16 => ?_) (fun c_16 => ?_)
      · replace hM := ifn hM c_16
        refine lv_iconst (v := iI 0) hx hb dX3_studyPart_164 (by decide) ?_
        cases hM
        exact hK_10 H locs ls hG (lv_sub hl [1, 2, 3] rfl)
      · replace hM := ifp hM c_16
        refine lv_iconst (v := iI 1) hx hb dX3_studyPart_150 (by decide) ?_
        refine lv_aload_n hx hb dX3_studyPart_151 rfl (lv_at hl 2 rfl) ?_
        refine m_get S hG 33 33 0 rfl ec_33 cpX3 wm_319 dX3_studyPart_152 rfl (Nat.lt_of_lt_of_le (Nat.le_of_ble_eq_true rfl) hn) (by decide) ?_
        refine m_get S hG 2 2 6 rfl ec_2 cpX2 wm_242 dX3_studyPart_155 rfl (Nat.lt_of_lt_of_le (Nat.le_of_ble_eq_true rfl) hn) (by decide) ?_
        refine lv_iload_n hx hb dX3_studyPart_158 rfl (lv_at hl 3 rfl) ?_
        refine mi_ald S hG 4 4 rfl ec_4 (Nat.lt_of_lt_of_le (Nat.le_of_ble_eq_true rfl) hn) dX3_studyPart_159 hg_1 (by decide) ?_
        refine gi_shl hx hb dX3_studyPart_160 ?_
        refine lv_goto (tgt := 165) hx hb dX3_studyPart_161 (by decide) ?_
        cases hM
        exact hK_10 H locs ls hG (lv_sub hl [1, 2, 3] rfl)
    · replace hM := ifn hM c_7
      refine lv_aload_n hx hb dX3_studyPart_84 rfl (lv_at hl 2 rfl) ?_
      refine m_get S hG 33 33 3 rfl ec_33 cpX3 wm_323 dX3_studyPart_85 rfl (Nat.lt_of_lt_of_le (Nat.le_of_ble_eq_true rfl) hn) (by decide) ?_
      refine lv_iload_n hx hb dX3_studyPart_88 rfl (lv_at hl 3 rfl) ?_
      refine lv_aload_n hx hb dX3_studyPart_89 rfl (lv_at hl 2 rfl) ?_
      refine m_get S hG 33 33 0 rfl ec_33 cpX3 wm_319 dX3_studyPart_90 rfl (Nat.lt_of_lt_of_le (Nat.le_of_ble_eq_true rfl) hn) (by decide) ?_
      refine m_get S hG 2 2 6 rfl ec_2 cpX2 wm_242 dX3_studyPart_93 rfl (Nat.lt_of_lt_of_le (Nat.le_of_ble_eq_true rfl) hn) (by decide) ?_
      refine lv_iload_n hx hb dX3_studyPart_96 rfl (lv_at hl 3 rfl) ?_
      refine mi_ald S hG 4 4 rfl ec_4 (Nat.lt_of_lt_of_le (Nat.le_of_ble_eq_true rfl) hn) dX3_studyPart_97 hg_1 (by decide) ?_
      refine lv_iconst (v := iI 1) hx hb dX3_studyPart_98 (by decide) ?_
      obtain ⟨z_17, hc_18, hM⟩ := bd1_some hM
      have hK_19 : ∀ (H : Heap) (locs : List Loc) (ls : Array Slot), gW D cy b n s H locs (enc b cy X S0) → lv_has ls 5 [(3, .int (iI x_3)), (0, .ref (b + 33)), (1, .int (iI a1))] → W p l e (gRm 3 0 0) s m args below meth c H locs 0 0 (gQV D cy b s args below 0 0 (fun u => u = (n, enc b cy X o1))) (F0 m 112 ls [.int (iI z_17), .int (iI a1), .ref (b + 34)]) := by
        intro H locs ls hG hl
        refine mi_ast S hG 34 34 rfl ec_34 (Nat.lt_of_lt_of_le (Nat.le_of_ble_eq_true rfl) hn) dX3_studyPart_112 hg_1 (by decide) (fun H locs S_20 eS_20 hG => ?_)
        replace hM := nx_at hM eS_20
        clear eS_20
        refine lv_aload_n hx hb dX3_studyPart_113 rfl (lv_at hl 1 rfl) ?_
        refine m_get S hG 33 33 4 rfl ec_33 cpX3 wm_324 dX3_studyPart_114 rfl (Nat.lt_of_lt_of_le (Nat.le_of_ble_eq_true rfl) hn) (by decide) ?_
        refine lv_iload_n hx hb dX3_studyPart_117 rfl (lv_at hl 2 rfl) ?_
        refine lv_aload_n hx hb dX3_studyPart_118 rfl (lv_at hl 1 rfl) ?_
        refine m_get S hG 33 33 4 rfl ec_33 cpX3 wm_324 dX3_studyPart_119 rfl (Nat.lt_of_lt_of_le (Nat.le_of_ble_eq_true rfl) hn) (by decide) ?_
        refine lv_iload_n hx hb dX3_studyPart_122 rfl (lv_at hl 0 rfl) ?_
        obtain ⟨hg_21, hM⟩ := gd_some hM
        refine mi_ald S hG 35 35 rfl ec_35 (Nat.lt_of_lt_of_le (Nat.le_of_ble_eq_true rfl) hn) dX3_studyPart_123 hg_21 (by decide) ?_
        refine mi_ast S hG 35 35 rfl ec_35 (Nat.lt_of_lt_of_le (Nat.le_of_ble_eq_true rfl) hn) dX3_studyPart_124 hg_1 (by decide) (fun H locs S_22 eS_22 hG => ?_)
        replace hM := nx_at hM eS_22
        clear eS_22
        refine lv_aload_n hx hb dX3_studyPart_125 rfl (lv_at hl 1 rfl) ?_
        refine m_get S hG 33 33 5 rfl ec_33 cpX3 wm_325 dX3_studyPart_126 rfl (Nat.lt_of_lt_of_le (Nat.le_of_ble_eq_true rfl) hn) (by decide) ?_
        refine lv_iload_n hx hb dX3_studyPart_129 rfl (lv_at hl 2 rfl) ?_
        refine lv_aload_n hx hb dX3_studyPart_130 rfl (lv_at hl 1 rfl) ?_
        refine m_get S hG 33 33 5 rfl ec_33 cpX3 wm_325 dX3_studyPart_131 rfl (Nat.lt_of_lt_of_le (Nat.le_of_ble_eq_true rfl) hn) (by decide) ?_
        refine lv_iload_n hx hb dX3_studyPart_134 rfl (lv_at hl 0 rfl) ?_
        refine mi_ald S hG 36 36 rfl ec_36 (Nat.lt_of_lt_of_le (Nat.le_of_ble_eq_true rfl) hn) dX3_studyPart_135 hg_21 (by decide) ?_
        refine mi_ast S hG 36 36 rfl ec_36 (Nat.lt_of_lt_of_le (Nat.le_of_ble_eq_true rfl) hn) dX3_studyPart_136 hg_1 (by decide) (fun H locs S_23 eS_23 hG => ?_)
        replace hM := nx_at hM eS_23
        clear eS_23
        refine lv_goto (tgt := 203) hx hb dX3_studyPart_137 (by decide) ?_
        cases hM
        exact g_vret S hr hlk hG hsz dX3_studyPart_203 ⟨Nat.le_of_ble_eq_true rfl, Nat.le_of_ble_eq_true rfl⟩ rfl
      clear hM
      replace hM := hc_18
      obtain ⟨hg_24, hM⟩ := gd_some hM
      refine gi_icmp_gt (tgt := 111) hx hb dX3_studyPart_99 (by decide) hg_24 (by decide) (fun c_25 => ?_) (fun c_25 => ?_)
      · replace hM := ifp hM c_25
        refine lv_iconst (v := iI 0) hx hb dX3_studyPart_111 (by decide) ?_
        cases hM
        exact hK_19 H locs ls hG (lv_sub hl [0, 2, 3] rfl)
      · replace hM := ifn hM c_25
        refine lv_aload_n hx hb dX3_studyPart_102 rfl (lv_at hl 2 rfl) ?_
        refine m_get S hG 33 33 3 rfl ec_33 cpX3 wm_323 dX3_studyPart_103 rfl (Nat.lt_of_lt_of_le (Nat.le_of_ble_eq_true rfl) hn) (by decide) ?_
        refine lv_iload_n hx hb dX3_studyPart_106 rfl (lv_at hl 0 rfl) ?_
        obtain ⟨hg_26, hM⟩ := gd_some hM
        refine mi_ald S hG 34 34 rfl ec_34 (Nat.lt_of_lt_of_le (Nat.le_of_ble_eq_true rfl) hn) dX3_studyPart_107 hg_26 (by decide) ?_
        refine lv_goto (tgt := 112) hx hb dX3_studyPart_108 (by decide) ?_
        cases hM
        exact hK_19 H locs ls hG (lv_sub hl [0, 2, 3] rfl)
  · replace hM := ifp hM c_5
    refine lv_bipush (v := iI 6) hx hb dX3_studyPart_26 (by decide) ?_
    refine lv_iload_n hx hb dX3_studyPart_28 rfl (lv_at hl 3 rfl) ?_
    refine gi_add hx hb dX3_studyPart_29 ?_
    refine gi_nm (fun x_27 ex_27 => ?_)
    replace hM := nx_at hM ex_27
    clear ex_27
    refine lv_istore (lv' := [(4, .int (iI x_27)), (3, .int (iI x_3)), (2, .int (iI x_2)), (0, .ref (b + 33)), (1, .int (iI a1))]) hx hb dX3_studyPart_30 hl (by decide) rfl (fun ls hl => ?_)
    refine lv_aload_n hx hb dX3_studyPart_32 rfl (lv_at hl 3 rfl) ?_
    refine m_get S hG 33 33 3 rfl ec_33 cpX3 wm_323 dX3_studyPart_33 rfl (Nat.lt_of_lt_of_le (Nat.le_of_ble_eq_true rfl) hn) (by decide) ?_
    refine lv_iload_n hx hb dX3_studyPart_36 rfl (lv_at hl 4 rfl) ?_
    refine lv_aload_n hx hb dX3_studyPart_37 rfl (lv_at hl 3 rfl) ?_
    refine lv_iload hx hb dX3_studyPart_38 (lv_at hl 0 rfl) ?_
    obtain ⟨r_29, hc_28, hM⟩ := bd1_some hM
    refine g_vi (As := [.int (iI x_27)]) (rest := [.int (iI a1), .ref (b + 34)]) S hG hsz (vX3_exprLeans_33 l hn x_27 hc_28) wV_3_56 (ec_33 _) cpX3 (Nat.lt_of_lt_of_le (Nat.le_of_ble_eq_true rfl) hn) dX3_studyPart_40 rfl hl.1 (ar := 1) (by decide +kernel) rfl ⟨Nat.le_of_ble_eq_true rfl, Nat.le_of_ble_eq_true rfl, Nat.le_of_ble_eq_true rfl, Nat.le_of_ble_eq_true rfl⟩ (Nat.le_of_ble_eq_true rfl) (fun rv uu H locs hp hG => ?_)
    obtain ⟨rfl, rfl⟩ := hp
    replace hG : gW D cy b n s H locs (enc b cy X S0) := hG
    refine mi_ast S hG 34 34 rfl ec_34 (Nat.lt_of_lt_of_le (Nat.le_of_ble_eq_true rfl) hn) dX3_studyPart_43 hg_1 (by decide) (fun H locs S_30 eS_30 hG => ?_)
    replace hM := nx_at hM eS_30
    clear eS_30
    refine lv_aload_n hx hb dX3_studyPart_44 rfl (lv_at hl 3 rfl) ?_
    refine m_get S hG 33 33 4 rfl ec_33 cpX3 wm_324 dX3_studyPart_45 rfl (Nat.lt_of_lt_of_le (Nat.le_of_ble_eq_true rfl) hn) (by decide) ?_
    refine lv_iload_n hx hb dX3_studyPart_48 rfl (lv_at hl 4 rfl) ?_
    refine lv_aload_n hx hb dX3_studyPart_49 rfl (lv_at hl 3 rfl) ?_
    refine lv_iload hx hb dX3_studyPart_50 (lv_at hl 0 rfl) ?_
    refine lv_aload_n hx hb dX3_studyPart_52 rfl (lv_at hl 3 rfl) ?_
    refine m_get S hG 33 33 4 rfl ec_33 cpX3 wm_324 dX3_studyPart_53 rfl (Nat.lt_of_lt_of_le (Nat.le_of_ble_eq_true rfl) hn) (by decide) ?_
    obtain ⟨r_32, hc_31, hM⟩ := bd1_some hM
    refine g_vi (As := [.int (iI x_27), .ref (b + 35)]) (rest := [.int (iI a1), .ref (b + 35)]) S hG hsz (vX3_exprHas_33_35 l hn x_27 hc_31) wV_3_60 (ec_33 _) cpX3 (Nat.lt_of_lt_of_le (Nat.le_of_ble_eq_true rfl) hn) dX3_studyPart_56 rfl hl.1 (ar := 2) (by decide +kernel) rfl ⟨Nat.le_of_ble_eq_true rfl, Nat.le_of_ble_eq_true rfl, Nat.le_of_ble_eq_true rfl, Nat.le_of_ble_eq_true rfl⟩ (Nat.le_of_ble_eq_true rfl) (fun rv uu H locs hp hG => ?_)
    obtain ⟨rfl, rfl⟩ := hp
    replace hG : gW D cy b n s H locs (enc b cy X S_30) := hG
    refine mi_ast S hG 35 35 rfl ec_35 (Nat.lt_of_lt_of_le (Nat.le_of_ble_eq_true rfl) hn) dX3_studyPart_59 hg_1 (by decide) (fun H locs S_33 eS_33 hG => ?_)
    replace hM := nx_at hM eS_33
    clear eS_33
    refine lv_aload_n hx hb dX3_studyPart_60 rfl (lv_at hl 3 rfl) ?_
    refine m_get S hG 33 33 5 rfl ec_33 cpX3 wm_325 dX3_studyPart_61 rfl (Nat.lt_of_lt_of_le (Nat.le_of_ble_eq_true rfl) hn) (by decide) ?_
    refine lv_iload_n hx hb dX3_studyPart_64 rfl (lv_at hl 4 rfl) ?_
    refine lv_aload_n hx hb dX3_studyPart_65 rfl (lv_at hl 3 rfl) ?_
    refine lv_iload hx hb dX3_studyPart_66 (lv_at hl 0 rfl) ?_
    refine lv_aload_n hx hb dX3_studyPart_68 rfl (lv_at hl 3 rfl) ?_
    refine m_get S hG 33 33 5 rfl ec_33 cpX3 wm_325 dX3_studyPart_69 rfl (Nat.lt_of_lt_of_le (Nat.le_of_ble_eq_true rfl) hn) (by decide) ?_
    obtain ⟨r_35, hc_34, hM⟩ := bd1_some hM
    refine g_vi (As := [.int (iI x_27), .ref (b + 36)]) (rest := [.int (iI a1), .ref (b + 36)]) S hG hsz (vX3_exprHas_33_36 l hn x_27 hc_34) wV_3_60 (ec_33 _) cpX3 (Nat.lt_of_lt_of_le (Nat.le_of_ble_eq_true rfl) hn) dX3_studyPart_72 rfl hl.1 (ar := 2) (by decide +kernel) rfl ⟨Nat.le_of_ble_eq_true rfl, Nat.le_of_ble_eq_true rfl, Nat.le_of_ble_eq_true rfl, Nat.le_of_ble_eq_true rfl⟩ (Nat.le_of_ble_eq_true rfl) (fun rv uu H locs hp hG => ?_)
    obtain ⟨rfl, rfl⟩ := hp
    replace hG : gW D cy b n s H locs (enc b cy X S_33) := hG
    refine mi_ast S hG 36 36 rfl ec_36 (Nat.lt_of_lt_of_le (Nat.le_of_ble_eq_true rfl) hn) dX3_studyPart_75 hg_1 (by decide) (fun H locs S_36 eS_36 hG => ?_)
    replace hM := nx_at hM eS_36
    clear eS_36
    refine lv_goto (tgt := 203) hx hb dX3_studyPart_76 (by decide) ?_
    cases hM
    exact g_vret S hr hlk hG hsz dX3_studyPart_203 ⟨Nat.le_of_ble_eq_true rfl, Nat.le_of_ble_eq_true rfl⟩ rfl
def mX3_study_33_31  : Nat → Int → St → Option (St)
  | 0, _, _ => none
  | f + 1, v_9, S_10 => gd ((inI v_9) ∧ (inI (S_10 2 1))) <| if (S_10 2 1) ≤ v_9 then (some (S_10)) else (bd1 (mX3_exprLeans_33 S_10 v_9) fun r_20 => gd (0 ≤ v_9 ∧ v_9 < 6) <| nx (up S_10 37 v_9 r_20) fun S_22 => bd1 (mX3_exprHas_33_35 S_22 v_9) fun r_24 => nx (up S_22 38 v_9 r_24) fun S_25 => bd1 (mX3_exprHas_33_36 S_25 v_9) fun r_27 => nx (up S_25 39 v_9 r_27) fun S_28 => mX3_study_33_31 f (v_9 + 1) S_28)
def mX3_study_33_14  : Nat → Int → St → Option (St)
  | 0, _, _ => none
  | f + 1, v_4, S_5 => gd (inI v_4) <| if v_4 < 0 then (some (S_5)) else (bd1 (mX3_studyPart_33 S_5 v_4) fun S_35 => mX3_study_33_14 f (v_4 - 1) S_35)
def mX3_study_33 (S0 : St)  : Option (St) := bd1 (mX3_findEmpty_33 S0) fun S_2 => nx ((S_2 2 3) - 1) fun x_3 => bd1 (mX3_study_33_14 FU x_3 S_2) fun S_6 => bd1 (mX3_study_33_31 FU 0 S_6) fun S_11 => some (S_11)
set_option maxHeartbeats 4000000 in
set_option maxRecDepth 100000 in
theorem vX3_study_33 (l : Launch) {D : va_G} {cy : Nat → ClassId} {b n : Nat} (hn : 102 ≤ n) {X : Nat → va_E} {S0 : St}  {o1 : St} (hM : mX3_study_33 S0  = some o1) : gV l yX3_study cX3_study 2 5 0 0 D cy b n (enc b cy X S0) [.ref (b + 33)] (fun u => u = (n, enc b cy X o1)) := by
  refine gV_of (by decide) (Nat.le_of_ble_eq_true rfl) ?_
  intro p e s m args below meth c S hr hlk hin hsz ls hl hG
  have hx := S.1
  have hb := S.2.1
  have hl : lv_has ls 2 [(0, .ref (b + 33))] := hl
  replace hG : gW D cy b n s s.heap [] (enc b cy X S0) := hG
  obtain ⟨H, eH⟩ : ∃ H, H = s.heap := ⟨_, rfl⟩
  obtain ⟨locs, elocs⟩ : ∃ locs : List Loc, locs = [] := ⟨_, rfl⟩
  rw [← eH, ← elocs] at hG
  rw [← eH, ← elocs]
  clear eH elocs
  unfold mX3_study_33 at hM
  refine lv_aload_n hx hb dX3_study_0 rfl (lv_at hl 0 rfl) ?_
  obtain ⟨S_2, hc_1, hM⟩ := bd1_some hM
  refine g_vv (As := []) (rest := []) S hG hsz (vX3_findEmpty_33 l hn  hc_1) wV_3_41 (ec_33 _) cpX3 (Nat.lt_of_lt_of_le (Nat.le_of_ble_eq_true rfl) hn) dX3_study_1 rfl hl.1 (ar := 0) (by decide +kernel) rfl ⟨Nat.le_of_ble_eq_true rfl, Nat.le_of_ble_eq_true rfl, Nat.le_of_ble_eq_true rfl, Nat.le_of_ble_eq_true rfl⟩ (Nat.le_of_ble_eq_true rfl) (fun uu H locs hp hG => ?_)
  obtain rfl := hp
  replace hG : gW D cy b n s H locs (enc b cy X S_2) := hG
  refine lv_aload_n hx hb dX3_study_4 rfl (lv_at hl 0 rfl) ?_
  refine m_get S hG 33 33 0 rfl ec_33 cpX3 wm_319 dX3_study_5 rfl (Nat.lt_of_lt_of_le (Nat.le_of_ble_eq_true rfl) hn) (by decide) ?_
  refine m_get S hG 2 2 3 rfl ec_2 cpX2 wm_227 dX3_study_8 rfl (Nat.lt_of_lt_of_le (Nat.le_of_ble_eq_true rfl) hn) (by decide) ?_
  refine lv_iconst (v := iI 1) hx hb dX3_study_11 (by decide) ?_
  refine gi_sub hx hb dX3_study_12 ?_
  refine gi_nm (fun x_3 ex_3 => ?_)
  replace hM := nx_at hM ex_3
  clear ex_3
  refine lv_istore_n (lv' := [(1, .int (iI x_3)), (0, .ref (b + 33))]) hx hb dX3_study_13 rfl hl (by decide) rfl (fun ls hl => ?_)
  obtain ⟨S_6, hc_7, hM⟩ := bd1_some hM
  have hK_8 : ∀ (H : Heap) (locs : List Loc) (ls : Array Slot), gW D cy b n s H locs (enc b cy X S_6) → lv_has ls 2 [(0, .ref (b + 33))] → W p l e (gRm 5 0 0) s m args below meth c H locs 0 0 (gQV D cy b s args below 0 0 (fun u => u = (n, enc b cy X o1))) (F0 m 29 ls []) := by
    intro H locs ls hG hl
    refine lv_iconst (v := iI 0) hx hb dX3_study_29 (by decide) ?_
    refine lv_istore_n (lv' := [(1, .int (iI 0)), (0, .ref (b + 33))]) hx hb dX3_study_30 rfl hl (by decide) rfl (fun ls hl => ?_)
    obtain ⟨S_11, hc_12, hM⟩ := bd1_some hM
    have hK_13 : ∀ (H : Heap) (locs : List Loc) (ls : Array Slot), gW D cy b n s H locs (enc b cy X S_11) → lv_has ls 2 [] → W p l e (gRm 5 0 0) s m args below meth c H locs 0 0 (gQV D cy b s args below 0 0 (fun u => u = (n, enc b cy X o1))) (F0 m 89 ls []) := by
      intro H locs ls hG hl
      cases hM
      exact g_vret S hr hlk hG hsz dX3_study_89 ⟨Nat.le_of_ble_eq_true rfl, Nat.le_of_ble_eq_true rfl⟩ rfl
    have loop_14 : ∀ (f : Nat) (v_9 : Int) (S_10 : St) (H : Heap) (locs : List Loc) (ls : Array Slot), mX3_study_33_31 f v_9 S_10 = some S_11 → gW D cy b n s H locs (enc b cy X S_10) → lv_has ls 2 [(1, .int (iI v_9)), (0, .ref (b + 33))] → W p l e (gRm 5 0 0) s m args below meth c H locs 0 0 (gQV D cy b s args below 0 0 (fun u => u = (n, enc b cy X o1))) (F0 m 31 ls []) := by
      clear hM
      intro f
      induction f with
      | zero => intro v_9 S_10 H locs ls hM; rw [mX3_study_33_31] at hM; cases hM
      | succ f_16 ih_15 =>
        intro v_9 S_10 H locs ls hM hG hl
        rw [mX3_study_33_31] at hM
        refine lv_iload_n hx hb dX3_study_31 rfl (lv_at hl 0 rfl) ?_
        refine lv_aload_n hx hb dX3_study_32 rfl (lv_at hl 1 rfl) ?_
        refine m_get S hG 33 33 0 rfl ec_33 cpX3 wm_319 dX3_study_33 rfl (Nat.lt_of_lt_of_le (Nat.le_of_ble_eq_true rfl) hn) (by decide) ?_
        refine m_get S hG 2 2 1 rfl ec_2 cpX2 wm_219 dX3_study_36 rfl (Nat.lt_of_lt_of_le (Nat.le_of_ble_eq_true rfl) hn) (by decide) ?_
        obtain ⟨hg_17, hM⟩ := gd_some hM
        refine gi_icmp_ge (tgt := 89) hx hb dX3_study_39 (by decide) hg_17.1 hg_17.2 (fun c_18 => ?_) (fun c_18 => ?_)
        · replace hM := ifp hM c_18
          cases hM
          exact hK_13 H locs ls hG (lv_sub hl [] rfl)
        · replace hM := ifn hM c_18
          refine lv_aload_n hx hb dX3_study_42 rfl (lv_at hl 1 rfl) ?_
          refine m_get S hG 33 33 6 rfl ec_33 cpX3 wm_326 dX3_study_43 rfl (Nat.lt_of_lt_of_le (Nat.le_of_ble_eq_true rfl) hn) (by decide) ?_
          refine lv_iload_n hx hb dX3_study_46 rfl (lv_at hl 0 rfl) ?_
          refine lv_aload_n hx hb dX3_study_47 rfl (lv_at hl 1 rfl) ?_
          refine lv_iload_n hx hb dX3_study_48 rfl (lv_at hl 0 rfl) ?_
          obtain ⟨r_20, hc_19, hM⟩ := bd1_some hM
          refine g_vi (As := [.int (iI v_9)]) (rest := [.int (iI v_9), .ref (b + 37)]) S hG hsz (vX3_exprLeans_33 l hn v_9 hc_19) wV_3_56 (ec_33 _) cpX3 (Nat.lt_of_lt_of_le (Nat.le_of_ble_eq_true rfl) hn) dX3_study_49 rfl hl.1 (ar := 1) (by decide +kernel) rfl ⟨Nat.le_of_ble_eq_true rfl, Nat.le_of_ble_eq_true rfl, Nat.le_of_ble_eq_true rfl, Nat.le_of_ble_eq_true rfl⟩ (Nat.le_of_ble_eq_true rfl) (fun rv uu H locs hp hG => ?_)
          obtain ⟨rfl, rfl⟩ := hp
          replace hG : gW D cy b n s H locs (enc b cy X S_10) := hG
          obtain ⟨hg_21, hM⟩ := gd_some hM
          refine mi_ast S hG 37 37 rfl ec_37 (Nat.lt_of_lt_of_le (Nat.le_of_ble_eq_true rfl) hn) dX3_study_52 hg_21 (by decide) (fun H locs S_22 eS_22 hG => ?_)
          replace hM := nx_at hM eS_22
          clear eS_22
          refine lv_aload_n hx hb dX3_study_53 rfl (lv_at hl 1 rfl) ?_
          refine m_get S hG 33 33 7 rfl ec_33 cpX3 wm_329 dX3_study_54 rfl (Nat.lt_of_lt_of_le (Nat.le_of_ble_eq_true rfl) hn) (by decide) ?_
          refine lv_iload_n hx hb dX3_study_57 rfl (lv_at hl 0 rfl) ?_
          refine lv_aload_n hx hb dX3_study_58 rfl (lv_at hl 1 rfl) ?_
          refine lv_iload_n hx hb dX3_study_59 rfl (lv_at hl 0 rfl) ?_
          refine lv_aload_n hx hb dX3_study_60 rfl (lv_at hl 1 rfl) ?_
          refine m_get S hG 33 33 4 rfl ec_33 cpX3 wm_324 dX3_study_61 rfl (Nat.lt_of_lt_of_le (Nat.le_of_ble_eq_true rfl) hn) (by decide) ?_
          obtain ⟨r_24, hc_23, hM⟩ := bd1_some hM
          refine g_vi (As := [.int (iI v_9), .ref (b + 35)]) (rest := [.int (iI v_9), .ref (b + 38)]) S hG hsz (vX3_exprHas_33_35 l hn v_9 hc_23) wV_3_60 (ec_33 _) cpX3 (Nat.lt_of_lt_of_le (Nat.le_of_ble_eq_true rfl) hn) dX3_study_64 rfl hl.1 (ar := 2) (by decide +kernel) rfl ⟨Nat.le_of_ble_eq_true rfl, Nat.le_of_ble_eq_true rfl, Nat.le_of_ble_eq_true rfl, Nat.le_of_ble_eq_true rfl⟩ (Nat.le_of_ble_eq_true rfl) (fun rv uu H locs hp hG => ?_)
          obtain ⟨rfl, rfl⟩ := hp
          replace hG : gW D cy b n s H locs (enc b cy X S_22) := hG
          refine mi_ast S hG 38 38 rfl ec_38 (Nat.lt_of_lt_of_le (Nat.le_of_ble_eq_true rfl) hn) dX3_study_67 hg_21 (by decide) (fun H locs S_25 eS_25 hG => ?_)
          replace hM := nx_at hM eS_25
          clear eS_25
          refine lv_aload_n hx hb dX3_study_68 rfl (lv_at hl 1 rfl) ?_
          refine m_get S hG 33 33 8 rfl ec_33 cpX3 wm_331 dX3_study_69 rfl (Nat.lt_of_lt_of_le (Nat.le_of_ble_eq_true rfl) hn) (by decide) ?_
          refine lv_iload_n hx hb dX3_study_72 rfl (lv_at hl 0 rfl) ?_
          refine lv_aload_n hx hb dX3_study_73 rfl (lv_at hl 1 rfl) ?_
          refine lv_iload_n hx hb dX3_study_74 rfl (lv_at hl 0 rfl) ?_
          refine lv_aload_n hx hb dX3_study_75 rfl (lv_at hl 1 rfl) ?_
          refine m_get S hG 33 33 5 rfl ec_33 cpX3 wm_325 dX3_study_76 rfl (Nat.lt_of_lt_of_le (Nat.le_of_ble_eq_true rfl) hn) (by decide) ?_
          obtain ⟨r_27, hc_26, hM⟩ := bd1_some hM
          refine g_vi (As := [.int (iI v_9), .ref (b + 36)]) (rest := [.int (iI v_9), .ref (b + 39)]) S hG hsz (vX3_exprHas_33_36 l hn v_9 hc_26) wV_3_60 (ec_33 _) cpX3 (Nat.lt_of_lt_of_le (Nat.le_of_ble_eq_true rfl) hn) dX3_study_79 rfl hl.1 (ar := 2) (by decide +kernel) rfl ⟨Nat.le_of_ble_eq_true rfl, Nat.le_of_ble_eq_true rfl, Nat.le_of_ble_eq_true rfl, Nat.le_of_ble_eq_true rfl⟩ (Nat.le_of_ble_eq_true rfl) (fun rv uu H locs hp hG => ?_)
          obtain ⟨rfl, rfl⟩ := hp
          replace hG : gW D cy b n s H locs (enc b cy X S_25) := hG
          refine mi_ast S hG 39 39 rfl ec_39 (Nat.lt_of_lt_of_le (Nat.le_of_ble_eq_true rfl) hn) dX3_study_82 hg_21 (by decide) (fun H locs S_28 eS_28 hG => ?_)
          replace hM := nx_at hM eS_28
          clear eS_28
          refine lv_iinc (v := iI (v_9 + 1)) (lv' := [(1, .int (iI (v_9 + 1))), (0, .ref (b + 33))]) hx hb dX3_study_83 hl (k := 0) rfl ((iI_add v_9 (1)).trans (congrArg iI (by omega))) (by decide) rfl (fun ls hl => ?_)
          refine lv_goto (tgt := 31) hx hb dX3_study_86 (by decide) ?_
          exact ih_15 (v_9 + 1) S_28 H locs ls hM hG (lv_sub hl [0, 1] rfl)
    exact loop_14 FU 0 S_6 H locs ls hc_12 hG (lv_sub hl [0, 1] rfl)
  have loop_29 : ∀ (f : Nat) (v_4 : Int) (S_5 : St) (H : Heap) (locs : List Loc) (ls : Array Slot), mX3_study_33_14 f v_4 S_5 = some S_6 → gW D cy b n s H locs (enc b cy X S_5) → lv_has ls 2 [(1, .int (iI v_4)), (0, .ref (b + 33))] → W p l e (gRm 5 0 0) s m args below meth c H locs 0 0 (gQV D cy b s args below 0 0 (fun u => u = (n, enc b cy X o1))) (F0 m 14 ls []) := by
    clear hM
    intro f
    induction f with
    | zero => intro v_4 S_5 H locs ls hM; rw [mX3_study_33_14] at hM; cases hM
    | succ f_31 ih_30 =>
      intro v_4 S_5 H locs ls hM hG hl
      rw [mX3_study_33_14] at hM
      refine lv_iload_n hx hb dX3_study_14 rfl (lv_at hl 0 rfl) ?_
      obtain ⟨hg_32, hM⟩ := gd_some hM
      refine gi_if_lt (tgt := 29) hx hb dX3_study_15 (by decide) hg_32 (fun c_33 => ?_) (fun c_33 => ?_)
      · replace hM := ifp hM c_33
        cases hM
        exact hK_8 H locs ls hG (lv_sub hl [1] rfl)
      · replace hM := ifn hM c_33
        refine lv_aload_n hx hb dX3_study_18 rfl (lv_at hl 1 rfl) ?_
        refine lv_iload_n hx hb dX3_study_19 rfl (lv_at hl 0 rfl) ?_
        obtain ⟨S_35, hc_34, hM⟩ := bd1_some hM
        refine g_vv (As := [.int (iI v_4)]) (rest := []) S hG hsz (vX3_studyPart_33 l hn v_4 hc_34) wV_3_49 (ec_33 _) cpX3 (Nat.lt_of_lt_of_le (Nat.le_of_ble_eq_true rfl) hn) dX3_study_20 rfl hl.1 (ar := 1) (by decide +kernel) rfl ⟨Nat.le_of_ble_eq_true rfl, Nat.le_of_ble_eq_true rfl, Nat.le_of_ble_eq_true rfl, Nat.le_of_ble_eq_true rfl⟩ (Nat.le_of_ble_eq_true rfl) (fun uu H locs hp hG => ?_)
        obtain rfl := hp
        replace hG : gW D cy b n s H locs (enc b cy X S_35) := hG
        refine lv_iinc (v := iI (v_4 - 1)) (lv' := [(1, .int (iI (v_4 - 1))), (0, .ref (b + 33))]) hx hb dX3_study_23 hl (k := 0) rfl ((iI_add v_4 (-1)).trans (congrArg iI (by omega))) (by decide) rfl (fun ls hl => ?_)
        refine lv_goto (tgt := 14) hx hb dX3_study_26 (by decide) ?_
        exact ih_30 (v_4 - 1) S_35 H locs ls hM hG (lv_sub hl [0, 1] rfl)
  exact loop_29 FU x_3 S_2 H locs ls hc_7 hG (lv_sub hl [0, 1] rfl)
theorem wV_11_149 : gWV "GrownKinds" 149 yX0_take cX0_take 6 none := ⟨wm_982, wm_983, wm_984, wm_181, wm_985, by decide +kernel, by decide +kernel⟩
theorem wV_0_61 : gWV "GrownKinds$Census" 61 yX0_countTail cX0_countTail 12 none := ⟨wm_1077, wm_1079, wm_47, wm_181, wm_1080, by decide +kernel, by decide +kernel⟩
theorem wV_0_129 : gWV "GrownKinds$Census" 129 yX0_clearCells cX0_clearCells 5 none := ⟨wm_1016, wm_1018, wm_35, wm_181, wm_1019, by decide +kernel, by decide +kernel⟩
theorem wV_0_108 : gWV "GrownKinds$Census" 108 yX0_letterTop cX0_letterTop 2 (some .int) := ⟨wm_990, wm_992, wm_31, wm_181, wm_993, by decide +kernel, by decide +kernel⟩
def mX0_letterTop_40 (S0 : St) (a1 : Int) : Option (Int) := gd (inI (S0 40 1)) <| if (S0 40 1) < 0 then (some (0)) else (some (a1))
set_option maxHeartbeats 4000000 in
set_option maxRecDepth 100000 in
theorem vX0_letterTop_40 (l : Launch) {D : va_G} {cy : Nat → ClassId} {b n : Nat} (hn : 102 ≤ n) {X : Nat → va_E} {S0 : St} (a1 : Int) {o1 : Int} (hM : mX0_letterTop_40 S0 a1 = some o1) : gI l yX0_letterTop cX0_letterTop 2 (some .int) 0 0 0 D cy b n (enc b cy X S0) [.ref (b + 40), .int (iI a1)] (fun r u => r = iI o1 ∧ u = (n, enc b cy X S0)) := by
  refine gI_of (by decide) (Nat.le_of_ble_eq_true rfl) ?_
  intro p e s m args below meth c S hr hlk hin hsz ls hl hG
  have hx := S.1
  have hb := S.2.1
  have hl : lv_has ls 2 [(0, .ref (b + 40)), (1, .int (iI a1))] := hl
  replace hG : gW D cy b n s s.heap [] (enc b cy X S0) := hG
  obtain ⟨H, eH⟩ : ∃ H, H = s.heap := ⟨_, rfl⟩
  obtain ⟨locs, elocs⟩ : ∃ locs : List Loc, locs = [] := ⟨_, rfl⟩
  rw [← eH, ← elocs] at hG
  rw [← eH, ← elocs]
  clear eH elocs
  unfold mX0_letterTop_40 at hM
  refine lv_aload_n hx hb dX0_letterTop_0 rfl (lv_at hl 0 rfl) ?_
  refine m_get S hG 40 40 1 rfl ec_40 cpX0 wm_404 dX0_letterTop_1 rfl (Nat.lt_of_lt_of_le (Nat.le_of_ble_eq_true rfl) hn) (by decide) ?_
  obtain ⟨hg_1, hM⟩ := gd_some hM
  refine gi_if_lt (tgt := 11) hx hb dX0_letterTop_4 (by decide) hg_1 (fun c_2 => ?_) (fun c_2 => ?_)
  · replace hM := ifp hM c_2
    refine lv_iconst (v := iI 0) hx hb dX0_letterTop_11 (by decide) ?_
    cases hM
    exact g_iret S hr hlk hG hsz dX0_letterTop_12 ⟨Nat.le_of_ble_eq_true rfl, Nat.le_of_ble_eq_true rfl⟩ ⟨rfl, rfl⟩
  · replace hM := ifn hM c_2
    refine lv_iload_n hx hb dX0_letterTop_7 rfl (lv_at hl 1 rfl) ?_
    refine lv_goto (tgt := 12) hx hb dX0_letterTop_8 (by decide) ?_
    cases hM
    exact g_iret S hr hlk hG hsz dX0_letterTop_12 ⟨Nat.le_of_ble_eq_true rfl, Nat.le_of_ble_eq_true rfl⟩ ⟨rfl, rfl⟩
def mX0_clearCells_40_42_3 (a2 : Int) (a3 : Int) : Nat → Int → St → Option (St)
  | 0, _, _ => none
  | f + 1, v_1, S_2 => bd1 (mX0_letterTop_40 S_2 a3) fun r_10 => gd ((inI v_1) ∧ (inI r_10)) <| if r_10 < v_1 then (some (S_2)) else (gd (0 ≤ (a2 + v_1) ∧ (a2 + v_1) < 1536) <| nx (up S_2 42 (a2 + v_1) 0) fun S_14 => mX0_clearCells_40_42_3 a2 a3 f (v_1 + 1) S_14)
def mX0_clearCells_40_42 (S0 : St) (a2 : Int) (a3 : Int) : Option (St) := bd1 (mX0_clearCells_40_42_3 a2 a3 FU 0 S0) fun S_3 => some (S_3)
set_option maxHeartbeats 4000000 in
set_option maxRecDepth 100000 in
theorem vX0_clearCells_40_42 (l : Launch) {D : va_G} {cy : Nat → ClassId} {b n : Nat} (hn : 102 ≤ n) {X : Nat → va_E} {S0 : St} (a2 : Int) (a3 : Int) {o1 : St} (hM : mX0_clearCells_40_42 S0 a2 a3 = some o1) : gV l yX0_clearCells cX0_clearCells 5 1 0 0 D cy b n (enc b cy X S0) [.ref (b + 40), .ref (b + 42), .int (iI a2), .int (iI a3)] (fun u => u = (n, enc b cy X o1)) := by
  refine gV_of (by decide) (Nat.le_of_ble_eq_true rfl) ?_
  intro p e s m args below meth c S hr hlk hin hsz ls hl hG
  have hx := S.1
  have hb := S.2.1
  have hl : lv_has ls 5 [(0, .ref (b + 40)), (1, .ref (b + 42)), (2, .int (iI a2)), (3, .int (iI a3))] := hl
  replace hG : gW D cy b n s s.heap [] (enc b cy X S0) := hG
  obtain ⟨H, eH⟩ : ∃ H, H = s.heap := ⟨_, rfl⟩
  obtain ⟨locs, elocs⟩ : ∃ locs : List Loc, locs = [] := ⟨_, rfl⟩
  rw [← eH, ← elocs] at hG
  rw [← eH, ← elocs]
  clear eH elocs
  unfold mX0_clearCells_40_42 at hM
  refine lv_iconst (v := iI 0) hx hb dX0_clearCells_0 (by decide) ?_
  refine lv_istore (lv' := [(4, .int (iI 0)), (0, .ref (b + 40)), (1, .ref (b + 42)), (2, .int (iI a2)), (3, .int (iI a3))]) hx hb dX0_clearCells_1 hl (by decide) rfl (fun ls hl => ?_)
  obtain ⟨S_3, hc_4, hM⟩ := bd1_some hM
  have hK_5 : ∀ (H : Heap) (locs : List Loc) (ls : Array Slot), gW D cy b n s H locs (enc b cy X S_3) → lv_has ls 5 [] → W p l e (gRm 1 0 0) s m args below meth c H locs 0 0 (gQV D cy b s args below 0 0 (fun u => u = (n, enc b cy X o1))) (F0 m 26 ls []) := by
    intro H locs ls hG hl
    cases hM
    exact g_vret S hr hlk hG hsz dX0_clearCells_26 ⟨Nat.le_of_ble_eq_true rfl, Nat.le_of_ble_eq_true rfl⟩ rfl
  have loop_6 : ∀ (f : Nat) (v_1 : Int) (S_2 : St) (H : Heap) (locs : List Loc) (ls : Array Slot), mX0_clearCells_40_42_3 a2 a3 f v_1 S_2 = some S_3 → gW D cy b n s H locs (enc b cy X S_2) → lv_has ls 5 [(4, .int (iI v_1)), (0, .ref (b + 40)), (1, .ref (b + 42)), (2, .int (iI a2)), (3, .int (iI a3))] → W p l e (gRm 1 0 0) s m args below meth c H locs 0 0 (gQV D cy b s args below 0 0 (fun u => u = (n, enc b cy X o1))) (F0 m 3 ls []) := by
    clear hM
    intro f
    induction f with
    | zero => intro v_1 S_2 H locs ls hM; rw [mX0_clearCells_40_42_3] at hM; cases hM
    | succ f_8 ih_7 =>
      intro v_1 S_2 H locs ls hM hG hl
      rw [mX0_clearCells_40_42_3] at hM
      refine lv_iload hx hb dX0_clearCells_3 (lv_at hl 0 rfl) ?_
      refine lv_aload_n hx hb dX0_clearCells_5 rfl (lv_at hl 1 rfl) ?_
      refine lv_iload_n hx hb dX0_clearCells_6 rfl (lv_at hl 4 rfl) ?_
      obtain ⟨r_10, hc_9, hM⟩ := bd1_some hM
      refine g_vi (As := [.int (iI a3)]) (rest := [.int (iI v_1)]) S hG hsz (vX0_letterTop_40 l hn a3 hc_9) wV_0_108 (ec_40 _) cpX0 (Nat.lt_of_lt_of_le (Nat.le_of_ble_eq_true rfl) hn) dX0_clearCells_7 rfl hl.1 (ar := 1) (by decide +kernel) rfl ⟨Nat.le_of_ble_eq_true rfl, Nat.le_of_ble_eq_true rfl, Nat.le_of_ble_eq_true rfl, Nat.le_of_ble_eq_true rfl⟩ (Nat.le_of_ble_eq_true rfl) (fun rv uu H locs hp hG => ?_)
      obtain ⟨rfl, rfl⟩ := hp
      replace hG : gW D cy b n s H locs (enc b cy X S_2) := hG
      obtain ⟨hg_11, hM⟩ := gd_some hM
      refine gi_icmp_gt (tgt := 26) hx hb dX0_clearCells_10 (by decide) hg_11.1 hg_11.2 (fun c_12 => ?_) (fun c_12 => ?_)
      · replace hM := ifp hM c_12
        cases hM
        exact hK_5 H locs ls hG (lv_sub hl [] rfl)
      · replace hM := ifn hM c_12
        refine lv_aload_n hx hb dX0_clearCells_13 rfl (lv_at hl 2 rfl) ?_
        refine lv_iload_n hx hb dX0_clearCells_14 rfl (lv_at hl 3 rfl) ?_
        refine lv_iload hx hb dX0_clearCells_15 (lv_at hl 0 rfl) ?_
        refine gi_add hx hb dX0_clearCells_17 ?_
        refine lv_lconst (v := jJ 0) hx hb dX0_clearCells_18 (by decide) ?_
        obtain ⟨hg_13, hM⟩ := gd_some hM
        refine mj_ast S hG 42 42 rfl ec_42 (Nat.lt_of_lt_of_le (Nat.le_of_ble_eq_true rfl) hn) dX0_clearCells_19 hg_13 (by decide) (fun H locs S_14 eS_14 hG => ?_)
        replace hM := nx_at hM eS_14
        clear eS_14
        refine lv_iinc (v := iI (v_1 + 1)) (lv' := [(4, .int (iI (v_1 + 1))), (0, .ref (b + 40)), (1, .ref (b + 42)), (2, .int (iI a2)), (3, .int (iI a3))]) hx hb dX0_clearCells_20 hl (k := 0) rfl ((iI_add v_1 (1)).trans (congrArg iI (by omega))) (by decide) rfl (fun ls hl => ?_)
        refine lv_goto (tgt := 3) hx hb dX0_clearCells_23 (by decide) ?_
        exact ih_7 (v_1 + 1) S_14 H locs ls hM hG (lv_sub hl [0, 1, 2, 3, 4] rfl)
  exact loop_6 FU 0 S0 H locs ls hc_4 hG (lv_sub hl [0, 1, 2, 3, 4] rfl)
theorem wV_0_139 : gWV "GrownKinds$Census" 139 yX0_weight cX0_weight 3 (some .long) := ⟨wm_1059, wm_1061, wm_44, wm_181, wm_1062, by decide +kernel, by decide +kernel⟩
def mX0_weight_40 (S0 : St) (a1 : Int) (a2 : Int) : Option (Int) := gd (inI (S0 40 1)) <| if (S0 40 1) = (-2) then (gd (0 ≤ ((a1 * 8) + a2) ∧ ((a1 * 8) + a2) < 64) <| gd (inI (sby lCHOOSE ((a1 * 8) + a2))) <| some ((sby lCHOOSE ((a1 * 8) + a2)))) else (some (1))
set_option maxHeartbeats 4000000 in
set_option maxRecDepth 100000 in
theorem vX0_weight_40 (l : Launch) {D : va_G} {cy : Nat → ClassId} {b n : Nat} (hn : 102 ≤ n) {X : Nat → va_E} {S0 : St} (a1 : Int) (a2 : Int) {o1 : Int} (hM : mX0_weight_40 S0 a1 a2 = some o1) : gL l yX0_weight cX0_weight 3 0 0 0 D cy b n (enc b cy X S0) [.ref (b + 40), .int (iI a1), .int (iI a2)] (fun r u => r = jJ o1 ∧ u = (n, enc b cy X S0)) := by
  refine gL_of (by decide) (Nat.le_of_ble_eq_true rfl) ?_
  intro p e s m args below meth c S hr hlk hin hsz ls hl hG
  have hx := S.1
  have hb := S.2.1
  have hl : lv_has ls 3 [(0, .ref (b + 40)), (1, .int (iI a1)), (2, .int (iI a2))] := hl
  replace hG : gW D cy b n s s.heap [] (enc b cy X S0) := hG
  obtain ⟨H, eH⟩ : ∃ H, H = s.heap := ⟨_, rfl⟩
  obtain ⟨locs, elocs⟩ : ∃ locs : List Loc, locs = [] := ⟨_, rfl⟩
  rw [← eH, ← elocs] at hG
  rw [← eH, ← elocs]
  clear eH elocs
  unfold mX0_weight_40 at hM
  refine lv_aload_n hx hb dX0_weight_0 rfl (lv_at hl 0 rfl) ?_
  refine m_get S hG 40 40 1 rfl ec_40 cpX0 wm_404 dX0_weight_1 rfl (Nat.lt_of_lt_of_le (Nat.le_of_ble_eq_true rfl) hn) (by decide) ?_
  refine lv_bipush (v := iI (-2)) hx hb dX0_weight_4 (by decide) ?_
  obtain ⟨hg_1, hM⟩ := gd_some hM
  refine gi_icmp_ne (tgt := 23) hx hb dX0_weight_6 (by decide) hg_1 (by decide) (fun c_2 => ?_) (fun c_2 => ?_)
  · replace hM := ifn hM c_2
    refine lv_lconst (v := jJ 1) hx hb dX0_weight_23 (by decide) ?_
    cases hM
    exact g_lret S hr hlk hG hsz dX0_weight_24 ⟨Nat.le_of_ble_eq_true rfl, Nat.le_of_ble_eq_true rfl⟩ ⟨rfl, rfl⟩
  · replace hM := ifp hM c_2
    refine g_gsaN (host := "GrownKinds") S hG gsa0 (by decide +kernel) dX0_weight_9 ?_
    refine lv_iload_n hx hb dX0_weight_12 rfl (lv_at hl 1 rfl) ?_
    refine lv_bipush (v := iI 8) hx hb dX0_weight_13 (by decide) ?_
    refine gi_mul hx hb dX0_weight_15 ?_
    refine lv_iload_n hx hb dX0_weight_16 rfl (lv_at hl 2 rfl) ?_
    refine gi_add hx hb dX0_weight_17 ?_
    obtain ⟨hg_3, hM⟩ := gd_some hM
    refine g_sald S hG gsa0 dX0_weight_18 hg_3 (by decide) ?_
    obtain ⟨hg_4, hM⟩ := gd_some hM
    refine gi_i2l hx hb dX0_weight_19 hg_4 ?_
    refine lv_goto (tgt := 24) hx hb dX0_weight_20 (by decide) ?_
    cases hM
    exact g_lret S hr hlk hG hsz dX0_weight_24 ⟨Nat.le_of_ble_eq_true rfl, Nat.le_of_ble_eq_true rfl⟩ ⟨rfl, rfl⟩
def mX11_times (a1 : Int) (a2 : Int) : Option (Int) := gd (inL a1) <| if a1 ≤ 0 then (some (0)) else (gd (inL a2) <| if 0 < a2 then (gd (0 < a2 ∧ a2 ≤ 9223372036854775807) <| gd (inL (1000000000000000000 / a2)) <| if a1 ≤ (1000000000000000000 / a2) then (some ((a1 * a2))) else (some (1000000000000000000))) else (some (0)))
set_option maxHeartbeats 4000000 in
set_option maxRecDepth 100000 in
theorem vX11_times (l : Launch) {D : va_G} {cy : Nat → ClassId} {b n : Nat} (hn : 102 ≤ n) {X : Nat → va_E} {S0 : St} (a1 : Int) (a2 : Int) {o1 : Int} (hM : mX11_times a1 a2 = some o1) : gL l yX11_times cX11_times 4 0 0 0 D cy b n (enc b cy X S0) [.long (jJ a1), .long (jJ a2)] (fun r u => r = jJ o1 ∧ u = (n, enc b cy X S0)) := by
  refine gL_of (by decide) (Nat.le_of_ble_eq_true rfl) ?_
  intro p e s m args below meth c S hr hlk hin hsz ls hl hG
  have hx := S.1
  have hb := S.2.1
  have hl : lv_has ls 4 [(0, .long (jJ a1)), (2, .long (jJ a2))] := hl
  replace hG : gW D cy b n s s.heap [] (enc b cy X S0) := hG
  obtain ⟨H, eH⟩ : ∃ H, H = s.heap := ⟨_, rfl⟩
  obtain ⟨locs, elocs⟩ : ∃ locs : List Loc, locs = [] := ⟨_, rfl⟩
  rw [← eH, ← elocs] at hG
  rw [← eH, ← elocs]
  clear eH elocs
  unfold mX11_times at hM
  refine lv_lload_n hx hb dX11_times_0 rfl (lv_at hl 0 rfl) ?_
  refine lv_lconst (v := jJ 0) hx hb dX11_times_1 (by decide) ?_
  obtain ⟨hg_1, hM⟩ := gd_some hM
  refine gj_cmp_le (tgt := 12) hx hb dX11_times_2 dX11_times_3 (by decide) hg_1 (by decide) (fun c_2 => ?_) (fun c_2 => ?_)
  · replace hM := ifp hM c_2
    refine lv_lconst (v := jJ 0) hx hb dX11_times_12 (by decide) ?_
    cases hM
    exact g_lret S hr hlk hG hsz dX11_times_13 ⟨Nat.le_of_ble_eq_true rfl, Nat.le_of_ble_eq_true rfl⟩ ⟨rfl, rfl⟩
  · replace hM := ifn hM c_2
    refine lv_lload_n hx hb dX11_times_6 rfl (lv_at hl 1 rfl) ?_
    refine lv_lconst (v := jJ 0) hx hb dX11_times_7 (by decide) ?_
    obtain ⟨hg_3, hM⟩ := gd_some hM
    refine gj_cmp_gt (tgt := 14) hx hb dX11_times_8 dX11_times_9 (by decide) hg_3 (by decide) (fun c_4 => ?_) (fun c_4 => ?_)
    · replace hM := ifp hM c_4
      refine lv_lload_n hx hb dX11_times_14 rfl (lv_at hl 0 rfl) ?_
      refine lv_ldc2 (v := 1000000000000000000) hx hb S.2.2.2.1 (S.2.2.2.2 _ wm_999) dX11_times_15 ?_
      refine gj_as 1000000000000000000 (by decide) ?_
      refine lv_lload_n hx hb dX11_times_18 rfl (lv_at hl 1 rfl) ?_
      obtain ⟨hg_5, hM⟩ := gd_some hM
      refine gj_div hx hb dX11_times_19 (by decide) hg_5 ?_
      obtain ⟨hg_6, hM⟩ := gd_some hM
      refine gj_cmp_le (tgt := 30) hx hb dX11_times_20 dX11_times_21 (by decide) hg_1 hg_6 (fun c_7 => ?_) (fun c_7 => ?_)
      · replace hM := ifp hM c_7
        refine lv_lload_n hx hb dX11_times_30 rfl (lv_at hl 0 rfl) ?_
        refine lv_lload_n hx hb dX11_times_31 rfl (lv_at hl 1 rfl) ?_
        refine gj_mul hx hb dX11_times_32 ?_
        cases hM
        exact g_lret S hr hlk hG hsz dX11_times_33 ⟨Nat.le_of_ble_eq_true rfl, Nat.le_of_ble_eq_true rfl⟩ ⟨rfl, rfl⟩
      · replace hM := ifn hM c_7
        refine lv_ldc2 (v := 1000000000000000000) hx hb S.2.2.2.1 (S.2.2.2.2 _ wm_999) dX11_times_24 ?_
        refine gj_as 1000000000000000000 (by decide) ?_
        refine lv_goto (tgt := 33) hx hb dX11_times_27 (by decide) ?_
        cases hM
        exact g_lret S hr hlk hG hsz dX11_times_33 ⟨Nat.le_of_ble_eq_true rfl, Nat.le_of_ble_eq_true rfl⟩ ⟨rfl, rfl⟩
    · replace hM := ifn hM c_4
      refine lv_lconst (v := jJ 0) hx hb dX11_times_12 (by decide) ?_
      cases hM
      exact g_lret S hr hlk hG hsz dX11_times_13 ⟨Nat.le_of_ble_eq_true rfl, Nat.le_of_ble_eq_true rfl⟩ ⟨rfl, rfl⟩
def mX11_plus (a1 : Int) (a2 : Int) : Option (Int) := nx (a1 + a2) fun x_1 => gd (inL x_1) <| if x_1 ≤ 1000000000000000000 then (some (x_1)) else (some (1000000000000000000))
set_option maxHeartbeats 4000000 in
set_option maxRecDepth 100000 in
theorem vX11_plus (l : Launch) {D : va_G} {cy : Nat → ClassId} {b n : Nat} (hn : 102 ≤ n) {X : Nat → va_E} {S0 : St} (a1 : Int) (a2 : Int) {o1 : Int} (hM : mX11_plus a1 a2 = some o1) : gL l yX11_plus cX11_plus 6 0 0 0 D cy b n (enc b cy X S0) [.long (jJ a1), .long (jJ a2)] (fun r u => r = jJ o1 ∧ u = (n, enc b cy X S0)) := by
  refine gL_of (by decide) (Nat.le_of_ble_eq_true rfl) ?_
  intro p e s m args below meth c S hr hlk hin hsz ls hl hG
  have hx := S.1
  have hb := S.2.1
  have hl : lv_has ls 6 [(0, .long (jJ a1)), (2, .long (jJ a2))] := hl
  replace hG : gW D cy b n s s.heap [] (enc b cy X S0) := hG
  obtain ⟨H, eH⟩ : ∃ H, H = s.heap := ⟨_, rfl⟩
  obtain ⟨locs, elocs⟩ : ∃ locs : List Loc, locs = [] := ⟨_, rfl⟩
  rw [← eH, ← elocs] at hG
  rw [← eH, ← elocs]
  clear eH elocs
  unfold mX11_plus at hM
  refine lv_lload_n hx hb dX11_plus_0 rfl (lv_at hl 0 rfl) ?_
  refine lv_lload_n hx hb dX11_plus_1 rfl (lv_at hl 1 rfl) ?_
  refine gj_add hx hb dX11_plus_2 ?_
  refine gj_nm (fun x_1 ex_1 => ?_)
  replace hM := nx_at hM ex_1
  clear ex_1
  refine lv_lstore (lv' := [(4, .long (jJ x_1)), (0, .long (jJ a1)), (2, .long (jJ a2))]) hx hb dX11_plus_3 hl (by decide) rfl (fun ls hl => ?_)
  refine lv_lload hx hb dX11_plus_5 (lv_at hl 0 rfl) ?_
  refine lv_ldc2 (v := 1000000000000000000) hx hb S.2.2.2.1 (S.2.2.2.2 _ wm_999) dX11_plus_7 ?_
  refine gj_as 1000000000000000000 (by decide) ?_
  obtain ⟨hg_2, hM⟩ := gd_some hM
  refine gj_cmp_le (tgt := 20) hx hb dX11_plus_10 dX11_plus_11 (by decide) hg_2 (by decide) (fun c_3 => ?_) (fun c_3 => ?_)
  · replace hM := ifp hM c_3
    refine lv_lload hx hb dX11_plus_20 (lv_at hl 0 rfl) ?_
    cases hM
    exact g_lret S hr hlk hG hsz dX11_plus_22 ⟨Nat.le_of_ble_eq_true rfl, Nat.le_of_ble_eq_true rfl⟩ ⟨rfl, rfl⟩
  · replace hM := ifn hM c_3
    refine lv_ldc2 (v := 1000000000000000000) hx hb S.2.2.2.1 (S.2.2.2.2 _ wm_999) dX11_plus_14 ?_
    refine gj_as 1000000000000000000 (by decide) ?_
    refine lv_goto (tgt := 22) hx hb dX11_plus_17 (by decide) ?_
    cases hM
    exact g_lret S hr hlk hG hsz dX11_plus_22 ⟨Nat.le_of_ble_eq_true rfl, Nat.le_of_ble_eq_true rfl⟩ ⟨rfl, rfl⟩
theorem wV_0_118 : gWV "GrownKinds$Census" 118 yX0_copyCells cX0_copyCells 7 none := ⟨wm_1004, wm_1006, wm_33, wm_181, wm_1007, by decide +kernel, by decide +kernel⟩
def mX0_copyCells_40_41_42_3 (a2 : Int) (a4 : Int) (a5 : Int) : Nat → Int → St → Option (St)
  | 0, _, _ => none
  | f + 1, v_1, S_2 => bd1 (mX0_letterTop_40 S_2 a5) fun r_10 => gd ((inI v_1) ∧ (inI r_10)) <| if r_10 < v_1 then (some (S_2)) else (gd (0 ≤ (a2 + v_1) ∧ (a2 + v_1) < 1536) <| gd (0 ≤ (a4 + v_1) ∧ (a4 + v_1) < 1536) <| nx (up S_2 42 (a4 + v_1) (S_2 41 (a2 + v_1))) fun S_15 => mX0_copyCells_40_41_42_3 a2 a4 a5 f (v_1 + 1) S_15)
def mX0_copyCells_40_41_42 (S0 : St) (a2 : Int) (a4 : Int) (a5 : Int) : Option (St) := bd1 (mX0_copyCells_40_41_42_3 a2 a4 a5 FU 0 S0) fun S_3 => some (S_3)
set_option maxHeartbeats 4000000 in
set_option maxRecDepth 100000 in
theorem vX0_copyCells_40_41_42 (l : Launch) {D : va_G} {cy : Nat → ClassId} {b n : Nat} (hn : 102 ≤ n) {X : Nat → va_E} {S0 : St} (a2 : Int) (a4 : Int) (a5 : Int) {o1 : St} (hM : mX0_copyCells_40_41_42 S0 a2 a4 a5 = some o1) : gV l yX0_copyCells cX0_copyCells 7 1 0 0 D cy b n (enc b cy X S0) [.ref (b + 40), .ref (b + 41), .int (iI a2), .ref (b + 42), .int (iI a4), .int (iI a5)] (fun u => u = (n, enc b cy X o1)) := by
  refine gV_of (by decide) (Nat.le_of_ble_eq_true rfl) ?_
  intro p e s m args below meth c S hr hlk hin hsz ls hl hG
  have hx := S.1
  have hb := S.2.1
  have hl : lv_has ls 7 [(0, .ref (b + 40)), (1, .ref (b + 41)), (2, .int (iI a2)), (3, .ref (b + 42)), (4, .int (iI a4)), (5, .int (iI a5))] := hl
  replace hG : gW D cy b n s s.heap [] (enc b cy X S0) := hG
  obtain ⟨H, eH⟩ : ∃ H, H = s.heap := ⟨_, rfl⟩
  obtain ⟨locs, elocs⟩ : ∃ locs : List Loc, locs = [] := ⟨_, rfl⟩
  rw [← eH, ← elocs] at hG
  rw [← eH, ← elocs]
  clear eH elocs
  unfold mX0_copyCells_40_41_42 at hM
  refine lv_iconst (v := iI 0) hx hb dX0_copyCells_0 (by decide) ?_
  refine lv_istore (lv' := [(6, .int (iI 0)), (0, .ref (b + 40)), (1, .ref (b + 41)), (2, .int (iI a2)), (3, .ref (b + 42)), (4, .int (iI a4)), (5, .int (iI a5))]) hx hb dX0_copyCells_1 hl (by decide) rfl (fun ls hl => ?_)
  obtain ⟨S_3, hc_4, hM⟩ := bd1_some hM
  have hK_5 : ∀ (H : Heap) (locs : List Loc) (ls : Array Slot), gW D cy b n s H locs (enc b cy X S_3) → lv_has ls 7 [] → W p l e (gRm 1 0 0) s m args below meth c H locs 0 0 (gQV D cy b s args below 0 0 (fun u => u = (n, enc b cy X o1))) (F0 m 33 ls []) := by
    intro H locs ls hG hl
    cases hM
    exact g_vret S hr hlk hG hsz dX0_copyCells_33 ⟨Nat.le_of_ble_eq_true rfl, Nat.le_of_ble_eq_true rfl⟩ rfl
  have loop_6 : ∀ (f : Nat) (v_1 : Int) (S_2 : St) (H : Heap) (locs : List Loc) (ls : Array Slot), mX0_copyCells_40_41_42_3 a2 a4 a5 f v_1 S_2 = some S_3 → gW D cy b n s H locs (enc b cy X S_2) → lv_has ls 7 [(6, .int (iI v_1)), (0, .ref (b + 40)), (1, .ref (b + 41)), (2, .int (iI a2)), (3, .ref (b + 42)), (4, .int (iI a4)), (5, .int (iI a5))] → W p l e (gRm 1 0 0) s m args below meth c H locs 0 0 (gQV D cy b s args below 0 0 (fun u => u = (n, enc b cy X o1))) (F0 m 3 ls []) := by
    clear hM
    intro f
    induction f with
    | zero => intro v_1 S_2 H locs ls hM; rw [mX0_copyCells_40_41_42_3] at hM; cases hM
    | succ f_8 ih_7 =>
      intro v_1 S_2 H locs ls hM hG hl
      rw [mX0_copyCells_40_41_42_3] at hM
      refine lv_iload hx hb dX0_copyCells_3 (lv_at hl 0 rfl) ?_
      refine lv_aload_n hx hb dX0_copyCells_5 rfl (lv_at hl 1 rfl) ?_
      refine lv_iload hx hb dX0_copyCells_6 (lv_at hl 6 rfl) ?_
      obtain ⟨r_10, hc_9, hM⟩ := bd1_some hM
      refine g_vi (As := [.int (iI a5)]) (rest := [.int (iI v_1)]) S hG hsz (vX0_letterTop_40 l hn a5 hc_9) wV_0_108 (ec_40 _) cpX0 (Nat.lt_of_lt_of_le (Nat.le_of_ble_eq_true rfl) hn) dX0_copyCells_8 rfl hl.1 (ar := 1) (by decide +kernel) rfl ⟨Nat.le_of_ble_eq_true rfl, Nat.le_of_ble_eq_true rfl, Nat.le_of_ble_eq_true rfl, Nat.le_of_ble_eq_true rfl⟩ (Nat.le_of_ble_eq_true rfl) (fun rv uu H locs hp hG => ?_)
      obtain ⟨rfl, rfl⟩ := hp
      replace hG : gW D cy b n s H locs (enc b cy X S_2) := hG
      obtain ⟨hg_11, hM⟩ := gd_some hM
      refine gi_icmp_gt (tgt := 33) hx hb dX0_copyCells_11 (by decide) hg_11.1 hg_11.2 (fun c_12 => ?_) (fun c_12 => ?_)
      · replace hM := ifp hM c_12
        cases hM
        exact hK_5 H locs ls hG (lv_sub hl [] rfl)
      · replace hM := ifn hM c_12
        refine lv_aload_n hx hb dX0_copyCells_14 rfl (lv_at hl 4 rfl) ?_
        refine lv_iload hx hb dX0_copyCells_15 (lv_at hl 5 rfl) ?_
        refine lv_iload hx hb dX0_copyCells_17 (lv_at hl 0 rfl) ?_
        refine gi_add hx hb dX0_copyCells_19 ?_
        refine lv_aload_n hx hb dX0_copyCells_20 rfl (lv_at hl 2 rfl) ?_
        refine lv_iload_n hx hb dX0_copyCells_21 rfl (lv_at hl 3 rfl) ?_
        refine lv_iload hx hb dX0_copyCells_22 (lv_at hl 0 rfl) ?_
        refine gi_add hx hb dX0_copyCells_24 ?_
        obtain ⟨hg_13, hM⟩ := gd_some hM
        refine mj_ald S hG 41 41 rfl ec_41 (Nat.lt_of_lt_of_le (Nat.le_of_ble_eq_true rfl) hn) dX0_copyCells_25 hg_13 (by decide) ?_
        obtain ⟨hg_14, hM⟩ := gd_some hM
        refine mj_ast S hG 42 42 rfl ec_42 (Nat.lt_of_lt_of_le (Nat.le_of_ble_eq_true rfl) hn) dX0_copyCells_26 hg_14 (by decide) (fun H locs S_15 eS_15 hG => ?_)
        replace hM := nx_at hM eS_15
        clear eS_15
        refine lv_iinc (v := iI (v_1 + 1)) (lv' := [(6, .int (iI (v_1 + 1))), (0, .ref (b + 40)), (1, .ref (b + 41)), (2, .int (iI a2)), (3, .ref (b + 42)), (4, .int (iI a4)), (5, .int (iI a5))]) hx hb dX0_copyCells_27 hl (k := 0) rfl ((iI_add v_1 (1)).trans (congrArg iI (by omega))) (by decide) rfl (fun ls hl => ?_)
        refine lv_goto (tgt := 3) hx hb dX0_copyCells_30 (by decide) ?_
        exact ih_7 (v_1 + 1) S_15 H locs ls hM hG (lv_sub hl [0, 1, 2, 3, 4, 5, 6] rfl)
  exact loop_6 FU 0 S0 H locs ls hc_4 hG (lv_sub hl [0, 1, 2, 3, 4, 5, 6] rfl)
def mX0_countTail_40_109 (r_34 : Int) (v_18 : Int) (v_8 : Int) (x_3 : Int) (x_1 : Int) (a1 : Int) (a2 : Int) : Nat → Int → St → Option (St)
  | 0, _, _ => none
  | f + 1, v_35, S_36 => gd (inL r_34) <| if r_34 ≤ 0 then (some (S_36)) else (bd1 (mX0_letterTop_40 S_36 (a2 - v_8)) fun r_46 => gd ((inI v_35) ∧ (inI r_46)) <| if r_46 < v_35 then (some (S_36)) else (gd (0 ≤ (((x_3 * 64) + ((a2 - v_8) * 8)) + v_35) ∧ (((x_3 * 64) + ((a2 - v_8) * 8)) + v_35) < 1536) <| nx (S_36 42 (((x_3 * 64) + ((a2 - v_8) * 8)) + v_35)) fun x_50 => gd (0 ≤ ((x_1 + v_18) + v_35) ∧ ((x_1 + v_18) + v_35) < 1536) <| bd1 (mX11_times r_34 x_50) fun r_53 => bd1 (mX11_plus (S_36 42 ((x_1 + v_18) + v_35)) r_53) fun r_55 => nx (up S_36 42 ((x_1 + v_18) + v_35) r_55) fun S_56 => mX0_countTail_40_109 r_34 v_18 v_8 x_3 x_1 a1 a2 f (v_35 + 1) S_56))
def mX0_countTail_40_65 (v_8 : Int) (x_3 : Int) (x_1 : Int) (a1 : Int) (a2 : Int) : Nat → Int → St → Option (St)
  | 0, _, _ => none
  | f + 1, v_18, S_19 => bd1 (mX0_letterTop_40 S_19 v_8) fun r_27 => gd ((inI v_18) ∧ (inI r_27)) <| if r_27 < v_18 then (some (S_19)) else (gd (0 ≤ (((a1 * 64) + (v_8 * 8)) + v_18) ∧ (((a1 * 64) + (v_8 * 8)) + v_18) < 1536) <| bd1 (mX0_weight_40 S_19 a2 v_8) fun r_32 => bd1 (mX11_times (S_19 41 (((a1 * 64) + (v_8 * 8)) + v_18)) r_32) fun r_34 => bd1 (mX0_countTail_40_109 r_34 v_18 v_8 x_3 x_1 a1 a2 FU 0 S_19) fun S_37 => mX0_countTail_40_65 v_8 x_3 x_1 a1 a2 f (v_18 + 1) S_37)
def mX0_countTail_40_56 (x_3 : Int) (x_1 : Int) (a1 : Int) (a2 : Int) : Nat → Int → St → Option (St)
  | 0, _, _ => none
  | f + 1, v_8, S_9 => gd ((inI v_8) ∧ (inI a2)) <| if a2 < v_8 then (some (S_9)) else (bd1 (mX0_countTail_40_65 v_8 x_3 x_1 a1 a2 FU 0 S_9) fun S_20 => mX0_countTail_40_56 x_3 x_1 a1 a2 f (v_8 + 1) S_20)
def mX0_countTail_40 (S0 : St) (a1 : Int) (a2 : Int) : Option (St) := nx ((a1 * 64) + (a2 * 8)) fun x_1 => gd (0 ≤ a1 ∧ a1 < 24) <| nx (S0 6 a1) fun x_3 => gd (inI x_3) <| if x_3 = (-1) then (bd1 (mX0_copyCells_40_41_42 S0 x_1 x_1 a2) fun S_58 => some (S_58)) else (bd1 (mX0_clearCells_40_42 S0 x_1 a2) fun S_7 => bd1 (mX0_countTail_40_56 x_3 x_1 a1 a2 FU 0 S_7) fun S_10 => some (S_10))
set_option maxHeartbeats 4000000 in
set_option maxRecDepth 100000 in
theorem vX0_countTail_40 (l : Launch) {D : va_G} {cy : Nat → ClassId} {b n : Nat} (hn : 102 ≤ n) {X : Nat → va_E} {S0 : St} (a1 : Int) (a2 : Int) {o1 : St} (hM : mX0_countTail_40 S0 a1 a2 = some o1) : gV l yX0_countTail cX0_countTail 12 2 0 0 D cy b n (enc b cy X S0) [.ref (b + 40), .int (iI a1), .int (iI a2)] (fun u => u = (n, enc b cy X o1)) := by
  refine gV_of (by decide) (Nat.le_of_ble_eq_true rfl) ?_
  intro p e s m args below meth c S hr hlk hin hsz ls hl hG
  have hx := S.1
  have hb := S.2.1
  have hl : lv_has ls 12 [(0, .ref (b + 40)), (1, .int (iI a1)), (2, .int (iI a2))] := hl
  replace hG : gW D cy b n s s.heap [] (enc b cy X S0) := hG
  obtain ⟨H, eH⟩ : ∃ H, H = s.heap := ⟨_, rfl⟩
  obtain ⟨locs, elocs⟩ : ∃ locs : List Loc, locs = [] := ⟨_, rfl⟩
  rw [← eH, ← elocs] at hG
  rw [← eH, ← elocs]
  clear eH elocs
  unfold mX0_countTail_40 at hM
  refine lv_iload_n hx hb dX0_countTail_0 rfl (lv_at hl 1 rfl) ?_
  refine lv_bipush (v := iI 64) hx hb dX0_countTail_1 (by decide) ?_
  refine gi_mul hx hb dX0_countTail_3 ?_
  refine lv_iload_n hx hb dX0_countTail_4 rfl (lv_at hl 2 rfl) ?_
  refine lv_bipush (v := iI 8) hx hb dX0_countTail_5 (by decide) ?_
  refine gi_mul hx hb dX0_countTail_7 ?_
  refine gi_add hx hb dX0_countTail_8 ?_
  refine gi_nm (fun x_1 ex_1 => ?_)
  replace hM := nx_at hM ex_1
  clear ex_1
  refine lv_istore_n (lv' := [(3, .int (iI x_1)), (0, .ref (b + 40)), (1, .int (iI a1)), (2, .int (iI a2))]) hx hb dX0_countTail_9 rfl hl (by decide) rfl (fun ls hl => ?_)
  refine lv_aload_n hx hb dX0_countTail_10 rfl (lv_at hl 1 rfl) ?_
  refine m_get S hG 40 40 0 rfl ec_40 cpX0 wm_403 dX0_countTail_11 rfl (Nat.lt_of_lt_of_le (Nat.le_of_ble_eq_true rfl) hn) (by decide) ?_
  refine m_get S hG 2 2 8 rfl ec_2 cpX2 wm_259 dX0_countTail_14 rfl (Nat.lt_of_lt_of_le (Nat.le_of_ble_eq_true rfl) hn) (by decide) ?_
  refine lv_iload_n hx hb dX0_countTail_17 rfl (lv_at hl 2 rfl) ?_
  obtain ⟨hg_2, hM⟩ := gd_some hM
  refine mi_ald S hG 6 6 rfl ec_6 (Nat.lt_of_lt_of_le (Nat.le_of_ble_eq_true rfl) hn) dX0_countTail_18 hg_2 (by decide) ?_
  refine gi_nm (fun x_3 ex_3 => ?_)
  replace hM := nx_at hM ex_3
  clear ex_3
  refine lv_istore (lv' := [(4, .int (iI x_3)), (3, .int (iI x_1)), (0, .ref (b + 40)), (1, .int (iI a1)), (2, .int (iI a2))]) hx hb dX0_countTail_19 hl (by decide) rfl (fun ls hl => ?_)
  refine lv_iload hx hb dX0_countTail_21 (lv_at hl 0 rfl) ?_
  refine lv_iconst (v := iI (-1)) hx hb dX0_countTail_23 (by decide) ?_
  obtain ⟨hg_4, hM⟩ := gd_some hM
  refine gi_icmp_ne (tgt := 43) hx hb dX0_countTail_24 (by decide) hg_4 (by decide) (fun c_5 => ?_) (fun c_5 => ?_)
  · replace hM := ifn hM c_5
    refine lv_aload_n hx hb dX0_countTail_43 rfl (lv_at hl 2 rfl) ?_
    refine lv_aload_n hx hb dX0_countTail_44 rfl (lv_at hl 2 rfl) ?_
    refine m_get S hG 40 40 3 rfl ec_40 cpX0 wm_406 dX0_countTail_45 rfl (Nat.lt_of_lt_of_le (Nat.le_of_ble_eq_true rfl) hn) (by decide) ?_
    refine lv_iload_n hx hb dX0_countTail_48 rfl (lv_at hl 1 rfl) ?_
    refine lv_iload_n hx hb dX0_countTail_49 rfl (lv_at hl 4 rfl) ?_
    obtain ⟨S_7, hc_6, hM⟩ := bd1_some hM
    refine g_vv (As := [.ref (b + 42), .int (iI x_1), .int (iI a2)]) (rest := []) S hG hsz (vX0_clearCells_40_42 l hn x_1 a2 hc_6) wV_0_129 (ec_40 _) cpX0 (Nat.lt_of_lt_of_le (Nat.le_of_ble_eq_true rfl) hn) dX0_countTail_50 rfl hl.1 (ar := 3) (by decide +kernel) rfl ⟨Nat.le_of_ble_eq_true rfl, Nat.le_of_ble_eq_true rfl, Nat.le_of_ble_eq_true rfl, Nat.le_of_ble_eq_true rfl⟩ (Nat.le_of_ble_eq_true rfl) (fun uu H locs hp hG => ?_)
    obtain rfl := hp
    replace hG : gW D cy b n s H locs (enc b cy X S_7) := hG
    refine lv_iconst (v := iI 0) hx hb dX0_countTail_53 (by decide) ?_
    refine lv_istore (lv' := [(5, .int (iI 0)), (4, .int (iI x_3)), (3, .int (iI x_1)), (0, .ref (b + 40)), (1, .int (iI a1)), (2, .int (iI a2))]) hx hb dX0_countTail_54 hl (by decide) rfl (fun ls hl => ?_)
    obtain ⟨S_10, hc_11, hM⟩ := bd1_some hM
    have hK_12 : ∀ (H : Heap) (locs : List Loc) (ls : Array Slot), gW D cy b n s H locs (enc b cy X S_10) → lv_has ls 12 [] → W p l e (gRm 2 0 0) s m args below meth c H locs 0 0 (gQV D cy b s args below 0 0 (fun u => u = (n, enc b cy X o1))) (F0 m 204 ls []) := by
      intro H locs ls hG hl
      cases hM
      exact g_vret S hr hlk hG hsz dX0_countTail_204 ⟨Nat.le_of_ble_eq_true rfl, Nat.le_of_ble_eq_true rfl⟩ rfl
    have loop_13 : ∀ (f : Nat) (v_8 : Int) (S_9 : St) (H : Heap) (locs : List Loc) (ls : Array Slot), mX0_countTail_40_56 x_3 x_1 a1 a2 f v_8 S_9 = some S_10 → gW D cy b n s H locs (enc b cy X S_9) → lv_has ls 12 [(5, .int (iI v_8)), (4, .int (iI x_3)), (3, .int (iI x_1)), (0, .ref (b + 40)), (1, .int (iI a1)), (2, .int (iI a2))] → W p l e (gRm 2 0 0) s m args below meth c H locs 0 0 (gQV D cy b s args below 0 0 (fun u => u = (n, enc b cy X o1))) (F0 m 56 ls []) := by
      clear hM
      intro f
      induction f with
      | zero => intro v_8 S_9 H locs ls hM; rw [mX0_countTail_40_56] at hM; cases hM
      | succ f_15 ih_14 =>
        intro v_8 S_9 H locs ls hM hG hl
        rw [mX0_countTail_40_56] at hM
        refine lv_iload hx hb dX0_countTail_56 (lv_at hl 0 rfl) ?_
        refine lv_iload_n hx hb dX0_countTail_58 rfl (lv_at hl 5 rfl) ?_
        obtain ⟨hg_16, hM⟩ := gd_some hM
        refine gi_icmp_gt (tgt := 204) hx hb dX0_countTail_59 (by decide) hg_16.1 hg_16.2 (fun c_17 => ?_) (fun c_17 => ?_)
        · replace hM := ifp hM c_17
          cases hM
          exact hK_12 H locs ls hG (lv_sub hl [] rfl)
        · replace hM := ifn hM c_17
          refine lv_iconst (v := iI 0) hx hb dX0_countTail_62 (by decide) ?_
          refine lv_istore (lv' := [(6, .int (iI 0)), (5, .int (iI v_8)), (4, .int (iI x_3)), (3, .int (iI x_1)), (0, .ref (b + 40)), (1, .int (iI a1)), (2, .int (iI a2))]) hx hb dX0_countTail_63 hl (by decide) rfl (fun ls hl => ?_)
          obtain ⟨S_20, hc_21, hM⟩ := bd1_some hM
          have hK_22 : ∀ (H : Heap) (locs : List Loc) (ls : Array Slot), gW D cy b n s H locs (enc b cy X S_20) → lv_has ls 12 [(5, .int (iI v_8)), (4, .int (iI x_3)), (3, .int (iI x_1)), (0, .ref (b + 40)), (1, .int (iI a1)), (2, .int (iI a2))] → W p l e (gRm 2 0 0) s m args below meth c H locs 0 0 (gQV D cy b s args below 0 0 (fun u => u = (n, enc b cy X o1))) (F0 m 198 ls []) := by
            intro H locs ls hG hl
            refine lv_iinc (v := iI (v_8 + 1)) (lv' := [(5, .int (iI (v_8 + 1))), (4, .int (iI x_3)), (3, .int (iI x_1)), (0, .ref (b + 40)), (1, .int (iI a1)), (2, .int (iI a2))]) hx hb dX0_countTail_198 hl (k := 0) rfl ((iI_add v_8 (1)).trans (congrArg iI (by omega))) (by decide) rfl (fun ls hl => ?_)
            refine lv_goto (tgt := 56) hx hb dX0_countTail_201 (by decide) ?_
            exact ih_14 (v_8 + 1) S_20 H locs ls hM hG (lv_sub hl [0, 1, 2, 3, 4, 5] rfl)
          have loop_23 : ∀ (f : Nat) (v_18 : Int) (S_19 : St) (H : Heap) (locs : List Loc) (ls : Array Slot), mX0_countTail_40_65 v_8 x_3 x_1 a1 a2 f v_18 S_19 = some S_20 → gW D cy b n s H locs (enc b cy X S_19) → lv_has ls 12 [(6, .int (iI v_18)), (5, .int (iI v_8)), (4, .int (iI x_3)), (3, .int (iI x_1)), (0, .ref (b + 40)), (1, .int (iI a1)), (2, .int (iI a2))] → W p l e (gRm 2 0 0) s m args below meth c H locs 0 0 (gQV D cy b s args below 0 0 (fun u => u = (n, enc b cy X o1))) (F0 m 65 ls []) := by
            clear hM
            intro f
            induction f with
            | zero => intro v_18 S_19 H locs ls hM; rw [mX0_countTail_40_65] at hM; cases hM
            | succ f_25 ih_24 =>
              intro v_18 S_19 H locs ls hM hG hl
              rw [mX0_countTail_40_65] at hM
              refine lv_iload hx hb dX0_countTail_65 (lv_at hl 0 rfl) ?_
              refine lv_aload_n hx hb dX0_countTail_67 rfl (lv_at hl 4 rfl) ?_
              refine lv_iload hx hb dX0_countTail_68 (lv_at hl 1 rfl) ?_
              obtain ⟨r_27, hc_26, hM⟩ := bd1_some hM
              refine g_vi (As := [.int (iI v_8)]) (rest := [.int (iI v_18)]) S hG hsz (vX0_letterTop_40 l hn v_8 hc_26) wV_0_108 (ec_40 _) cpX0 (Nat.lt_of_lt_of_le (Nat.le_of_ble_eq_true rfl) hn) dX0_countTail_70 rfl hl.1 (ar := 1) (by decide +kernel) rfl ⟨Nat.le_of_ble_eq_true rfl, Nat.le_of_ble_eq_true rfl, Nat.le_of_ble_eq_true rfl, Nat.le_of_ble_eq_true rfl⟩ (Nat.le_of_ble_eq_true rfl) (fun rv uu H locs hp hG => ?_)
              obtain ⟨rfl, rfl⟩ := hp
              replace hG : gW D cy b n s H locs (enc b cy X S_19) := hG
              obtain ⟨hg_28, hM⟩ := gd_some hM
              refine gi_icmp_gt (tgt := 198) hx hb dX0_countTail_73 (by decide) hg_28.1 hg_28.2 (fun c_29 => ?_) (fun c_29 => ?_)
              · replace hM := ifp hM c_29
                cases hM
                exact hK_22 H locs ls hG (lv_sub hl [1, 2, 3, 4, 5, 6] rfl)
              · replace hM := ifn hM c_29
                refine lv_aload_n hx hb dX0_countTail_76 rfl (lv_at hl 4 rfl) ?_
                refine m_get S hG 40 40 2 rfl ec_40 cpX0 wm_405 dX0_countTail_77 rfl (Nat.lt_of_lt_of_le (Nat.le_of_ble_eq_true rfl) hn) (by decide) ?_
                refine lv_iload_n hx hb dX0_countTail_80 rfl (lv_at hl 5 rfl) ?_
                refine lv_bipush (v := iI 64) hx hb dX0_countTail_81 (by decide) ?_
                refine gi_mul hx hb dX0_countTail_83 ?_
                refine lv_iload hx hb dX0_countTail_84 (lv_at hl 1 rfl) ?_
                refine lv_bipush (v := iI 8) hx hb dX0_countTail_86 (by decide) ?_
                refine gi_mul hx hb dX0_countTail_88 ?_
                refine gi_add hx hb dX0_countTail_89 ?_
                refine lv_iload hx hb dX0_countTail_90 (lv_at hl 0 rfl) ?_
                refine gi_add hx hb dX0_countTail_92 ?_
                obtain ⟨hg_30, hM⟩ := gd_some hM
                refine mj_ald S hG 41 41 rfl ec_41 (Nat.lt_of_lt_of_le (Nat.le_of_ble_eq_true rfl) hn) dX0_countTail_93 hg_30 (by decide) ?_
                refine lv_aload_n hx hb dX0_countTail_94 rfl (lv_at hl 4 rfl) ?_
                refine lv_iload_n hx hb dX0_countTail_95 rfl (lv_at hl 6 rfl) ?_
                refine lv_iload hx hb dX0_countTail_96 (lv_at hl 1 rfl) ?_
                obtain ⟨r_32, hc_31, hM⟩ := bd1_some hM
                refine g_vl (As := [.int (iI a2), .int (iI v_8)]) (rest := [.long (jJ (S_19 41 (((a1 * 64) + (v_8 * 8)) + v_18)))]) S hG hsz (vX0_weight_40 l hn a2 v_8 hc_31) wV_0_139 (ec_40 _) cpX0 (Nat.lt_of_lt_of_le (Nat.le_of_ble_eq_true rfl) hn) dX0_countTail_98 rfl hl.1 (ar := 2) (by decide +kernel) rfl ⟨Nat.le_of_ble_eq_true rfl, Nat.le_of_ble_eq_true rfl, Nat.le_of_ble_eq_true rfl, Nat.le_of_ble_eq_true rfl⟩ (Nat.le_of_ble_eq_true rfl) (fun rv uu H locs hp hG => ?_)
                obtain ⟨rfl, rfl⟩ := hp
                replace hG : gW D cy b n s H locs (enc b cy X S_19) := hG
                obtain ⟨r_34, hc_33, hM⟩ := bd1_some hM
                refine g_slN (As := [.long (jJ (S_19 41 (((a1 * 64) + (v_8 * 8)) + v_18))), .long (jJ r_32)]) (rest := []) S hG hsz (vX11_times l hn (S_19 41 (((a1 * 64) + (v_8 * 8)) + v_18)) r_32 hc_33) (y := yX11_times) (host := "GrownKinds") (by decide +kernel) ⟨wm_1053, wm_177, wm_1054, by decide +kernel, by decide +kernel⟩ dX0_countTail_101 rfl hl.1 (ar := 2) (by decide +kernel) rfl ⟨Nat.le_of_ble_eq_true rfl, Nat.le_of_ble_eq_true rfl, Nat.le_of_ble_eq_true rfl, Nat.le_of_ble_eq_true rfl⟩ (Nat.le_of_ble_eq_true rfl) (fun rv uu H locs hp hG => ?_)
                obtain ⟨rfl, rfl⟩ := hp
                replace hG : gW D cy b n s H locs (enc b cy X S_19) := hG
                refine lv_lstore (lv' := [(7, .long (jJ r_34)), (6, .int (iI v_18)), (5, .int (iI v_8)), (4, .int (iI x_3)), (3, .int (iI x_1)), (0, .ref (b + 40)), (1, .int (iI a1)), (2, .int (iI a2))]) hx hb dX0_countTail_104 hl (by decide) rfl (fun ls hl => ?_)
                refine lv_iconst (v := iI 0) hx hb dX0_countTail_106 (by decide) ?_
                refine lv_istore (lv' := [(9, .int (iI 0)), (7, .long (jJ r_34)), (6, .int (iI v_18)), (5, .int (iI v_8)), (4, .int (iI x_3)), (3, .int (iI x_1)), (0, .ref (b + 40)), (1, .int (iI a1)), (2, .int (iI a2))]) hx hb dX0_countTail_107 hl (by decide) rfl (fun ls hl => ?_)
                obtain ⟨S_37, hc_38, hM⟩ := bd1_some hM
                have hK_39 : ∀ (H : Heap) (locs : List Loc) (ls : Array Slot), gW D cy b n s H locs (enc b cy X S_37) → lv_has ls 12 [(6, .int (iI v_18)), (5, .int (iI v_8)), (4, .int (iI x_3)), (3, .int (iI x_1)), (0, .ref (b + 40)), (1, .int (iI a1)), (2, .int (iI a2))] → W p l e (gRm 2 0 0) s m args below meth c H locs 0 0 (gQV D cy b s args below 0 0 (fun u => u = (n, enc b cy X o1))) (F0 m 192 ls []) := by
                  intro H locs ls hG hl
                  refine lv_iinc (v := iI (v_18 + 1)) (lv' := [(6, .int (iI (v_18 + 1))), (5, .int (iI v_8)), (4, .int (iI x_3)), (3, .int (iI x_1)), (0, .ref (b + 40)), (1, .int (iI a1)), (2, .int (iI a2))]) hx hb dX0_countTail_192 hl (k := 0) rfl ((iI_add v_18 (1)).trans (congrArg iI (by omega))) (by decide) rfl (fun ls hl => ?_)
                  refine lv_goto (tgt := 65) hx hb dX0_countTail_195 (by decide) ?_
                  exact ih_24 (v_18 + 1) S_37 H locs ls hM hG (lv_sub hl [0, 1, 2, 3, 4, 5, 6] rfl)
                have loop_40 : ∀ (f : Nat) (v_35 : Int) (S_36 : St) (H : Heap) (locs : List Loc) (ls : Array Slot), mX0_countTail_40_109 r_34 v_18 v_8 x_3 x_1 a1 a2 f v_35 S_36 = some S_37 → gW D cy b n s H locs (enc b cy X S_36) → lv_has ls 12 [(9, .int (iI v_35)), (7, .long (jJ r_34)), (6, .int (iI v_18)), (5, .int (iI v_8)), (4, .int (iI x_3)), (3, .int (iI x_1)), (0, .ref (b + 40)), (1, .int (iI a1)), (2, .int (iI a2))] → W p l e (gRm 2 0 0) s m args below meth c H locs 0 0 (gQV D cy b s args below 0 0 (fun u => u = (n, enc b cy X o1))) (F0 m 109 ls []) := by
                  clear hM
                  intro f
                  induction f with
                  | zero => intro v_35 S_36 H locs ls hM; rw [mX0_countTail_40_109] at hM; cases hM
                  | succ f_42 ih_41 =>
                    intro v_35 S_36 H locs ls hM hG hl
                    rw [mX0_countTail_40_109] at hM
                    refine lv_lload hx hb dX0_countTail_109 (lv_at hl 1 rfl) ?_
                    refine lv_lconst (v := jJ 0) hx hb dX0_countTail_111 (by decide) ?_
                    obtain ⟨hg_43, hM⟩ := gd_some hM
                    refine gj_cmp_le (tgt := 192) hx hb dX0_countTail_112 dX0_countTail_113 (by decide) hg_43 (by decide) (fun c_44 => ?_) (fun c_44 => ?_)
                    · replace hM := ifp hM c_44
                      cases hM
                      exact hK_39 H locs ls hG (lv_sub hl [2, 3, 4, 5, 6, 7, 8] rfl)
                    · replace hM := ifn hM c_44
                      refine lv_iload hx hb dX0_countTail_116 (lv_at hl 0 rfl) ?_
                      refine lv_aload_n hx hb dX0_countTail_118 rfl (lv_at hl 6 rfl) ?_
                      refine lv_iload_n hx hb dX0_countTail_119 rfl (lv_at hl 8 rfl) ?_
                      refine lv_iload hx hb dX0_countTail_120 (lv_at hl 3 rfl) ?_
                      refine gi_sub hx hb dX0_countTail_122 ?_
                      obtain ⟨r_46, hc_45, hM⟩ := bd1_some hM
                      refine g_vi (As := [.int (iI (a2 - v_8))]) (rest := [.int (iI v_35)]) S hG hsz (vX0_letterTop_40 l hn (a2 - v_8) hc_45) wV_0_108 (ec_40 _) cpX0 (Nat.lt_of_lt_of_le (Nat.le_of_ble_eq_true rfl) hn) dX0_countTail_123 rfl hl.1 (ar := 1) (by decide +kernel) rfl ⟨Nat.le_of_ble_eq_true rfl, Nat.le_of_ble_eq_true rfl, Nat.le_of_ble_eq_true rfl, Nat.le_of_ble_eq_true rfl⟩ (Nat.le_of_ble_eq_true rfl) (fun rv uu H locs hp hG => ?_)
                      obtain ⟨rfl, rfl⟩ := hp
                      replace hG : gW D cy b n s H locs (enc b cy X S_36) := hG
                      obtain ⟨hg_47, hM⟩ := gd_some hM
                      refine gi_icmp_gt (tgt := 192) hx hb dX0_countTail_126 (by decide) hg_47.1 hg_47.2 (fun c_48 => ?_) (fun c_48 => ?_)
                      · replace hM := ifp hM c_48
                        cases hM
                        exact hK_39 H locs ls hG (lv_sub hl [2, 3, 4, 5, 6, 7, 8] rfl)
                      · replace hM := ifn hM c_48
                        refine lv_aload_n hx hb dX0_countTail_129 rfl (lv_at hl 6 rfl) ?_
                        refine m_get S hG 40 40 3 rfl ec_40 cpX0 wm_406 dX0_countTail_130 rfl (Nat.lt_of_lt_of_le (Nat.le_of_ble_eq_true rfl) hn) (by decide) ?_
                        refine lv_iload hx hb dX0_countTail_133 (lv_at hl 4 rfl) ?_
                        refine lv_bipush (v := iI 64) hx hb dX0_countTail_135 (by decide) ?_
                        refine gi_mul hx hb dX0_countTail_137 ?_
                        refine lv_iload_n hx hb dX0_countTail_138 rfl (lv_at hl 8 rfl) ?_
                        refine lv_iload hx hb dX0_countTail_139 (lv_at hl 3 rfl) ?_
                        refine gi_sub hx hb dX0_countTail_141 ?_
                        refine lv_bipush (v := iI 8) hx hb dX0_countTail_142 (by decide) ?_
                        refine gi_mul hx hb dX0_countTail_144 ?_
                        refine gi_add hx hb dX0_countTail_145 ?_
                        refine lv_iload hx hb dX0_countTail_146 (lv_at hl 0 rfl) ?_
                        refine gi_add hx hb dX0_countTail_148 ?_
                        obtain ⟨hg_49, hM⟩ := gd_some hM
                        refine mj_ald S hG 42 42 rfl ec_42 (Nat.lt_of_lt_of_le (Nat.le_of_ble_eq_true rfl) hn) dX0_countTail_149 hg_49 (by decide) ?_
                        refine gj_nm (fun x_50 ex_50 => ?_)
                        replace hM := nx_at hM ex_50
                        clear ex_50
                        refine lv_lstore (lv' := [(10, .long (jJ x_50)), (9, .int (iI v_35)), (7, .long (jJ r_34)), (6, .int (iI v_18)), (5, .int (iI v_8)), (4, .int (iI x_3)), (3, .int (iI x_1)), (0, .ref (b + 40)), (1, .int (iI a1)), (2, .int (iI a2))]) hx hb dX0_countTail_150 hl (by decide) rfl (fun ls hl => ?_)
                        refine lv_aload_n hx hb dX0_countTail_152 rfl (lv_at hl 7 rfl) ?_
                        refine m_get S hG 40 40 3 rfl ec_40 cpX0 wm_406 dX0_countTail_153 rfl (Nat.lt_of_lt_of_le (Nat.le_of_ble_eq_true rfl) hn) (by decide) ?_
                        refine lv_iload_n hx hb dX0_countTail_156 rfl (lv_at hl 6 rfl) ?_
                        refine lv_iload hx hb dX0_countTail_157 (lv_at hl 3 rfl) ?_
                        refine gi_add hx hb dX0_countTail_159 ?_
                        refine lv_iload hx hb dX0_countTail_160 (lv_at hl 1 rfl) ?_
                        refine gi_add hx hb dX0_countTail_162 ?_
                        refine lv_aload_n hx hb dX0_countTail_163 rfl (lv_at hl 7 rfl) ?_
                        refine m_get S hG 40 40 3 rfl ec_40 cpX0 wm_406 dX0_countTail_164 rfl (Nat.lt_of_lt_of_le (Nat.le_of_ble_eq_true rfl) hn) (by decide) ?_
                        refine lv_iload_n hx hb dX0_countTail_167 rfl (lv_at hl 6 rfl) ?_
                        refine lv_iload hx hb dX0_countTail_168 (lv_at hl 3 rfl) ?_
                        refine gi_add hx hb dX0_countTail_170 ?_
                        refine lv_iload hx hb dX0_countTail_171 (lv_at hl 1 rfl) ?_
                        refine gi_add hx hb dX0_countTail_173 ?_
                        obtain ⟨hg_51, hM⟩ := gd_some hM
                        refine mj_ald S hG 42 42 rfl ec_42 (Nat.lt_of_lt_of_le (Nat.le_of_ble_eq_true rfl) hn) dX0_countTail_174 hg_51 (by decide) ?_
                        refine lv_lload hx hb dX0_countTail_175 (lv_at hl 2 rfl) ?_
                        refine lv_lload hx hb dX0_countTail_177 (lv_at hl 0 rfl) ?_
                        obtain ⟨r_53, hc_52, hM⟩ := bd1_some hM
                        refine g_slN (As := [.long (jJ r_34), .long (jJ x_50)]) (rest := [.long (jJ (S_36 42 ((x_1 + v_18) + v_35))), .int (iI ((x_1 + v_18) + v_35)), .ref (b + 42)]) S hG hsz (vX11_times l hn r_34 x_50 hc_52) (y := yX11_times) (host := "GrownKinds") (by decide +kernel) ⟨wm_1053, wm_177, wm_1054, by decide +kernel, by decide +kernel⟩ dX0_countTail_179 rfl hl.1 (ar := 2) (by decide +kernel) rfl ⟨Nat.le_of_ble_eq_true rfl, Nat.le_of_ble_eq_true rfl, Nat.le_of_ble_eq_true rfl, Nat.le_of_ble_eq_true rfl⟩ (Nat.le_of_ble_eq_true rfl) (fun rv uu H locs hp hG => ?_)
                        obtain ⟨rfl, rfl⟩ := hp
                        replace hG : gW D cy b n s H locs (enc b cy X S_36) := hG
                        obtain ⟨r_55, hc_54, hM⟩ := bd1_some hM
                        refine g_slN (As := [.long (jJ (S_36 42 ((x_1 + v_18) + v_35))), .long (jJ r_53)]) (rest := [.int (iI ((x_1 + v_18) + v_35)), .ref (b + 42)]) S hG hsz (vX11_plus l hn (S_36 42 ((x_1 + v_18) + v_35)) r_53 hc_54) (y := yX11_plus) (host := "GrownKinds") (by decide +kernel) ⟨wm_997, wm_177, wm_998, by decide +kernel, by decide +kernel⟩ dX0_countTail_182 rfl hl.1 (ar := 2) (by decide +kernel) rfl ⟨Nat.le_of_ble_eq_true rfl, Nat.le_of_ble_eq_true rfl, Nat.le_of_ble_eq_true rfl, Nat.le_of_ble_eq_true rfl⟩ (Nat.le_of_ble_eq_true rfl) (fun rv uu H locs hp hG => ?_)
                        obtain ⟨rfl, rfl⟩ := hp
                        replace hG : gW D cy b n s H locs (enc b cy X S_36) := hG
                        refine mj_ast S hG 42 42 rfl ec_42 (Nat.lt_of_lt_of_le (Nat.le_of_ble_eq_true rfl) hn) dX0_countTail_185 hg_51 (by decide) (fun H locs S_56 eS_56 hG => ?_)
                        replace hM := nx_at hM eS_56
                        clear eS_56
                        refine lv_iinc (v := iI (v_35 + 1)) (lv' := [(9, .int (iI (v_35 + 1))), (10, .long (jJ x_50)), (7, .long (jJ r_34)), (6, .int (iI v_18)), (5, .int (iI v_8)), (4, .int (iI x_3)), (3, .int (iI x_1)), (0, .ref (b + 40)), (1, .int (iI a1)), (2, .int (iI a2))]) hx hb dX0_countTail_186 hl (k := 1) rfl ((iI_add v_35 (1)).trans (congrArg iI (by omega))) (by decide) rfl (fun ls hl => ?_)
                        refine lv_goto (tgt := 109) hx hb dX0_countTail_189 (by decide) ?_
                        exact ih_41 (v_35 + 1) S_56 H locs ls hM hG (lv_sub hl [0, 2, 3, 4, 5, 6, 7, 8, 9] rfl)
                exact loop_40 FU 0 S_19 H locs ls hc_38 hG (lv_sub hl [0, 1, 2, 3, 4, 5, 6, 7, 8] rfl)
          exact loop_23 FU 0 S_9 H locs ls hc_21 hG (lv_sub hl [0, 1, 2, 3, 4, 5, 6] rfl)
    exact loop_13 FU 0 S_7 H locs ls hc_11 hG (lv_sub hl [0, 1, 2, 3, 4, 5] rfl)
  · replace hM := ifp hM c_5
    refine lv_aload_n hx hb dX0_countTail_27 rfl (lv_at hl 2 rfl) ?_
    refine lv_aload_n hx hb dX0_countTail_28 rfl (lv_at hl 2 rfl) ?_
    refine m_get S hG 40 40 2 rfl ec_40 cpX0 wm_405 dX0_countTail_29 rfl (Nat.lt_of_lt_of_le (Nat.le_of_ble_eq_true rfl) hn) (by decide) ?_
    refine lv_iload_n hx hb dX0_countTail_32 rfl (lv_at hl 1 rfl) ?_
    refine lv_aload_n hx hb dX0_countTail_33 rfl (lv_at hl 2 rfl) ?_
    refine m_get S hG 40 40 3 rfl ec_40 cpX0 wm_406 dX0_countTail_34 rfl (Nat.lt_of_lt_of_le (Nat.le_of_ble_eq_true rfl) hn) (by decide) ?_
    refine lv_iload_n hx hb dX0_countTail_37 rfl (lv_at hl 1 rfl) ?_
    refine lv_iload_n hx hb dX0_countTail_38 rfl (lv_at hl 4 rfl) ?_
    obtain ⟨S_58, hc_57, hM⟩ := bd1_some hM
    refine g_vv (As := [.ref (b + 41), .int (iI x_1), .ref (b + 42), .int (iI x_1), .int (iI a2)]) (rest := []) S hG hsz (vX0_copyCells_40_41_42 l hn x_1 x_1 a2 hc_57) wV_0_118 (ec_40 _) cpX0 (Nat.lt_of_lt_of_le (Nat.le_of_ble_eq_true rfl) hn) dX0_countTail_39 rfl hl.1 (ar := 5) (by decide +kernel) rfl ⟨Nat.le_of_ble_eq_true rfl, Nat.le_of_ble_eq_true rfl, Nat.le_of_ble_eq_true rfl, Nat.le_of_ble_eq_true rfl⟩ (Nat.le_of_ble_eq_true rfl) (fun uu H locs hp hG => ?_)
    obtain rfl := hp
    replace hG : gW D cy b n s H locs (enc b cy X S_58) := hG
    cases hM
    exact g_vret S hr hlk hG hsz dX0_countTail_42 ⟨Nat.le_of_ble_eq_true rfl, Nat.le_of_ble_eq_true rfl⟩ rfl
theorem wV_0_57 : gWV "GrownKinds$Census" 57 yX0_countPart cX0_countPart 6 none := ⟨wm_1000, wm_1002, wm_32, wm_181, wm_1003, by decide +kernel, by decide +kernel⟩
theorem wV_0_122 : gWV "GrownKinds$Census" 122 yX2_isSequence cX2_isSequence 2 (some .boolean) := ⟨wm_1008, wm_1009, wm_1010, wm_178, wm_1011, by decide +kernel, by decide +kernel⟩
def mX2_isSequence_2 (S0 : St) (a1 : Int) : Option (Int) := gd (0 ≤ a1 ∧ a1 < 24) <| gd (inI (S0 3 a1)) <| if (S0 3 a1) < 3 then (some (0)) else (if 6 < (S0 3 a1) then (some (0)) else (some (1)))
set_option maxHeartbeats 4000000 in
set_option maxRecDepth 100000 in
theorem vX2_isSequence_2 (l : Launch) {D : va_G} {cy : Nat → ClassId} {b n : Nat} (hn : 102 ≤ n) {X : Nat → va_E} {S0 : St} (a1 : Int) {o1 : Int} (hM : mX2_isSequence_2 S0 a1 = some o1) : gI l yX2_isSequence cX2_isSequence 2 (some .boolean) 0 0 0 D cy b n (enc b cy X S0) [.ref (b + 2), .int (iI a1)] (fun r u => r = iI o1 ∧ u = (n, enc b cy X S0)) := by
  refine gI_of (by decide) (Nat.le_of_ble_eq_true rfl) ?_
  intro p e s m args below meth c S hr hlk hin hsz ls hl hG
  have hx := S.1
  have hb := S.2.1
  have hl : lv_has ls 2 [(0, .ref (b + 2)), (1, .int (iI a1))] := hl
  replace hG : gW D cy b n s s.heap [] (enc b cy X S0) := hG
  obtain ⟨H, eH⟩ : ∃ H, H = s.heap := ⟨_, rfl⟩
  obtain ⟨locs, elocs⟩ : ∃ locs : List Loc, locs = [] := ⟨_, rfl⟩
  rw [← eH, ← elocs] at hG
  rw [← eH, ← elocs]
  clear eH elocs
  unfold mX2_isSequence_2 at hM
  refine lv_aload_n hx hb dX2_isSequence_0 rfl (lv_at hl 0 rfl) ?_
  refine m_get S hG 2 2 5 rfl ec_2 cpX2 wm_234 dX2_isSequence_1 rfl (Nat.lt_of_lt_of_le (Nat.le_of_ble_eq_true rfl) hn) (by decide) ?_
  refine lv_iload_n hx hb dX2_isSequence_4 rfl (lv_at hl 1 rfl) ?_
  obtain ⟨hg_1, hM⟩ := gd_some hM
  refine mi_ald S hG 3 3 rfl ec_3 (Nat.lt_of_lt_of_le (Nat.le_of_ble_eq_true rfl) hn) dX2_isSequence_5 hg_1 (by decide) ?_
  refine lv_iconst (v := iI 3) hx hb dX2_isSequence_6 (by decide) ?_
  obtain ⟨hg_2, hM⟩ := gd_some hM
  refine gi_icmp_lt (tgt := 25) hx hb dX2_isSequence_7 (by decide) hg_2 (by decide) (fun c_3 => ?_) (fun c_3 => ?_)
  · replace hM := ifp hM c_3
    refine lv_iconst (v := iI 0) hx hb dX2_isSequence_25 (by decide) ?_
    cases hM
    exact g_zret S hr hlk hG hsz dX2_isSequence_26 ⟨Nat.le_of_ble_eq_true rfl, Nat.le_of_ble_eq_true rfl⟩ (nar_z (by decide)) ⟨rfl, rfl⟩
  · replace hM := ifn hM c_3
    refine lv_aload_n hx hb dX2_isSequence_10 rfl (lv_at hl 0 rfl) ?_
    refine m_get S hG 2 2 5 rfl ec_2 cpX2 wm_234 dX2_isSequence_11 rfl (Nat.lt_of_lt_of_le (Nat.le_of_ble_eq_true rfl) hn) (by decide) ?_
    refine lv_iload_n hx hb dX2_isSequence_14 rfl (lv_at hl 1 rfl) ?_
    refine mi_ald S hG 3 3 rfl ec_3 (Nat.lt_of_lt_of_le (Nat.le_of_ble_eq_true rfl) hn) dX2_isSequence_15 hg_1 (by decide) ?_
    refine lv_bipush (v := iI 6) hx hb dX2_isSequence_16 (by decide) ?_
    refine gi_icmp_gt (tgt := 25) hx hb dX2_isSequence_18 (by decide) hg_2 (by decide) (fun c_4 => ?_) (fun c_4 => ?_)
    · replace hM := ifp hM c_4
      refine lv_iconst (v := iI 0) hx hb dX2_isSequence_25 (by decide) ?_
      cases hM
      exact g_zret S hr hlk hG hsz dX2_isSequence_26 ⟨Nat.le_of_ble_eq_true rfl, Nat.le_of_ble_eq_true rfl⟩ (nar_z (by decide)) ⟨rfl, rfl⟩
    · replace hM := ifn hM c_4
      refine lv_iconst (v := iI 1) hx hb dX2_isSequence_21 (by decide) ?_
      refine lv_goto (tgt := 26) hx hb dX2_isSequence_22 (by decide) ?_
      cases hM
      exact g_zret S hr hlk hG hsz dX2_isSequence_26 ⟨Nat.le_of_ble_eq_true rfl, Nat.le_of_ble_eq_true rfl⟩ (nar_z (by decide)) ⟨rfl, rfl⟩
def mX0_clearCells_40_41_3 (a2 : Int) (a3 : Int) : Nat → Int → St → Option (St)
  | 0, _, _ => none
  | f + 1, v_1, S_2 => bd1 (mX0_letterTop_40 S_2 a3) fun r_10 => gd ((inI v_1) ∧ (inI r_10)) <| if r_10 < v_1 then (some (S_2)) else (gd (0 ≤ (a2 + v_1) ∧ (a2 + v_1) < 1536) <| nx (up S_2 41 (a2 + v_1) 0) fun S_14 => mX0_clearCells_40_41_3 a2 a3 f (v_1 + 1) S_14)
def mX0_clearCells_40_41 (S0 : St) (a2 : Int) (a3 : Int) : Option (St) := bd1 (mX0_clearCells_40_41_3 a2 a3 FU 0 S0) fun S_3 => some (S_3)
set_option maxHeartbeats 4000000 in
set_option maxRecDepth 100000 in
theorem vX0_clearCells_40_41 (l : Launch) {D : va_G} {cy : Nat → ClassId} {b n : Nat} (hn : 102 ≤ n) {X : Nat → va_E} {S0 : St} (a2 : Int) (a3 : Int) {o1 : St} (hM : mX0_clearCells_40_41 S0 a2 a3 = some o1) : gV l yX0_clearCells cX0_clearCells 5 1 0 0 D cy b n (enc b cy X S0) [.ref (b + 40), .ref (b + 41), .int (iI a2), .int (iI a3)] (fun u => u = (n, enc b cy X o1)) := by
  refine gV_of (by decide) (Nat.le_of_ble_eq_true rfl) ?_
  intro p e s m args below meth c S hr hlk hin hsz ls hl hG
  have hx := S.1
  have hb := S.2.1
  have hl : lv_has ls 5 [(0, .ref (b + 40)), (1, .ref (b + 41)), (2, .int (iI a2)), (3, .int (iI a3))] := hl
  replace hG : gW D cy b n s s.heap [] (enc b cy X S0) := hG
  obtain ⟨H, eH⟩ : ∃ H, H = s.heap := ⟨_, rfl⟩
  obtain ⟨locs, elocs⟩ : ∃ locs : List Loc, locs = [] := ⟨_, rfl⟩
  rw [← eH, ← elocs] at hG
  rw [← eH, ← elocs]
  clear eH elocs
  unfold mX0_clearCells_40_41 at hM
  refine lv_iconst (v := iI 0) hx hb dX0_clearCells_0 (by decide) ?_
  refine lv_istore (lv' := [(4, .int (iI 0)), (0, .ref (b + 40)), (1, .ref (b + 41)), (2, .int (iI a2)), (3, .int (iI a3))]) hx hb dX0_clearCells_1 hl (by decide) rfl (fun ls hl => ?_)
  obtain ⟨S_3, hc_4, hM⟩ := bd1_some hM
  have hK_5 : ∀ (H : Heap) (locs : List Loc) (ls : Array Slot), gW D cy b n s H locs (enc b cy X S_3) → lv_has ls 5 [] → W p l e (gRm 1 0 0) s m args below meth c H locs 0 0 (gQV D cy b s args below 0 0 (fun u => u = (n, enc b cy X o1))) (F0 m 26 ls []) := by
    intro H locs ls hG hl
    cases hM
    exact g_vret S hr hlk hG hsz dX0_clearCells_26 ⟨Nat.le_of_ble_eq_true rfl, Nat.le_of_ble_eq_true rfl⟩ rfl
  have loop_6 : ∀ (f : Nat) (v_1 : Int) (S_2 : St) (H : Heap) (locs : List Loc) (ls : Array Slot), mX0_clearCells_40_41_3 a2 a3 f v_1 S_2 = some S_3 → gW D cy b n s H locs (enc b cy X S_2) → lv_has ls 5 [(4, .int (iI v_1)), (0, .ref (b + 40)), (1, .ref (b + 41)), (2, .int (iI a2)), (3, .int (iI a3))] → W p l e (gRm 1 0 0) s m args below meth c H locs 0 0 (gQV D cy b s args below 0 0 (fun u => u = (n, enc b cy X o1))) (F0 m 3 ls []) := by
    clear hM
    intro f
    induction f with
    | zero => intro v_1 S_2 H locs ls hM; rw [mX0_clearCells_40_41_3] at hM; cases hM
    | succ f_8 ih_7 =>
      intro v_1 S_2 H locs ls hM hG hl
      rw [mX0_clearCells_40_41_3] at hM
      refine lv_iload hx hb dX0_clearCells_3 (lv_at hl 0 rfl) ?_
      refine lv_aload_n hx hb dX0_clearCells_5 rfl (lv_at hl 1 rfl) ?_
      refine lv_iload_n hx hb dX0_clearCells_6 rfl (lv_at hl 4 rfl) ?_
      obtain ⟨r_10, hc_9, hM⟩ := bd1_some hM
      refine g_vi (As := [.int (iI a3)]) (rest := [.int (iI v_1)]) S hG hsz (vX0_letterTop_40 l hn a3 hc_9) wV_0_108 (ec_40 _) cpX0 (Nat.lt_of_lt_of_le (Nat.le_of_ble_eq_true rfl) hn) dX0_clearCells_7 rfl hl.1 (ar := 1) (by decide +kernel) rfl ⟨Nat.le_of_ble_eq_true rfl, Nat.le_of_ble_eq_true rfl, Nat.le_of_ble_eq_true rfl, Nat.le_of_ble_eq_true rfl⟩ (Nat.le_of_ble_eq_true rfl) (fun rv uu H locs hp hG => ?_)
      obtain ⟨rfl, rfl⟩ := hp
      replace hG : gW D cy b n s H locs (enc b cy X S_2) := hG
      obtain ⟨hg_11, hM⟩ := gd_some hM
      refine gi_icmp_gt (tgt := 26) hx hb dX0_clearCells_10 (by decide) hg_11.1 hg_11.2 (fun c_12 => ?_) (fun c_12 => ?_)
      · replace hM := ifp hM c_12
        cases hM
        exact hK_5 H locs ls hG (lv_sub hl [] rfl)
      · replace hM := ifn hM c_12
        refine lv_aload_n hx hb dX0_clearCells_13 rfl (lv_at hl 2 rfl) ?_
        refine lv_iload_n hx hb dX0_clearCells_14 rfl (lv_at hl 3 rfl) ?_
        refine lv_iload hx hb dX0_clearCells_15 (lv_at hl 0 rfl) ?_
        refine gi_add hx hb dX0_clearCells_17 ?_
        refine lv_lconst (v := jJ 0) hx hb dX0_clearCells_18 (by decide) ?_
        obtain ⟨hg_13, hM⟩ := gd_some hM
        refine mj_ast S hG 41 41 rfl ec_41 (Nat.lt_of_lt_of_le (Nat.le_of_ble_eq_true rfl) hn) dX0_clearCells_19 hg_13 (by decide) (fun H locs S_14 eS_14 hG => ?_)
        replace hM := nx_at hM eS_14
        clear eS_14
        refine lv_iinc (v := iI (v_1 + 1)) (lv' := [(4, .int (iI (v_1 + 1))), (0, .ref (b + 40)), (1, .ref (b + 41)), (2, .int (iI a2)), (3, .int (iI a3))]) hx hb dX0_clearCells_20 hl (k := 0) rfl ((iI_add v_1 (1)).trans (congrArg iI (by omega))) (by decide) rfl (fun ls hl => ?_)
        refine lv_goto (tgt := 3) hx hb dX0_clearCells_23 (by decide) ?_
        exact ih_7 (v_1 + 1) S_14 H locs ls hM hG (lv_sub hl [0, 1, 2, 3, 4] rfl)
  exact loop_6 FU 0 S0 H locs ls hc_4 hG (lv_sub hl [0, 1, 2, 3, 4] rfl)
theorem wV_0_126 : gWV "GrownKinds$Census" 126 yX0_countSequence cX0_countSequence 8 none := ⟨wm_1012, wm_1014, wm_34, wm_181, wm_1015, by decide +kernel, by decide +kernel⟩
theorem wV_0_155 : gWV "GrownKinds$Census" 155 yX0_inClasses cX0_inClasses 2 (some .boolean) := ⟨wm_1032, wm_1034, wm_39, wm_181, wm_1035, by decide +kernel, by decide +kernel⟩
def mX0_inClasses_40 (S0 : St) (a1 : Int) : Option (Int) := gd (inI (S0 40 1)) <| if (S0 40 1) = (-2) then (some (0)) else (gd (0 ≤ a1 ∧ a1 < 24) <| gd (inI (S0 3 a1)) <| if (S0 3 a1) = 4 then (some (1)) else (if (S0 3 a1) = 5 then (some (1)) else (some (0))))
set_option maxHeartbeats 4000000 in
set_option maxRecDepth 100000 in
theorem vX0_inClasses_40 (l : Launch) {D : va_G} {cy : Nat → ClassId} {b n : Nat} (hn : 102 ≤ n) {X : Nat → va_E} {S0 : St} (a1 : Int) {o1 : Int} (hM : mX0_inClasses_40 S0 a1 = some o1) : gI l yX0_inClasses cX0_inClasses 2 (some .boolean) 0 0 0 D cy b n (enc b cy X S0) [.ref (b + 40), .int (iI a1)] (fun r u => r = iI o1 ∧ u = (n, enc b cy X S0)) := by
  refine gI_of (by decide) (Nat.le_of_ble_eq_true rfl) ?_
  intro p e s m args below meth c S hr hlk hin hsz ls hl hG
  have hx := S.1
  have hb := S.2.1
  have hl : lv_has ls 2 [(0, .ref (b + 40)), (1, .int (iI a1))] := hl
  replace hG : gW D cy b n s s.heap [] (enc b cy X S0) := hG
  obtain ⟨H, eH⟩ : ∃ H, H = s.heap := ⟨_, rfl⟩
  obtain ⟨locs, elocs⟩ : ∃ locs : List Loc, locs = [] := ⟨_, rfl⟩
  rw [← eH, ← elocs] at hG
  rw [← eH, ← elocs]
  clear eH elocs
  unfold mX0_inClasses_40 at hM
  refine lv_aload_n hx hb dX0_inClasses_0 rfl (lv_at hl 0 rfl) ?_
  refine m_get S hG 40 40 1 rfl ec_40 cpX0 wm_404 dX0_inClasses_1 rfl (Nat.lt_of_lt_of_le (Nat.le_of_ble_eq_true rfl) hn) (by decide) ?_
  refine lv_bipush (v := iI (-2)) hx hb dX0_inClasses_4 (by decide) ?_
  obtain ⟨hg_1, hM⟩ := gd_some hM
  refine gi_icmp_eq (tgt := 39) hx hb dX0_inClasses_6 (by decide) hg_1 (by decide) (fun c_2 => ?_) (fun c_2 => ?_)
  · replace hM := ifp hM c_2
    refine lv_iconst (v := iI 0) hx hb dX0_inClasses_39 (by decide) ?_
    cases hM
    exact g_zret S hr hlk hG hsz dX0_inClasses_40 ⟨Nat.le_of_ble_eq_true rfl, Nat.le_of_ble_eq_true rfl⟩ (nar_z (by decide)) ⟨rfl, rfl⟩
  · replace hM := ifn hM c_2
    refine lv_aload_n hx hb dX0_inClasses_9 rfl (lv_at hl 0 rfl) ?_
    refine m_get S hG 40 40 0 rfl ec_40 cpX0 wm_403 dX0_inClasses_10 rfl (Nat.lt_of_lt_of_le (Nat.le_of_ble_eq_true rfl) hn) (by decide) ?_
    refine m_get S hG 2 2 5 rfl ec_2 cpX2 wm_239 dX0_inClasses_13 rfl (Nat.lt_of_lt_of_le (Nat.le_of_ble_eq_true rfl) hn) (by decide) ?_
    refine lv_iload_n hx hb dX0_inClasses_16 rfl (lv_at hl 1 rfl) ?_
    obtain ⟨hg_3, hM⟩ := gd_some hM
    refine mi_ald S hG 3 3 rfl ec_3 (Nat.lt_of_lt_of_le (Nat.le_of_ble_eq_true rfl) hn) dX0_inClasses_17 hg_3 (by decide) ?_
    refine lv_iconst (v := iI 4) hx hb dX0_inClasses_18 (by decide) ?_
    obtain ⟨hg_4, hM⟩ := gd_some hM
    refine gi_icmp_eq (tgt := 35) hx hb dX0_inClasses_19 (by decide) hg_4 (by decide) (fun c_5 => ?_) (fun c_5 => ?_)
    · replace hM := ifp hM c_5
      refine lv_iconst (v := iI 1) hx hb dX0_inClasses_35 (by decide) ?_
      refine lv_goto (tgt := 40) hx hb dX0_inClasses_36 (by decide) ?_
      cases hM
      exact g_zret S hr hlk hG hsz dX0_inClasses_40 ⟨Nat.le_of_ble_eq_true rfl, Nat.le_of_ble_eq_true rfl⟩ (nar_z (by decide)) ⟨rfl, rfl⟩
    · replace hM := ifn hM c_5
      refine lv_aload_n hx hb dX0_inClasses_22 rfl (lv_at hl 0 rfl) ?_
      refine m_get S hG 40 40 0 rfl ec_40 cpX0 wm_403 dX0_inClasses_23 rfl (Nat.lt_of_lt_of_le (Nat.le_of_ble_eq_true rfl) hn) (by decide) ?_
      refine m_get S hG 2 2 5 rfl ec_2 cpX2 wm_239 dX0_inClasses_26 rfl (Nat.lt_of_lt_of_le (Nat.le_of_ble_eq_true rfl) hn) (by decide) ?_
      refine lv_iload_n hx hb dX0_inClasses_29 rfl (lv_at hl 1 rfl) ?_
      refine mi_ald S hG 3 3 rfl ec_3 (Nat.lt_of_lt_of_le (Nat.le_of_ble_eq_true rfl) hn) dX0_inClasses_30 hg_3 (by decide) ?_
      refine lv_iconst (v := iI 5) hx hb dX0_inClasses_31 (by decide) ?_
      refine gi_icmp_ne (tgt := 39) hx hb dX0_inClasses_32 (by decide) hg_4 (by decide) (fun c_6 => ?_) (fun c_6 => ?_)
      · replace hM := ifn hM c_6
        refine lv_iconst (v := iI 0) hx hb dX0_inClasses_39 (by decide) ?_
        cases hM
        exact g_zret S hr hlk hG hsz dX0_inClasses_40 ⟨Nat.le_of_ble_eq_true rfl, Nat.le_of_ble_eq_true rfl⟩ (nar_z (by decide)) ⟨rfl, rfl⟩
      · replace hM := ifp hM c_6
        refine lv_iconst (v := iI 1) hx hb dX0_inClasses_35 (by decide) ?_
        refine lv_goto (tgt := 40) hx hb dX0_inClasses_36 (by decide) ?_
        cases hM
        exact g_zret S hr hlk hG hsz dX0_inClasses_40 ⟨Nat.le_of_ble_eq_true rfl, Nat.le_of_ble_eq_true rfl⟩ (nar_z (by decide)) ⟨rfl, rfl⟩
theorem wV_0_161 : gWV "GrownKinds$Census" 161 yX0_growRows cX0_growRows 12 none := ⟨wm_1055, wm_1057, wm_43, wm_181, wm_1058, by decide +kernel, by decide +kernel⟩
theorem wV_0_176 : gWV "GrownKinds$Census" 176 yX0_longest cX0_longest 2 (some .int) := ⟨wm_1028, wm_1030, wm_38, wm_181, wm_1031, by decide +kernel, by decide +kernel⟩
def mX0_longest_40 (S0 : St) (a1 : Int) : Option (Int) := gd (0 ≤ a1 ∧ a1 < 24) <| gd (inI (S0 4 a1)) <| if (S0 4 a1) = 0 then (some ((S0 2 0))) else (some ((S0 4 a1)))
set_option maxHeartbeats 4000000 in
set_option maxRecDepth 100000 in
theorem vX0_longest_40 (l : Launch) {D : va_G} {cy : Nat → ClassId} {b n : Nat} (hn : 102 ≤ n) {X : Nat → va_E} {S0 : St} (a1 : Int) {o1 : Int} (hM : mX0_longest_40 S0 a1 = some o1) : gI l yX0_longest cX0_longest 2 (some .int) 0 0 0 D cy b n (enc b cy X S0) [.ref (b + 40), .int (iI a1)] (fun r u => r = iI o1 ∧ u = (n, enc b cy X S0)) := by
  refine gI_of (by decide) (Nat.le_of_ble_eq_true rfl) ?_
  intro p e s m args below meth c S hr hlk hin hsz ls hl hG
  have hx := S.1
  have hb := S.2.1
  have hl : lv_has ls 2 [(0, .ref (b + 40)), (1, .int (iI a1))] := hl
  replace hG : gW D cy b n s s.heap [] (enc b cy X S0) := hG
  obtain ⟨H, eH⟩ : ∃ H, H = s.heap := ⟨_, rfl⟩
  obtain ⟨locs, elocs⟩ : ∃ locs : List Loc, locs = [] := ⟨_, rfl⟩
  rw [← eH, ← elocs] at hG
  rw [← eH, ← elocs]
  clear eH elocs
  unfold mX0_longest_40 at hM
  refine lv_aload_n hx hb dX0_longest_0 rfl (lv_at hl 0 rfl) ?_
  refine m_get S hG 40 40 0 rfl ec_40 cpX0 wm_403 dX0_longest_1 rfl (Nat.lt_of_lt_of_le (Nat.le_of_ble_eq_true rfl) hn) (by decide) ?_
  refine m_get S hG 2 2 6 rfl ec_2 cpX2 wm_245 dX0_longest_4 rfl (Nat.lt_of_lt_of_le (Nat.le_of_ble_eq_true rfl) hn) (by decide) ?_
  refine lv_iload_n hx hb dX0_longest_7 rfl (lv_at hl 1 rfl) ?_
  obtain ⟨hg_1, hM⟩ := gd_some hM
  refine mi_ald S hG 4 4 rfl ec_4 (Nat.lt_of_lt_of_le (Nat.le_of_ble_eq_true rfl) hn) dX0_longest_8 hg_1 (by decide) ?_
  obtain ⟨hg_2, hM⟩ := gd_some hM
  refine gi_if_ne (tgt := 22) hx hb dX0_longest_9 (by decide) hg_2 (fun c_3 => ?_) (fun c_3 => ?_)
  · replace hM := ifn hM c_3
    refine lv_aload_n hx hb dX0_longest_22 rfl (lv_at hl 0 rfl) ?_
    refine m_get S hG 40 40 0 rfl ec_40 cpX0 wm_403 dX0_longest_23 rfl (Nat.lt_of_lt_of_le (Nat.le_of_ble_eq_true rfl) hn) (by decide) ?_
    refine m_get S hG 2 2 6 rfl ec_2 cpX2 wm_245 dX0_longest_26 rfl (Nat.lt_of_lt_of_le (Nat.le_of_ble_eq_true rfl) hn) (by decide) ?_
    refine lv_iload_n hx hb dX0_longest_29 rfl (lv_at hl 1 rfl) ?_
    refine mi_ald S hG 4 4 rfl ec_4 (Nat.lt_of_lt_of_le (Nat.le_of_ble_eq_true rfl) hn) dX0_longest_30 hg_1 (by decide) ?_
    cases hM
    exact g_iret S hr hlk hG hsz dX0_longest_31 ⟨Nat.le_of_ble_eq_true rfl, Nat.le_of_ble_eq_true rfl⟩ ⟨rfl, rfl⟩
  · replace hM := ifp hM c_3
    refine lv_aload_n hx hb dX0_longest_12 rfl (lv_at hl 0 rfl) ?_
    refine m_get S hG 40 40 0 rfl ec_40 cpX0 wm_403 dX0_longest_13 rfl (Nat.lt_of_lt_of_le (Nat.le_of_ble_eq_true rfl) hn) (by decide) ?_
    refine m_get S hG 2 2 0 rfl ec_2 cpX2 wm_213 dX0_longest_16 rfl (Nat.lt_of_lt_of_le (Nat.le_of_ble_eq_true rfl) hn) (by decide) ?_
    refine lv_goto (tgt := 31) hx hb dX0_longest_19 (by decide) ?_
    cases hM
    exact g_iret S hr hlk hG hsz dX0_longest_31 ⟨Nat.le_of_ble_eq_true rfl, Nat.le_of_ble_eq_true rfl⟩ ⟨rfl, rfl⟩
theorem wV_0_101 : gWV "GrownKinds$Census" 101 yX0_rowsOf cX0_rowsOf 5 (some .long) := ⟨wm_1040, wm_1042, wm_41, wm_181, wm_1043, by decide +kernel, by decide +kernel⟩
def mX0_rowsOf_40 (S0 : St) (a1 : Int) (a2 : Int) (a3 : Int) (a4 : Int) : Option (Int) := gd (inI a2) <| if a2 = 1 then (gd (0 ≤ a1 ∧ a1 < 24) <| gd (0 ≤ ((((S0 5 a1) * 64) + (a3 * 8)) + a4) ∧ ((((S0 5 a1) * 64) + (a3 * 8)) + a4) < 1536) <| some ((S0 41 ((((S0 5 a1) * 64) + (a3 * 8)) + a4)))) else (gd (0 ≤ ((((a1 * 512) + (a2 * 64)) + (a3 * 8)) + a4) ∧ ((((a1 * 512) + (a2 * 64)) + (a3 * 8)) + a4) < 12288) <| some ((S0 44 ((((a1 * 512) + (a2 * 64)) + (a3 * 8)) + a4))))
set_option maxHeartbeats 4000000 in
set_option maxRecDepth 100000 in
theorem vX0_rowsOf_40 (l : Launch) {D : va_G} {cy : Nat → ClassId} {b n : Nat} (hn : 102 ≤ n) {X : Nat → va_E} {S0 : St} (a1 : Int) (a2 : Int) (a3 : Int) (a4 : Int) {o1 : Int} (hM : mX0_rowsOf_40 S0 a1 a2 a3 a4 = some o1) : gL l yX0_rowsOf cX0_rowsOf 5 0 0 0 D cy b n (enc b cy X S0) [.ref (b + 40), .int (iI a1), .int (iI a2), .int (iI a3), .int (iI a4)] (fun r u => r = jJ o1 ∧ u = (n, enc b cy X S0)) := by
  refine gL_of (by decide) (Nat.le_of_ble_eq_true rfl) ?_
  intro p e s m args below meth c S hr hlk hin hsz ls hl hG
  have hx := S.1
  have hb := S.2.1
  have hl : lv_has ls 5 [(0, .ref (b + 40)), (1, .int (iI a1)), (2, .int (iI a2)), (3, .int (iI a3)), (4, .int (iI a4))] := hl
  replace hG : gW D cy b n s s.heap [] (enc b cy X S0) := hG
  obtain ⟨H, eH⟩ : ∃ H, H = s.heap := ⟨_, rfl⟩
  obtain ⟨locs, elocs⟩ : ∃ locs : List Loc, locs = [] := ⟨_, rfl⟩
  rw [← eH, ← elocs] at hG
  rw [← eH, ← elocs]
  clear eH elocs
  unfold mX0_rowsOf_40 at hM
  refine lv_iload_n hx hb dX0_rowsOf_0 rfl (lv_at hl 2 rfl) ?_
  refine lv_iconst (v := iI 1) hx hb dX0_rowsOf_1 (by decide) ?_
  obtain ⟨hg_1, hM⟩ := gd_some hM
  refine gi_icmp_ne (tgt := 31) hx hb dX0_rowsOf_2 (by decide) hg_1 (by decide) (fun c_2 => ?_) (fun c_2 => ?_)
  · replace hM := ifn hM c_2
    refine lv_aload_n hx hb dX0_rowsOf_31 rfl (lv_at hl 0 rfl) ?_
    refine m_get S hG 40 40 5 rfl ec_40 cpX0 wm_408 dX0_rowsOf_32 rfl (Nat.lt_of_lt_of_le (Nat.le_of_ble_eq_true rfl) hn) (by decide) ?_
    refine lv_iload_n hx hb dX0_rowsOf_35 rfl (lv_at hl 1 rfl) ?_
    refine lv_sipush (v := iI 512) hx hb dX0_rowsOf_36 (by decide) ?_
    refine gi_mul hx hb dX0_rowsOf_39 ?_
    refine lv_iload_n hx hb dX0_rowsOf_40 rfl (lv_at hl 2 rfl) ?_
    refine lv_bipush (v := iI 64) hx hb dX0_rowsOf_41 (by decide) ?_
    refine gi_mul hx hb dX0_rowsOf_43 ?_
    refine gi_add hx hb dX0_rowsOf_44 ?_
    refine lv_iload_n hx hb dX0_rowsOf_45 rfl (lv_at hl 3 rfl) ?_
    refine lv_bipush (v := iI 8) hx hb dX0_rowsOf_46 (by decide) ?_
    refine gi_mul hx hb dX0_rowsOf_48 ?_
    refine gi_add hx hb dX0_rowsOf_49 ?_
    refine lv_iload hx hb dX0_rowsOf_50 (lv_at hl 4 rfl) ?_
    refine gi_add hx hb dX0_rowsOf_52 ?_
    obtain ⟨hg_3, hM⟩ := gd_some hM
    refine mj_ald S hG 44 44 rfl ec_44 (Nat.lt_of_lt_of_le (Nat.le_of_ble_eq_true rfl) hn) dX0_rowsOf_53 hg_3 (by decide) ?_
    cases hM
    exact g_lret S hr hlk hG hsz dX0_rowsOf_54 ⟨Nat.le_of_ble_eq_true rfl, Nat.le_of_ble_eq_true rfl⟩ ⟨rfl, rfl⟩
  · replace hM := ifp hM c_2
    refine lv_aload_n hx hb dX0_rowsOf_5 rfl (lv_at hl 0 rfl) ?_
    refine m_get S hG 40 40 2 rfl ec_40 cpX0 wm_405 dX0_rowsOf_6 rfl (Nat.lt_of_lt_of_le (Nat.le_of_ble_eq_true rfl) hn) (by decide) ?_
    refine lv_aload_n hx hb dX0_rowsOf_9 rfl (lv_at hl 0 rfl) ?_
    refine m_get S hG 40 40 0 rfl ec_40 cpX0 wm_403 dX0_rowsOf_10 rfl (Nat.lt_of_lt_of_le (Nat.le_of_ble_eq_true rfl) hn) (by decide) ?_
    refine m_get S hG 2 2 7 rfl ec_2 cpX2 wm_252 dX0_rowsOf_13 rfl (Nat.lt_of_lt_of_le (Nat.le_of_ble_eq_true rfl) hn) (by decide) ?_
    refine lv_iload_n hx hb dX0_rowsOf_16 rfl (lv_at hl 1 rfl) ?_
    obtain ⟨hg_4, hM⟩ := gd_some hM
    refine mi_ald S hG 5 5 rfl ec_5 (Nat.lt_of_lt_of_le (Nat.le_of_ble_eq_true rfl) hn) dX0_rowsOf_17 hg_4 (by decide) ?_
    refine lv_bipush (v := iI 64) hx hb dX0_rowsOf_18 (by decide) ?_
    refine gi_mul hx hb dX0_rowsOf_20 ?_
    refine lv_iload_n hx hb dX0_rowsOf_21 rfl (lv_at hl 3 rfl) ?_
    refine lv_bipush (v := iI 8) hx hb dX0_rowsOf_22 (by decide) ?_
    refine gi_mul hx hb dX0_rowsOf_24 ?_
    refine gi_add hx hb dX0_rowsOf_25 ?_
    refine lv_iload hx hb dX0_rowsOf_26 (lv_at hl 4 rfl) ?_
    refine gi_add hx hb dX0_rowsOf_28 ?_
    obtain ⟨hg_5, hM⟩ := gd_some hM
    refine mj_ald S hG 41 41 rfl ec_41 (Nat.lt_of_lt_of_le (Nat.le_of_ble_eq_true rfl) hn) dX0_rowsOf_29 hg_5 (by decide) ?_
    cases hM
    exact g_lret S hr hlk hG hsz dX0_rowsOf_30 ⟨Nat.le_of_ble_eq_true rfl, Nat.le_of_ble_eq_true rfl⟩ ⟨rfl, rfl⟩
def mX0_growRows_40_80 (r_42 : Int) (v_25 : Int) (v_15 : Int) (x_14 : Int) (v_1 : Int) (a1 : Int) (a2 : Int) : Nat → Int → St → Option (St)
  | 0, _, _ => none
  | f + 1, v_43, S_44 => gd (inL r_42) <| if r_42 ≤ 0 then (some (S_44)) else (bd1 (mX0_letterTop_40 S_44 (a2 - v_15)) fun r_54 => gd ((inI v_43) ∧ (inI r_54)) <| if r_54 < v_43 then (some (S_44)) else (bd1 (mX0_rowsOf_40 S_44 a1 (v_1 - 1) (a2 - v_15) v_43) fun r_58 => gd (0 ≤ ((x_14 + v_25) + v_43) ∧ ((x_14 + v_25) + v_43) < 12288) <| bd1 (mX11_times r_42 r_58) fun r_61 => bd1 (mX11_plus (S_44 44 ((x_14 + v_25) + v_43)) r_61) fun r_63 => nx (up S_44 44 ((x_14 + v_25) + v_43) r_63) fun S_64 => mX0_growRows_40_80 r_42 v_25 v_15 x_14 v_1 a1 a2 f (v_43 + 1) S_64))
def mX0_growRows_40_44 (v_15 : Int) (x_14 : Int) (v_1 : Int) (a1 : Int) (a2 : Int) : Nat → Int → St → Option (St)
  | 0, _, _ => none
  | f + 1, v_25, S_26 => bd1 (mX0_letterTop_40 S_26 v_15) fun r_34 => gd ((inI v_25) ∧ (inI r_34)) <| if r_34 < v_25 then (some (S_26)) else (bd1 (mX0_rowsOf_40 S_26 a1 1 v_15 v_25) fun r_38 => bd1 (mX0_weight_40 S_26 a2 v_15) fun r_40 => bd1 (mX11_times r_38 r_40) fun r_42 => bd1 (mX0_growRows_40_80 r_42 v_25 v_15 x_14 v_1 a1 a2 FU 0 S_26) fun S_45 => mX0_growRows_40_44 v_15 x_14 v_1 a1 a2 f (v_25 + 1) S_45)
def mX0_growRows_40_35 (x_14 : Int) (v_1 : Int) (a1 : Int) (a2 : Int) : Nat → Int → St → Option (St)
  | 0, _, _ => none
  | f + 1, v_15, S_16 => gd (inI v_15) <| if a2 ≤ v_15 then (some (S_16)) else (bd1 (mX0_growRows_40_44 v_15 x_14 v_1 a1 a2 FU 0 S_16) fun S_27 => mX0_growRows_40_35 x_14 v_1 a1 a2 f (v_15 + 1) S_27)
def mX0_growRows_40_2 (a1 : Int) (a2 : Int) : Nat → Int → St → Option (St)
  | 0, _, _ => none
  | f + 1, v_1, S_2 => bd1 (mX0_longest_40 S_2 a1) fun r_10 => gd ((inI a2) ∧ (inI r_10)) <| gd ((inI v_1) ∧ (inI (min a2 r_10))) <| if (min a2 r_10) < v_1 then (some (S_2)) else (nx (((a1 * 512) + (v_1 * 64)) + (a2 * 8)) fun x_14 => bd1 (mX0_growRows_40_35 x_14 v_1 a1 a2 FU 1 S_2) fun S_17 => mX0_growRows_40_2 a1 a2 f (v_1 + 1) S_17)
def mX0_growRows_40 (S0 : St) (a1 : Int) (a2 : Int) : Option (St) := bd1 (mX0_growRows_40_2 a1 a2 FU 2 S0) fun S_3 => some (S_3)
set_option maxHeartbeats 4000000 in
set_option maxRecDepth 100000 in
theorem vX0_growRows_40 (l : Launch) {D : va_G} {cy : Nat → ClassId} {b n : Nat} (hn : 102 ≤ n) {X : Nat → va_E} {S0 : St} (a1 : Int) (a2 : Int) {o1 : St} (hM : mX0_growRows_40 S0 a1 a2 = some o1) : gV l yX0_growRows cX0_growRows 12 1 0 0 D cy b n (enc b cy X S0) [.ref (b + 40), .int (iI a1), .int (iI a2)] (fun u => u = (n, enc b cy X o1)) := by
  refine gV_of (by decide) (Nat.le_of_ble_eq_true rfl) ?_
  intro p e s m args below meth c S hr hlk hin hsz ls hl hG
  have hx := S.1
  have hb := S.2.1
  have hl : lv_has ls 12 [(0, .ref (b + 40)), (1, .int (iI a1)), (2, .int (iI a2))] := hl
  replace hG : gW D cy b n s s.heap [] (enc b cy X S0) := hG
  obtain ⟨H, eH⟩ : ∃ H, H = s.heap := ⟨_, rfl⟩
  obtain ⟨locs, elocs⟩ : ∃ locs : List Loc, locs = [] := ⟨_, rfl⟩
  rw [← eH, ← elocs] at hG
  rw [← eH, ← elocs]
  clear eH elocs
  unfold mX0_growRows_40 at hM
  refine lv_iconst (v := iI 2) hx hb dX0_growRows_0 (by decide) ?_
  refine lv_istore_n (lv' := [(3, .int (iI 2)), (0, .ref (b + 40)), (1, .int (iI a1)), (2, .int (iI a2))]) hx hb dX0_growRows_1 rfl hl (by decide) rfl (fun ls hl => ?_)
  obtain ⟨S_3, hc_4, hM⟩ := bd1_some hM
  have hK_5 : ∀ (H : Heap) (locs : List Loc) (ls : Array Slot), gW D cy b n s H locs (enc b cy X S_3) → lv_has ls 12 [] → W p l e (gRm 1 0 0) s m args below meth c H locs 0 0 (gQV D cy b s args below 0 0 (fun u => u = (n, enc b cy X o1))) (F0 m 176 ls []) := by
    intro H locs ls hG hl
    cases hM
    exact g_vret S hr hlk hG hsz dX0_growRows_176 ⟨Nat.le_of_ble_eq_true rfl, Nat.le_of_ble_eq_true rfl⟩ rfl
  have loop_6 : ∀ (f : Nat) (v_1 : Int) (S_2 : St) (H : Heap) (locs : List Loc) (ls : Array Slot), mX0_growRows_40_2 a1 a2 f v_1 S_2 = some S_3 → gW D cy b n s H locs (enc b cy X S_2) → lv_has ls 12 [(3, .int (iI v_1)), (0, .ref (b + 40)), (1, .int (iI a1)), (2, .int (iI a2))] → W p l e (gRm 1 0 0) s m args below meth c H locs 0 0 (gQV D cy b s args below 0 0 (fun u => u = (n, enc b cy X o1))) (F0 m 2 ls []) := by
    clear hM
    intro f
    induction f with
    | zero => intro v_1 S_2 H locs ls hM; rw [mX0_growRows_40_2] at hM; cases hM
    | succ f_8 ih_7 =>
      intro v_1 S_2 H locs ls hM hG hl
      rw [mX0_growRows_40_2] at hM
      refine lv_iload_n hx hb dX0_growRows_2 rfl (lv_at hl 0 rfl) ?_
      refine lv_iload_n hx hb dX0_growRows_3 rfl (lv_at hl 3 rfl) ?_
      refine lv_aload_n hx hb dX0_growRows_4 rfl (lv_at hl 1 rfl) ?_
      refine lv_iload_n hx hb dX0_growRows_5 rfl (lv_at hl 2 rfl) ?_
      obtain ⟨r_10, hc_9, hM⟩ := bd1_some hM
      refine g_vi (As := [.int (iI a1)]) (rest := [.int (iI a2), .int (iI v_1)]) S hG hsz (vX0_longest_40 l hn a1 hc_9) wV_0_176 (ec_40 _) cpX0 (Nat.lt_of_lt_of_le (Nat.le_of_ble_eq_true rfl) hn) dX0_growRows_6 rfl hl.1 (ar := 1) (by decide +kernel) rfl ⟨Nat.le_of_ble_eq_true rfl, Nat.le_of_ble_eq_true rfl, Nat.le_of_ble_eq_true rfl, Nat.le_of_ble_eq_true rfl⟩ (Nat.le_of_ble_eq_true rfl) (fun rv uu H locs hp hG => ?_)
      obtain ⟨rfl, rfl⟩ := hp
      replace hG : gW D cy b n s H locs (enc b cy X S_2) := hG
      obtain ⟨hg_11, hM⟩ := gd_some hM
      refine gi_min S wm_1051 wm_761 wm_190 wm_762 hl.1 dX0_growRows_9 ⟨Nat.le_of_ble_eq_true rfl, Nat.le_of_ble_eq_true rfl, Nat.le_of_ble_eq_true rfl, Nat.le_of_ble_eq_true rfl⟩ hg_11.1 hg_11.2 ?_
      obtain ⟨hg_12, hM⟩ := gd_some hM
      refine gi_icmp_gt (tgt := 176) hx hb dX0_growRows_12 (by decide) hg_12.1 hg_12.2 (fun c_13 => ?_) (fun c_13 => ?_)
      · replace hM := ifp hM c_13
        cases hM
        exact hK_5 H locs ls hG (lv_sub hl [] rfl)
      · replace hM := ifn hM c_13
        refine lv_iload_n hx hb dX0_growRows_15 rfl (lv_at hl 2 rfl) ?_
        refine lv_sipush (v := iI 512) hx hb dX0_growRows_16 (by decide) ?_
        refine gi_mul hx hb dX0_growRows_19 ?_
        refine lv_iload_n hx hb dX0_growRows_20 rfl (lv_at hl 0 rfl) ?_
        refine lv_bipush (v := iI 64) hx hb dX0_growRows_21 (by decide) ?_
        refine gi_mul hx hb dX0_growRows_23 ?_
        refine gi_add hx hb dX0_growRows_24 ?_
        refine lv_iload_n hx hb dX0_growRows_25 rfl (lv_at hl 3 rfl) ?_
        refine lv_bipush (v := iI 8) hx hb dX0_growRows_26 (by decide) ?_
        refine gi_mul hx hb dX0_growRows_28 ?_
        refine gi_add hx hb dX0_growRows_29 ?_
        refine gi_nm (fun x_14 ex_14 => ?_)
        replace hM := nx_at hM ex_14
        clear ex_14
        refine lv_istore (lv' := [(4, .int (iI x_14)), (3, .int (iI v_1)), (0, .ref (b + 40)), (1, .int (iI a1)), (2, .int (iI a2))]) hx hb dX0_growRows_30 hl (by decide) rfl (fun ls hl => ?_)
        refine lv_iconst (v := iI 1) hx hb dX0_growRows_32 (by decide) ?_
        refine lv_istore (lv' := [(5, .int (iI 1)), (4, .int (iI x_14)), (3, .int (iI v_1)), (0, .ref (b + 40)), (1, .int (iI a1)), (2, .int (iI a2))]) hx hb dX0_growRows_33 hl (by decide) rfl (fun ls hl => ?_)
        obtain ⟨S_17, hc_18, hM⟩ := bd1_some hM
        have hK_19 : ∀ (H : Heap) (locs : List Loc) (ls : Array Slot), gW D cy b n s H locs (enc b cy X S_17) → lv_has ls 12 [(3, .int (iI v_1)), (0, .ref (b + 40)), (1, .int (iI a1)), (2, .int (iI a2))] → W p l e (gRm 1 0 0) s m args below meth c H locs 0 0 (gQV D cy b s args below 0 0 (fun u => u = (n, enc b cy X o1))) (F0 m 170 ls []) := by
          intro H locs ls hG hl
          refine lv_iinc (v := iI (v_1 + 1)) (lv' := [(3, .int (iI (v_1 + 1))), (0, .ref (b + 40)), (1, .int (iI a1)), (2, .int (iI a2))]) hx hb dX0_growRows_170 hl (k := 0) rfl ((iI_add v_1 (1)).trans (congrArg iI (by omega))) (by decide) rfl (fun ls hl => ?_)
          refine lv_goto (tgt := 2) hx hb dX0_growRows_173 (by decide) ?_
          exact ih_7 (v_1 + 1) S_17 H locs ls hM hG (lv_sub hl [0, 1, 2, 3] rfl)
        have loop_20 : ∀ (f : Nat) (v_15 : Int) (S_16 : St) (H : Heap) (locs : List Loc) (ls : Array Slot), mX0_growRows_40_35 x_14 v_1 a1 a2 f v_15 S_16 = some S_17 → gW D cy b n s H locs (enc b cy X S_16) → lv_has ls 12 [(5, .int (iI v_15)), (4, .int (iI x_14)), (3, .int (iI v_1)), (0, .ref (b + 40)), (1, .int (iI a1)), (2, .int (iI a2))] → W p l e (gRm 1 0 0) s m args below meth c H locs 0 0 (gQV D cy b s args below 0 0 (fun u => u = (n, enc b cy X o1))) (F0 m 35 ls []) := by
          clear hM
          intro f
          induction f with
          | zero => intro v_15 S_16 H locs ls hM; rw [mX0_growRows_40_35] at hM; cases hM
          | succ f_22 ih_21 =>
            intro v_15 S_16 H locs ls hM hG hl
            rw [mX0_growRows_40_35] at hM
            refine lv_iload hx hb dX0_growRows_35 (lv_at hl 0 rfl) ?_
            refine lv_iload_n hx hb dX0_growRows_37 rfl (lv_at hl 5 rfl) ?_
            obtain ⟨hg_23, hM⟩ := gd_some hM
            refine gi_icmp_ge (tgt := 170) hx hb dX0_growRows_38 (by decide) hg_23 hg_11.1 (fun c_24 => ?_) (fun c_24 => ?_)
            · replace hM := ifp hM c_24
              cases hM
              exact hK_19 H locs ls hG (lv_sub hl [2, 3, 4, 5] rfl)
            · replace hM := ifn hM c_24
              refine lv_iconst (v := iI 0) hx hb dX0_growRows_41 (by decide) ?_
              refine lv_istore (lv' := [(6, .int (iI 0)), (5, .int (iI v_15)), (4, .int (iI x_14)), (3, .int (iI v_1)), (0, .ref (b + 40)), (1, .int (iI a1)), (2, .int (iI a2))]) hx hb dX0_growRows_42 hl (by decide) rfl (fun ls hl => ?_)
              obtain ⟨S_27, hc_28, hM⟩ := bd1_some hM
              have hK_29 : ∀ (H : Heap) (locs : List Loc) (ls : Array Slot), gW D cy b n s H locs (enc b cy X S_27) → lv_has ls 12 [(5, .int (iI v_15)), (4, .int (iI x_14)), (3, .int (iI v_1)), (0, .ref (b + 40)), (1, .int (iI a1)), (2, .int (iI a2))] → W p l e (gRm 1 0 0) s m args below meth c H locs 0 0 (gQV D cy b s args below 0 0 (fun u => u = (n, enc b cy X o1))) (F0 m 164 ls []) := by
                intro H locs ls hG hl
                refine lv_iinc (v := iI (v_15 + 1)) (lv' := [(5, .int (iI (v_15 + 1))), (4, .int (iI x_14)), (3, .int (iI v_1)), (0, .ref (b + 40)), (1, .int (iI a1)), (2, .int (iI a2))]) hx hb dX0_growRows_164 hl (k := 0) rfl ((iI_add v_15 (1)).trans (congrArg iI (by omega))) (by decide) rfl (fun ls hl => ?_)
                refine lv_goto (tgt := 35) hx hb dX0_growRows_167 (by decide) ?_
                exact ih_21 (v_15 + 1) S_27 H locs ls hM hG (lv_sub hl [0, 1, 2, 3, 4, 5] rfl)
              have loop_30 : ∀ (f : Nat) (v_25 : Int) (S_26 : St) (H : Heap) (locs : List Loc) (ls : Array Slot), mX0_growRows_40_44 v_15 x_14 v_1 a1 a2 f v_25 S_26 = some S_27 → gW D cy b n s H locs (enc b cy X S_26) → lv_has ls 12 [(6, .int (iI v_25)), (5, .int (iI v_15)), (4, .int (iI x_14)), (3, .int (iI v_1)), (0, .ref (b + 40)), (1, .int (iI a1)), (2, .int (iI a2))] → W p l e (gRm 1 0 0) s m args below meth c H locs 0 0 (gQV D cy b s args below 0 0 (fun u => u = (n, enc b cy X o1))) (F0 m 44 ls []) := by
                clear hM
                intro f
                induction f with
                | zero => intro v_25 S_26 H locs ls hM; rw [mX0_growRows_40_44] at hM; cases hM
                | succ f_32 ih_31 =>
                  intro v_25 S_26 H locs ls hM hG hl
                  rw [mX0_growRows_40_44] at hM
                  refine lv_iload hx hb dX0_growRows_44 (lv_at hl 0 rfl) ?_
                  refine lv_aload_n hx hb dX0_growRows_46 rfl (lv_at hl 4 rfl) ?_
                  refine lv_iload hx hb dX0_growRows_47 (lv_at hl 1 rfl) ?_
                  obtain ⟨r_34, hc_33, hM⟩ := bd1_some hM
                  refine g_vi (As := [.int (iI v_15)]) (rest := [.int (iI v_25)]) S hG hsz (vX0_letterTop_40 l hn v_15 hc_33) wV_0_108 (ec_40 _) cpX0 (Nat.lt_of_lt_of_le (Nat.le_of_ble_eq_true rfl) hn) dX0_growRows_49 rfl hl.1 (ar := 1) (by decide +kernel) rfl ⟨Nat.le_of_ble_eq_true rfl, Nat.le_of_ble_eq_true rfl, Nat.le_of_ble_eq_true rfl, Nat.le_of_ble_eq_true rfl⟩ (Nat.le_of_ble_eq_true rfl) (fun rv uu H locs hp hG => ?_)
                  obtain ⟨rfl, rfl⟩ := hp
                  replace hG : gW D cy b n s H locs (enc b cy X S_26) := hG
                  obtain ⟨hg_35, hM⟩ := gd_some hM
                  refine gi_icmp_gt (tgt := 164) hx hb dX0_growRows_52 (by decide) hg_35.1 hg_35.2 (fun c_36 => ?_) (fun c_36 => ?_)
                  · replace hM := ifp hM c_36
                    cases hM
                    exact hK_29 H locs ls hG (lv_sub hl [1, 2, 3, 4, 5, 6] rfl)
                  · replace hM := ifn hM c_36
                    refine lv_aload_n hx hb dX0_growRows_55 rfl (lv_at hl 4 rfl) ?_
                    refine lv_iload_n hx hb dX0_growRows_56 rfl (lv_at hl 5 rfl) ?_
                    refine lv_iconst (v := iI 1) hx hb dX0_growRows_57 (by decide) ?_
                    refine lv_iload hx hb dX0_growRows_58 (lv_at hl 1 rfl) ?_
                    refine lv_iload hx hb dX0_growRows_60 (lv_at hl 0 rfl) ?_
                    obtain ⟨r_38, hc_37, hM⟩ := bd1_some hM
                    refine g_vl (As := [.int (iI a1), .int (iI 1), .int (iI v_15), .int (iI v_25)]) (rest := []) S hG hsz (vX0_rowsOf_40 l hn a1 1 v_15 v_25 hc_37) wV_0_101 (ec_40 _) cpX0 (Nat.lt_of_lt_of_le (Nat.le_of_ble_eq_true rfl) hn) dX0_growRows_62 rfl hl.1 (ar := 4) (by decide +kernel) rfl ⟨Nat.le_of_ble_eq_true rfl, Nat.le_of_ble_eq_true rfl, Nat.le_of_ble_eq_true rfl, Nat.le_of_ble_eq_true rfl⟩ (Nat.le_of_ble_eq_true rfl) (fun rv uu H locs hp hG => ?_)
                    obtain ⟨rfl, rfl⟩ := hp
                    replace hG : gW D cy b n s H locs (enc b cy X S_26) := hG
                    refine lv_aload_n hx hb dX0_growRows_65 rfl (lv_at hl 4 rfl) ?_
                    refine lv_iload_n hx hb dX0_growRows_66 rfl (lv_at hl 6 rfl) ?_
                    refine lv_iload hx hb dX0_growRows_67 (lv_at hl 1 rfl) ?_
                    obtain ⟨r_40, hc_39, hM⟩ := bd1_some hM
                    refine g_vl (As := [.int (iI a2), .int (iI v_15)]) (rest := [.long (jJ r_38)]) S hG hsz (vX0_weight_40 l hn a2 v_15 hc_39) wV_0_139 (ec_40 _) cpX0 (Nat.lt_of_lt_of_le (Nat.le_of_ble_eq_true rfl) hn) dX0_growRows_69 rfl hl.1 (ar := 2) (by decide +kernel) rfl ⟨Nat.le_of_ble_eq_true rfl, Nat.le_of_ble_eq_true rfl, Nat.le_of_ble_eq_true rfl, Nat.le_of_ble_eq_true rfl⟩ (Nat.le_of_ble_eq_true rfl) (fun rv uu H locs hp hG => ?_)
                    obtain ⟨rfl, rfl⟩ := hp
                    replace hG : gW D cy b n s H locs (enc b cy X S_26) := hG
                    obtain ⟨r_42, hc_41, hM⟩ := bd1_some hM
                    refine g_slN (As := [.long (jJ r_38), .long (jJ r_40)]) (rest := []) S hG hsz (vX11_times l hn r_38 r_40 hc_41) (y := yX11_times) (host := "GrownKinds") (by decide +kernel) ⟨wm_1053, wm_177, wm_1054, by decide +kernel, by decide +kernel⟩ dX0_growRows_72 rfl hl.1 (ar := 2) (by decide +kernel) rfl ⟨Nat.le_of_ble_eq_true rfl, Nat.le_of_ble_eq_true rfl, Nat.le_of_ble_eq_true rfl, Nat.le_of_ble_eq_true rfl⟩ (Nat.le_of_ble_eq_true rfl) (fun rv uu H locs hp hG => ?_)
                    obtain ⟨rfl, rfl⟩ := hp
                    replace hG : gW D cy b n s H locs (enc b cy X S_26) := hG
                    refine lv_lstore (lv' := [(7, .long (jJ r_42)), (6, .int (iI v_25)), (5, .int (iI v_15)), (4, .int (iI x_14)), (3, .int (iI v_1)), (0, .ref (b + 40)), (1, .int (iI a1)), (2, .int (iI a2))]) hx hb dX0_growRows_75 hl (by decide) rfl (fun ls hl => ?_)
                    refine lv_iconst (v := iI 0) hx hb dX0_growRows_77 (by decide) ?_
                    refine lv_istore (lv' := [(9, .int (iI 0)), (7, .long (jJ r_42)), (6, .int (iI v_25)), (5, .int (iI v_15)), (4, .int (iI x_14)), (3, .int (iI v_1)), (0, .ref (b + 40)), (1, .int (iI a1)), (2, .int (iI a2))]) hx hb dX0_growRows_78 hl (by decide) rfl (fun ls hl => ?_)
                    obtain ⟨S_45, hc_46, hM⟩ := bd1_some hM
                    have hK_47 : ∀ (H : Heap) (locs : List Loc) (ls : Array Slot), gW D cy b n s H locs (enc b cy X S_45) → lv_has ls 12 [(6, .int (iI v_25)), (5, .int (iI v_15)), (4, .int (iI x_14)), (3, .int (iI v_1)), (0, .ref (b + 40)), (1, .int (iI a1)), (2, .int (iI a2))] → W p l e (gRm 1 0 0) s m args below meth c H locs 0 0 (gQV D cy b s args below 0 0 (fun u => u = (n, enc b cy X o1))) (F0 m 158 ls []) := by
                      intro H locs ls hG hl
                      refine lv_iinc (v := iI (v_25 + 1)) (lv' := [(6, .int (iI (v_25 + 1))), (5, .int (iI v_15)), (4, .int (iI x_14)), (3, .int (iI v_1)), (0, .ref (b + 40)), (1, .int (iI a1)), (2, .int (iI a2))]) hx hb dX0_growRows_158 hl (k := 0) rfl ((iI_add v_25 (1)).trans (congrArg iI (by omega))) (by decide) rfl (fun ls hl => ?_)
                      refine lv_goto (tgt := 44) hx hb dX0_growRows_161 (by decide) ?_
                      exact ih_31 (v_25 + 1) S_45 H locs ls hM hG (lv_sub hl [0, 1, 2, 3, 4, 5, 6] rfl)
                    have loop_48 : ∀ (f : Nat) (v_43 : Int) (S_44 : St) (H : Heap) (locs : List Loc) (ls : Array Slot), mX0_growRows_40_80 r_42 v_25 v_15 x_14 v_1 a1 a2 f v_43 S_44 = some S_45 → gW D cy b n s H locs (enc b cy X S_44) → lv_has ls 12 [(9, .int (iI v_43)), (7, .long (jJ r_42)), (6, .int (iI v_25)), (5, .int (iI v_15)), (4, .int (iI x_14)), (3, .int (iI v_1)), (0, .ref (b + 40)), (1, .int (iI a1)), (2, .int (iI a2))] → W p l e (gRm 1 0 0) s m args below meth c H locs 0 0 (gQV D cy b s args below 0 0 (fun u => u = (n, enc b cy X o1))) (F0 m 80 ls []) := by
                      clear hM
                      intro f
                      induction f with
                      | zero => intro v_43 S_44 H locs ls hM; rw [mX0_growRows_40_80] at hM; cases hM
                      | succ f_50 ih_49 =>
                        intro v_43 S_44 H locs ls hM hG hl
                        rw [mX0_growRows_40_80] at hM
                        refine lv_lload hx hb dX0_growRows_80 (lv_at hl 1 rfl) ?_
                        refine lv_lconst (v := jJ 0) hx hb dX0_growRows_82 (by decide) ?_
                        obtain ⟨hg_51, hM⟩ := gd_some hM
                        refine gj_cmp_le (tgt := 158) hx hb dX0_growRows_83 dX0_growRows_84 (by decide) hg_51 (by decide) (fun c_52 => ?_) (fun c_52 => ?_)
                        · replace hM := ifp hM c_52
                          cases hM
                          exact hK_47 H locs ls hG (lv_sub hl [2, 3, 4, 5, 6, 7, 8] rfl)
                        · replace hM := ifn hM c_52
                          refine lv_iload hx hb dX0_growRows_87 (lv_at hl 0 rfl) ?_
                          refine lv_aload_n hx hb dX0_growRows_89 rfl (lv_at hl 6 rfl) ?_
                          refine lv_iload_n hx hb dX0_growRows_90 rfl (lv_at hl 8 rfl) ?_
                          refine lv_iload hx hb dX0_growRows_91 (lv_at hl 3 rfl) ?_
                          refine gi_sub hx hb dX0_growRows_93 ?_
                          obtain ⟨r_54, hc_53, hM⟩ := bd1_some hM
                          refine g_vi (As := [.int (iI (a2 - v_15))]) (rest := [.int (iI v_43)]) S hG hsz (vX0_letterTop_40 l hn (a2 - v_15) hc_53) wV_0_108 (ec_40 _) cpX0 (Nat.lt_of_lt_of_le (Nat.le_of_ble_eq_true rfl) hn) dX0_growRows_94 rfl hl.1 (ar := 1) (by decide +kernel) rfl ⟨Nat.le_of_ble_eq_true rfl, Nat.le_of_ble_eq_true rfl, Nat.le_of_ble_eq_true rfl, Nat.le_of_ble_eq_true rfl⟩ (Nat.le_of_ble_eq_true rfl) (fun rv uu H locs hp hG => ?_)
                          obtain ⟨rfl, rfl⟩ := hp
                          replace hG : gW D cy b n s H locs (enc b cy X S_44) := hG
                          obtain ⟨hg_55, hM⟩ := gd_some hM
                          refine gi_icmp_gt (tgt := 158) hx hb dX0_growRows_97 (by decide) hg_55.1 hg_55.2 (fun c_56 => ?_) (fun c_56 => ?_)
                          · replace hM := ifp hM c_56
                            cases hM
                            exact hK_47 H locs ls hG (lv_sub hl [2, 3, 4, 5, 6, 7, 8] rfl)
                          · replace hM := ifn hM c_56
                            refine lv_aload_n hx hb dX0_growRows_100 rfl (lv_at hl 6 rfl) ?_
                            refine lv_iload_n hx hb dX0_growRows_101 rfl (lv_at hl 7 rfl) ?_
                            refine lv_iload_n hx hb dX0_growRows_102 rfl (lv_at hl 5 rfl) ?_
                            refine lv_iconst (v := iI 1) hx hb dX0_growRows_103 (by decide) ?_
                            refine gi_sub hx hb dX0_growRows_104 ?_
                            refine lv_iload_n hx hb dX0_growRows_105 rfl (lv_at hl 8 rfl) ?_
                            refine lv_iload hx hb dX0_growRows_106 (lv_at hl 3 rfl) ?_
                            refine gi_sub hx hb dX0_growRows_108 ?_
                            refine lv_iload hx hb dX0_growRows_109 (lv_at hl 0 rfl) ?_
                            obtain ⟨r_58, hc_57, hM⟩ := bd1_some hM
                            refine g_vl (As := [.int (iI a1), .int (iI (v_1 - 1)), .int (iI (a2 - v_15)), .int (iI v_43)]) (rest := []) S hG hsz (vX0_rowsOf_40 l hn a1 (v_1 - 1) (a2 - v_15) v_43 hc_57) wV_0_101 (ec_40 _) cpX0 (Nat.lt_of_lt_of_le (Nat.le_of_ble_eq_true rfl) hn) dX0_growRows_111 rfl hl.1 (ar := 4) (by decide +kernel) rfl ⟨Nat.le_of_ble_eq_true rfl, Nat.le_of_ble_eq_true rfl, Nat.le_of_ble_eq_true rfl, Nat.le_of_ble_eq_true rfl⟩ (Nat.le_of_ble_eq_true rfl) (fun rv uu H locs hp hG => ?_)
                            obtain ⟨rfl, rfl⟩ := hp
                            replace hG : gW D cy b n s H locs (enc b cy X S_44) := hG
                            refine lv_lstore (lv' := [(10, .long (jJ r_58)), (9, .int (iI v_43)), (7, .long (jJ r_42)), (6, .int (iI v_25)), (5, .int (iI v_15)), (4, .int (iI x_14)), (3, .int (iI v_1)), (0, .ref (b + 40)), (1, .int (iI a1)), (2, .int (iI a2))]) hx hb dX0_growRows_114 hl (by decide) rfl (fun ls hl => ?_)
                            refine lv_aload_n hx hb dX0_growRows_116 rfl (lv_at hl 7 rfl) ?_
                            refine m_get S hG 40 40 5 rfl ec_40 cpX0 wm_408 dX0_growRows_117 rfl (Nat.lt_of_lt_of_le (Nat.le_of_ble_eq_true rfl) hn) (by decide) ?_
                            refine lv_iload hx hb dX0_growRows_120 (lv_at hl 5 rfl) ?_
                            refine lv_iload hx hb dX0_growRows_122 (lv_at hl 3 rfl) ?_
                            refine gi_add hx hb dX0_growRows_124 ?_
                            refine lv_iload hx hb dX0_growRows_125 (lv_at hl 1 rfl) ?_
                            refine gi_add hx hb dX0_growRows_127 ?_
                            refine lv_aload_n hx hb dX0_growRows_128 rfl (lv_at hl 7 rfl) ?_
                            refine m_get S hG 40 40 5 rfl ec_40 cpX0 wm_408 dX0_growRows_129 rfl (Nat.lt_of_lt_of_le (Nat.le_of_ble_eq_true rfl) hn) (by decide) ?_
                            refine lv_iload hx hb dX0_growRows_132 (lv_at hl 5 rfl) ?_
                            refine lv_iload hx hb dX0_growRows_134 (lv_at hl 3 rfl) ?_
                            refine gi_add hx hb dX0_growRows_136 ?_
                            refine lv_iload hx hb dX0_growRows_137 (lv_at hl 1 rfl) ?_
                            refine gi_add hx hb dX0_growRows_139 ?_
                            obtain ⟨hg_59, hM⟩ := gd_some hM
                            refine mj_ald S hG 44 44 rfl ec_44 (Nat.lt_of_lt_of_le (Nat.le_of_ble_eq_true rfl) hn) dX0_growRows_140 hg_59 (by decide) ?_
                            refine lv_lload hx hb dX0_growRows_141 (lv_at hl 2 rfl) ?_
                            refine lv_lload hx hb dX0_growRows_143 (lv_at hl 0 rfl) ?_
                            obtain ⟨r_61, hc_60, hM⟩ := bd1_some hM
                            refine g_slN (As := [.long (jJ r_42), .long (jJ r_58)]) (rest := [.long (jJ (S_44 44 ((x_14 + v_25) + v_43))), .int (iI ((x_14 + v_25) + v_43)), .ref (b + 44)]) S hG hsz (vX11_times l hn r_42 r_58 hc_60) (y := yX11_times) (host := "GrownKinds") (by decide +kernel) ⟨wm_1053, wm_177, wm_1054, by decide +kernel, by decide +kernel⟩ dX0_growRows_145 rfl hl.1 (ar := 2) (by decide +kernel) rfl ⟨Nat.le_of_ble_eq_true rfl, Nat.le_of_ble_eq_true rfl, Nat.le_of_ble_eq_true rfl, Nat.le_of_ble_eq_true rfl⟩ (Nat.le_of_ble_eq_true rfl) (fun rv uu H locs hp hG => ?_)
                            obtain ⟨rfl, rfl⟩ := hp
                            replace hG : gW D cy b n s H locs (enc b cy X S_44) := hG
                            obtain ⟨r_63, hc_62, hM⟩ := bd1_some hM
                            refine g_slN (As := [.long (jJ (S_44 44 ((x_14 + v_25) + v_43))), .long (jJ r_61)]) (rest := [.int (iI ((x_14 + v_25) + v_43)), .ref (b + 44)]) S hG hsz (vX11_plus l hn (S_44 44 ((x_14 + v_25) + v_43)) r_61 hc_62) (y := yX11_plus) (host := "GrownKinds") (by decide +kernel) ⟨wm_997, wm_177, wm_998, by decide +kernel, by decide +kernel⟩ dX0_growRows_148 rfl hl.1 (ar := 2) (by decide +kernel) rfl ⟨Nat.le_of_ble_eq_true rfl, Nat.le_of_ble_eq_true rfl, Nat.le_of_ble_eq_true rfl, Nat.le_of_ble_eq_true rfl⟩ (Nat.le_of_ble_eq_true rfl) (fun rv uu H locs hp hG => ?_)
                            obtain ⟨rfl, rfl⟩ := hp
                            replace hG : gW D cy b n s H locs (enc b cy X S_44) := hG
                            refine mj_ast S hG 44 44 rfl ec_44 (Nat.lt_of_lt_of_le (Nat.le_of_ble_eq_true rfl) hn) dX0_growRows_151 hg_59 (by decide) (fun H locs S_64 eS_64 hG => ?_)
                            replace hM := nx_at hM eS_64
                            clear eS_64
                            refine lv_iinc (v := iI (v_43 + 1)) (lv' := [(9, .int (iI (v_43 + 1))), (10, .long (jJ r_58)), (7, .long (jJ r_42)), (6, .int (iI v_25)), (5, .int (iI v_15)), (4, .int (iI x_14)), (3, .int (iI v_1)), (0, .ref (b + 40)), (1, .int (iI a1)), (2, .int (iI a2))]) hx hb dX0_growRows_152 hl (k := 1) rfl ((iI_add v_43 (1)).trans (congrArg iI (by omega))) (by decide) rfl (fun ls hl => ?_)
                            refine lv_goto (tgt := 80) hx hb dX0_growRows_155 (by decide) ?_
                            exact ih_49 (v_43 + 1) S_64 H locs ls hM hG (lv_sub hl [0, 2, 3, 4, 5, 6, 7, 8, 9] rfl)
                    exact loop_48 FU 0 S_26 H locs ls hc_46 hG (lv_sub hl [0, 1, 2, 3, 4, 5, 6, 7, 8] rfl)
              exact loop_30 FU 0 S_16 H locs ls hc_28 hG (lv_sub hl [0, 1, 2, 3, 4, 5, 6] rfl)
        exact loop_20 FU 1 S_2 H locs ls hc_18 hG (lv_sub hl [0, 1, 2, 3, 4, 5] rfl)
  exact loop_6 FU 2 S0 H locs ls hc_4 hG (lv_sub hl [0, 1, 2, 3] rfl)
theorem wV_0_158 : gWV "GrownKinds$Census" 158 yX0_addClasses cX0_addClasses 7 none := ⟨wm_1036, wm_1038, wm_40, wm_181, wm_1039, by decide +kernel, by decide +kernel⟩
def mX11_picks_6 (a1 : Int) (a2 : Int) (a3 : Int) : Nat → Int → Int → Option (Int × Int)
  | 0, _, _ => none
  | f + 1, v_1, v_2 => gd ((inI v_1) ∧ (inI a2)) <| if a2 < v_1 then (some (2, v_2)) else (bd1 (gd (inI a3) <| if a3 = 0 then (some (((a1 + v_1) - 1))) else (some (((a1 - v_1) + 1)))) fun z_14 => gd (inL z_14) <| if 0 < z_14 then (gd (0 < z_14 ∧ z_14 ≤ 9223372036854775807) <| gd ((inL v_2) ∧ (inL (1000000000000000000 / z_14))) <| if v_2 ≤ (1000000000000000000 / z_14) then (gd ((0 ≤ (v_2 * z_14) ∧ (v_2 * z_14) ≤ 9223372036854775807) ∧ (0 < v_1 ∧ v_1 ≤ 9223372036854775807)) <| nx ((v_2 * z_14) / v_1) fun x_23 => mX11_picks_6 a1 a2 a3 f (v_1 + 1) x_23) else (some (1, v_2))) else (some (0, v_2)))
def mX11_picks (a1 : Int) (a2 : Int) (a3 : Int) : Option (Int) := bd2 (mX11_picks_6 a1 a2 a3 FU 1 1) fun t_3 y_4 => if t_3 = 0 then (some (0)) else (if t_3 = 1 then (some (1000000000000000000)) else (some (y_4)))
set_option maxHeartbeats 4000000 in
set_option maxRecDepth 100000 in
theorem vX11_picks (l : Launch) {D : va_G} {cy : Nat → ClassId} {b n : Nat} (hn : 102 ≤ n) {X : Nat → va_E} {S0 : St} (a1 : Int) (a2 : Int) (a3 : Int) {o1 : Int} (hM : mX11_picks a1 a2 a3 = some o1) : gL l yX11_picks cX11_picks 9 0 0 0 D cy b n (enc b cy X S0) [.long (jJ a1), .int (iI a2), .int (iI a3)] (fun r u => r = jJ o1 ∧ u = (n, enc b cy X S0)) := by
  refine gL_of (by decide) (Nat.le_of_ble_eq_true rfl) ?_
  intro p e s m args below meth c S hr hlk hin hsz ls hl hG
  have hx := S.1
  have hb := S.2.1
  have hl : lv_has ls 9 [(0, .long (jJ a1)), (2, .int (iI a2)), (3, .int (iI a3))] := hl
  replace hG : gW D cy b n s s.heap [] (enc b cy X S0) := hG
  obtain ⟨H, eH⟩ : ∃ H, H = s.heap := ⟨_, rfl⟩
  obtain ⟨locs, elocs⟩ : ∃ locs : List Loc, locs = [] := ⟨_, rfl⟩
  rw [← eH, ← elocs] at hG
  rw [← eH, ← elocs]
  clear eH elocs
  unfold mX11_picks at hM
  refine lv_lconst (v := jJ 1) hx hb dX11_picks_0 (by decide) ?_
  refine lv_lstore (lv' := [(4, .long (jJ 1)), (0, .long (jJ a1)), (2, .int (iI a2)), (3, .int (iI a3))]) hx hb dX11_picks_1 hl (by decide) rfl (fun ls hl => ?_)
  refine lv_iconst (v := iI 1) hx hb dX11_picks_3 (by decide) ?_
  refine lv_istore (lv' := [(6, .int (iI 1)), (4, .long (jJ 1)), (0, .long (jJ a1)), (2, .int (iI a2)), (3, .int (iI a3))]) hx hb dX11_picks_4 hl (by decide) rfl (fun ls hl => ?_)
  obtain ⟨t_3, y_4, hc_5, hM⟩ := bd2_some hM
  have hK_6 : ∀ (H : Heap) (locs : List Loc) (ls : Array Slot), t_3 = 0 → gW D cy b n s H locs (enc b cy X S0) → lv_has ls 9 [] → W p l e (gRm 0 0 0) s m args below meth c H locs 0 0 (gQL D cy b s args below 0 0 (fun r u => r = jJ o1 ∧ u = (n, enc b cy X S0))) (F0 m 42 ls []) := by
    intro H locs ls ht hG hl
    subst ht
    replace hM := ifp hM rfl
    refine lv_lconst (v := jJ 0) hx hb dX11_picks_42 (by decide) ?_
    cases hM
    exact g_lret S hr hlk hG hsz dX11_picks_43 ⟨Nat.le_of_ble_eq_true rfl, Nat.le_of_ble_eq_true rfl⟩ ⟨rfl, rfl⟩
  have hK_7 : ∀ (H : Heap) (locs : List Loc) (ls : Array Slot), t_3 = 1 → gW D cy b n s H locs (enc b cy X S0) → lv_has ls 9 [] → W p l e (gRm 0 0 0) s m args below meth c H locs 0 0 (gQL D cy b s args below 0 0 (fun r u => r = jJ o1 ∧ u = (n, enc b cy X S0))) (F0 m 56 ls []) := by
    intro H locs ls ht hG hl
    subst ht
    replace hM := ifn hM (by decide)
    replace hM := ifp hM rfl
    refine lv_ldc2 (v := 1000000000000000000) hx hb S.2.2.2.1 (S.2.2.2.2 _ wm_999) dX11_picks_56 ?_
    refine gj_as 1000000000000000000 (by decide) ?_
    cases hM
    exact g_lret S hr hlk hG hsz dX11_picks_59 ⟨Nat.le_of_ble_eq_true rfl, Nat.le_of_ble_eq_true rfl⟩ ⟨rfl, rfl⟩
  have hK_8 : ∀ (H : Heap) (locs : List Loc) (ls : Array Slot), t_3 = 2 → gW D cy b n s H locs (enc b cy X S0) → lv_has ls 9 [(4, .long (jJ y_4))] → W p l e (gRm 0 0 0) s m args below meth c H locs 0 0 (gQL D cy b s args below 0 0 (fun r u => r = jJ o1 ∧ u = (n, enc b cy X S0))) (F0 m 77 ls []) := by
    intro H locs ls ht hG hl
    subst ht
    replace hM := ifn hM (by decide)
    replace hM := ifn hM (by decide)
    refine lv_lload hx hb dX11_picks_77 (lv_at hl 0 rfl) ?_
    cases hM
    exact g_lret S hr hlk hG hsz dX11_picks_79 ⟨Nat.le_of_ble_eq_true rfl, Nat.le_of_ble_eq_true rfl⟩ ⟨rfl, rfl⟩
  have loop_9 : ∀ (f : Nat) (v_1 : Int) (v_2 : Int) (H : Heap) (locs : List Loc) (ls : Array Slot), mX11_picks_6 a1 a2 a3 f v_1 v_2 = some (t_3, y_4) → gW D cy b n s H locs (enc b cy X S0) → lv_has ls 9 [(6, .int (iI v_1)), (4, .long (jJ v_2)), (0, .long (jJ a1)), (2, .int (iI a2)), (3, .int (iI a3))] → W p l e (gRm 0 0 0) s m args below meth c H locs 0 0 (gQL D cy b s args below 0 0 (fun r u => r = jJ o1 ∧ u = (n, enc b cy X S0))) (F0 m 6 ls []) := by
    clear hM
    intro f
    induction f with
    | zero => intro v_1 v_2 H locs ls hM; rw [mX11_picks_6] at hM; cases hM
    | succ f_11 ih_10 =>
      intro v_1 v_2 H locs ls hM hG hl
      rw [mX11_picks_6] at hM
      refine lv_iload hx hb dX11_picks_6 (lv_at hl 0 rfl) ?_
      refine lv_iload_n hx hb dX11_picks_8 rfl (lv_at hl 3 rfl) ?_
      obtain ⟨hg_12, hM⟩ := gd_some hM
      refine gi_icmp_gt (tgt := 77) hx hb dX11_picks_9 (by decide) hg_12.1 hg_12.2 (fun c_13 => ?_) (fun c_13 => ?_)
      · replace hM := ifp hM c_13
        cases hM
        exact hK_8 H locs ls rfl hG (lv_sub hl [1] rfl)
      · replace hM := ifn hM c_13
        refine lv_iload_n hx hb dX11_picks_12 rfl (lv_at hl 4 rfl) ?_
        obtain ⟨z_14, hc_15, hM⟩ := bd1_some hM
        have hK_16 : ∀ (H : Heap) (locs : List Loc) (ls : Array Slot), gW D cy b n s H locs (enc b cy X S0) → lv_has ls 9 [(6, .int (iI v_1)), (4, .long (jJ v_2)), (0, .long (jJ a1)), (2, .int (iI a2)), (3, .int (iI a3))] → W p l e (gRm 0 0 0) s m args below meth c H locs 0 0 (gQL D cy b s args below 0 0 (fun r u => r = jJ o1 ∧ u = (n, enc b cy X S0))) (F0 m 33 ls [.long (jJ z_14)]) := by
          intro H locs ls hG hl
          refine lv_lstore (lv' := [(7, .long (jJ z_14)), (6, .int (iI v_1)), (4, .long (jJ v_2)), (0, .long (jJ a1)), (2, .int (iI a2)), (3, .int (iI a3))]) hx hb dX11_picks_33 hl (by decide) rfl (fun ls hl => ?_)
          refine lv_lload hx hb dX11_picks_35 (lv_at hl 0 rfl) ?_
          refine lv_lconst (v := jJ 0) hx hb dX11_picks_37 (by decide) ?_
          obtain ⟨hg_17, hM⟩ := gd_some hM
          refine gj_cmp_gt (tgt := 44) hx hb dX11_picks_38 dX11_picks_39 (by decide) hg_17 (by decide) (fun c_18 => ?_) (fun c_18 => ?_)
          · replace hM := ifp hM c_18
            refine lv_lload hx hb dX11_picks_44 (lv_at hl 2 rfl) ?_
            refine lv_ldc2 (v := 1000000000000000000) hx hb S.2.2.2.1 (S.2.2.2.2 _ wm_999) dX11_picks_46 ?_
            refine gj_as 1000000000000000000 (by decide) ?_
            refine lv_lload hx hb dX11_picks_49 (lv_at hl 0 rfl) ?_
            obtain ⟨hg_19, hM⟩ := gd_some hM
            refine gj_div hx hb dX11_picks_51 (by decide) hg_19 ?_
            obtain ⟨hg_20, hM⟩ := gd_some hM
            refine gj_cmp_le (tgt := 60) hx hb dX11_picks_52 dX11_picks_53 (by decide) hg_20.1 hg_20.2 (fun c_21 => ?_) (fun c_21 => ?_)
            · replace hM := ifp hM c_21
              refine lv_lload hx hb dX11_picks_60 (lv_at hl 2 rfl) ?_
              refine lv_lload hx hb dX11_picks_62 (lv_at hl 0 rfl) ?_
              refine gj_mul hx hb dX11_picks_64 ?_
              refine lv_iload hx hb dX11_picks_65 (lv_at hl 1 rfl) ?_
              refine gi_i2l hx hb dX11_picks_67 hg_12.1 ?_
              obtain ⟨hg_22, hM⟩ := gd_some hM
              refine gj_div hx hb dX11_picks_68 hg_22.1 hg_22.2 ?_
              refine gj_nm (fun x_23 ex_23 => ?_)
              replace hM := nx_at hM ex_23
              clear ex_23
              refine lv_lstore (lv' := [(4, .long (jJ x_23)), (7, .long (jJ z_14)), (6, .int (iI v_1)), (0, .long (jJ a1)), (2, .int (iI a2)), (3, .int (iI a3))]) hx hb dX11_picks_69 hl (by decide) rfl (fun ls hl => ?_)
              refine lv_iinc (v := iI (v_1 + 1)) (lv' := [(6, .int (iI (v_1 + 1))), (4, .long (jJ x_23)), (7, .long (jJ z_14)), (0, .long (jJ a1)), (2, .int (iI a2)), (3, .int (iI a3))]) hx hb dX11_picks_71 hl (k := 2) rfl ((iI_add v_1 (1)).trans (congrArg iI (by omega))) (by decide) rfl (fun ls hl => ?_)
              refine lv_goto (tgt := 6) hx hb dX11_picks_74 (by decide) ?_
              exact ih_10 (v_1 + 1) x_23 H locs ls hM hG (lv_sub hl [0, 1, 3, 4, 5] rfl)
            · replace hM := ifn hM c_21
              cases hM
              exact hK_7 H locs ls rfl hG (lv_sub hl [] rfl)
          · replace hM := ifn hM c_18
            cases hM
            exact hK_6 H locs ls rfl hG (lv_sub hl [] rfl)
        clear hM
        replace hM := hc_15
        obtain ⟨hg_24, hM⟩ := gd_some hM
        refine gi_if_eq (tgt := 26) hx hb dX11_picks_13 (by decide) hg_24 (fun c_25 => ?_) (fun c_25 => ?_)
        · replace hM := ifp hM c_25
          refine lv_lload_n hx hb dX11_picks_26 rfl (lv_at hl 2 rfl) ?_
          refine lv_iload hx hb dX11_picks_27 (lv_at hl 0 rfl) ?_
          refine gi_i2l hx hb dX11_picks_29 hg_12.1 ?_
          refine gj_add hx hb dX11_picks_30 ?_
          refine lv_lconst (v := jJ 1) hx hb dX11_picks_31 (by decide) ?_
          refine gj_sub hx hb dX11_picks_32 ?_
          cases hM
          exact hK_16 H locs ls hG (lv_sub hl [0, 1, 2, 3, 4] rfl)
        · replace hM := ifn hM c_25
          refine lv_lload_n hx hb dX11_picks_16 rfl (lv_at hl 2 rfl) ?_
          refine lv_iload hx hb dX11_picks_17 (lv_at hl 0 rfl) ?_
          refine gi_i2l hx hb dX11_picks_19 hg_12.1 ?_
          refine gj_sub hx hb dX11_picks_20 ?_
          refine lv_lconst (v := jJ 1) hx hb dX11_picks_21 (by decide) ?_
          refine gj_add hx hb dX11_picks_22 ?_
          refine lv_goto (tgt := 33) hx hb dX11_picks_23 (by decide) ?_
          cases hM
          exact hK_16 H locs ls hG (lv_sub hl [0, 1, 2, 3, 4] rfl)
  exact loop_9 FU 1 1 H locs ls hc_5 hG (lv_sub hl [0, 1, 2, 3, 4] rfl)
theorem wV_0_185 : gWV "GrownKinds$Census" 185 yX0_addClass cX0_addClass 12 none := ⟨wm_1047, wm_1049, wm_42, wm_181, wm_1050, by decide +kernel, by decide +kernel⟩
def mX0_addClass_40_57 (x_28 : Int) (v_18 : Int) (v_6 : Int) (x_1 : Int) (a2 : Int) (a3 : Int) (a4 : Int) : Nat → Int → St → Option (St)
  | 0, _, _ => none
  | f + 1, v_29, S_30 => gd (inI v_29) <| if v_6 < v_29 then (some (S_30)) else (gd (inI (v_29 * a3)) <| if a2 < (v_29 * a3) then (some (S_30)) else (gd (inI (v_29 * a4)) <| if v_18 < (v_29 * a4) then (some (S_30)) else (gd (0 ≤ ((((x_1 + ((v_6 - v_29) * 64)) + ((a2 - (v_29 * a3)) * 8)) + v_18) - (v_29 * a4)) ∧ ((((x_1 + ((v_6 - v_29) * 64)) + ((a2 - (v_29 * a3)) * 8)) + v_18) - (v_29 * a4)) < 12288) <| nx (S_30 44 ((((x_1 + ((v_6 - v_29) * 64)) + ((a2 - (v_29 * a3)) * 8)) + v_18) - (v_29 * a4))) fun x_44 => gd (0 ≤ x_28 ∧ x_28 < 12288) <| gd (0 ≤ v_29 ∧ v_29 < 8) <| bd1 (mX11_times (S_30 45 v_29) x_44) fun r_48 => bd1 (mX11_plus (S_30 44 x_28) r_48) fun r_50 => nx (up S_30 44 x_28 r_50) fun S_51 => mX0_addClass_40_57 x_28 v_18 v_6 x_1 a2 a3 a4 f (v_29 + 1) S_51)))
def mX0_addClass_40_31 (v_6 : Int) (x_1 : Int) (a2 : Int) (a3 : Int) (a4 : Int) : Nat → Int → St → Option (St)
  | 0, _, _ => none
  | f + 1, v_18, S_19 => gd (inI v_18) <| if v_18 < 0 then (some (S_19)) else (nx (((x_1 + (v_6 * 64)) + (a2 * 8)) + v_18) fun x_28 => bd1 (mX0_addClass_40_57 x_28 v_18 v_6 x_1 a2 a3 a4 FU 1 S_19) fun S_31 => mX0_addClass_40_31 v_6 x_1 a2 a3 a4 f (v_18 - 1) S_31)
def mX0_addClass_40_18 (x_1 : Int) (a2 : Int) (a3 : Int) (a4 : Int) : Nat → Int → St → Option (St)
  | 0, _, _ => none
  | f + 1, v_6, S_7 => gd (inI v_6) <| if v_6 < 1 then (some (S_7)) else (bd1 (mX0_letterTop_40 S_7 a2) fun r_17 => bd1 (mX0_addClass_40_31 v_6 x_1 a2 a3 a4 FU r_17 S_7) fun S_20 => mX0_addClass_40_18 x_1 a2 a3 a4 f (v_6 - 1) S_20)
def mX0_addClass_40 (S0 : St) (a1 : Int) (a2 : Int) (a3 : Int) (a4 : Int) : Option (St) := nx (a1 * 512) fun x_1 => bd1 (mX0_longest_40 S0 a1) fun r_3 => gd ((inI a2) ∧ (inI r_3)) <| nx (min a2 r_3) fun x_5 => bd1 (mX0_addClass_40_18 x_1 a2 a3 a4 FU x_5 S0) fun S_8 => some (S_8)
set_option maxHeartbeats 4000000 in
set_option maxRecDepth 100000 in
theorem vX0_addClass_40 (l : Launch) {D : va_G} {cy : Nat → ClassId} {b n : Nat} (hn : 102 ≤ n) {X : Nat → va_E} {S0 : St} (a1 : Int) (a2 : Int) (a3 : Int) (a4 : Int) {o1 : St} (hM : mX0_addClass_40 S0 a1 a2 a3 a4 = some o1) : gV l yX0_addClass cX0_addClass 12 1 0 0 D cy b n (enc b cy X S0) [.ref (b + 40), .int (iI a1), .int (iI a2), .int (iI a3), .int (iI a4)] (fun u => u = (n, enc b cy X o1)) := by
  refine gV_of (by decide) (Nat.le_of_ble_eq_true rfl) ?_
  intro p e s m args below meth c S hr hlk hin hsz ls hl hG
  have hx := S.1
  have hb := S.2.1
  have hl : lv_has ls 12 [(0, .ref (b + 40)), (1, .int (iI a1)), (2, .int (iI a2)), (3, .int (iI a3)), (4, .int (iI a4))] := hl
  replace hG : gW D cy b n s s.heap [] (enc b cy X S0) := hG
  obtain ⟨H, eH⟩ : ∃ H, H = s.heap := ⟨_, rfl⟩
  obtain ⟨locs, elocs⟩ : ∃ locs : List Loc, locs = [] := ⟨_, rfl⟩
  rw [← eH, ← elocs] at hG
  rw [← eH, ← elocs]
  clear eH elocs
  unfold mX0_addClass_40 at hM
  refine lv_iload_n hx hb dX0_addClass_0 rfl (lv_at hl 1 rfl) ?_
  refine lv_sipush (v := iI 512) hx hb dX0_addClass_1 (by decide) ?_
  refine gi_mul hx hb dX0_addClass_4 ?_
  refine gi_nm (fun x_1 ex_1 => ?_)
  replace hM := nx_at hM ex_1
  clear ex_1
  refine lv_istore (lv' := [(5, .int (iI x_1)), (0, .ref (b + 40)), (1, .int (iI a1)), (2, .int (iI a2)), (3, .int (iI a3)), (4, .int (iI a4))]) hx hb dX0_addClass_5 hl (by decide) rfl (fun ls hl => ?_)
  refine lv_iload_n hx hb dX0_addClass_7 rfl (lv_at hl 3 rfl) ?_
  refine lv_aload_n hx hb dX0_addClass_8 rfl (lv_at hl 1 rfl) ?_
  refine lv_iload_n hx hb dX0_addClass_9 rfl (lv_at hl 2 rfl) ?_
  obtain ⟨r_3, hc_2, hM⟩ := bd1_some hM
  refine g_vi (As := [.int (iI a1)]) (rest := [.int (iI a2)]) S hG hsz (vX0_longest_40 l hn a1 hc_2) wV_0_176 (ec_40 _) cpX0 (Nat.lt_of_lt_of_le (Nat.le_of_ble_eq_true rfl) hn) dX0_addClass_10 rfl hl.1 (ar := 1) (by decide +kernel) rfl ⟨Nat.le_of_ble_eq_true rfl, Nat.le_of_ble_eq_true rfl, Nat.le_of_ble_eq_true rfl, Nat.le_of_ble_eq_true rfl⟩ (Nat.le_of_ble_eq_true rfl) (fun rv uu H locs hp hG => ?_)
  obtain ⟨rfl, rfl⟩ := hp
  replace hG : gW D cy b n s H locs (enc b cy X S0) := hG
  obtain ⟨hg_4, hM⟩ := gd_some hM
  refine gi_min S wm_1051 wm_761 wm_190 wm_762 hl.1 dX0_addClass_13 ⟨Nat.le_of_ble_eq_true rfl, Nat.le_of_ble_eq_true rfl, Nat.le_of_ble_eq_true rfl, Nat.le_of_ble_eq_true rfl⟩ hg_4.1 hg_4.2 ?_
  refine gi_nm (fun x_5 ex_5 => ?_)
  replace hM := nx_at hM ex_5
  clear ex_5
  refine lv_istore (lv' := [(6, .int (iI x_5)), (5, .int (iI x_1)), (0, .ref (b + 40)), (1, .int (iI a1)), (2, .int (iI a2)), (3, .int (iI a3)), (4, .int (iI a4))]) hx hb dX0_addClass_16 hl (by decide) rfl (fun ls hl => ?_)
  obtain ⟨S_8, hc_9, hM⟩ := bd1_some hM
  have hK_10 : ∀ (H : Heap) (locs : List Loc) (ls : Array Slot), gW D cy b n s H locs (enc b cy X S_8) → lv_has ls 12 [] → W p l e (gRm 1 0 0) s m args below meth c H locs 0 0 (gQV D cy b s args below 0 0 (fun u => u = (n, enc b cy X o1))) (F0 m 166 ls []) := by
    intro H locs ls hG hl
    cases hM
    exact g_vret S hr hlk hG hsz dX0_addClass_166 ⟨Nat.le_of_ble_eq_true rfl, Nat.le_of_ble_eq_true rfl⟩ rfl
  have loop_11 : ∀ (f : Nat) (v_6 : Int) (S_7 : St) (H : Heap) (locs : List Loc) (ls : Array Slot), mX0_addClass_40_18 x_1 a2 a3 a4 f v_6 S_7 = some S_8 → gW D cy b n s H locs (enc b cy X S_7) → lv_has ls 12 [(6, .int (iI v_6)), (5, .int (iI x_1)), (0, .ref (b + 40)), (2, .int (iI a2)), (3, .int (iI a3)), (4, .int (iI a4))] → W p l e (gRm 1 0 0) s m args below meth c H locs 0 0 (gQV D cy b s args below 0 0 (fun u => u = (n, enc b cy X o1))) (F0 m 18 ls []) := by
    clear hM
    intro f
    induction f with
    | zero => intro v_6 S_7 H locs ls hM; rw [mX0_addClass_40_18] at hM; cases hM
    | succ f_13 ih_12 =>
      intro v_6 S_7 H locs ls hM hG hl
      rw [mX0_addClass_40_18] at hM
      refine lv_iload hx hb dX0_addClass_18 (lv_at hl 0 rfl) ?_
      refine lv_iconst (v := iI 1) hx hb dX0_addClass_20 (by decide) ?_
      obtain ⟨hg_14, hM⟩ := gd_some hM
      refine gi_icmp_lt (tgt := 166) hx hb dX0_addClass_21 (by decide) hg_14 (by decide) (fun c_15 => ?_) (fun c_15 => ?_)
      · replace hM := ifp hM c_15
        cases hM
        exact hK_10 H locs ls hG (lv_sub hl [] rfl)
      · replace hM := ifn hM c_15
        refine lv_aload_n hx hb dX0_addClass_24 rfl (lv_at hl 2 rfl) ?_
        refine lv_iload_n hx hb dX0_addClass_25 rfl (lv_at hl 3 rfl) ?_
        obtain ⟨r_17, hc_16, hM⟩ := bd1_some hM
        refine g_vi (As := [.int (iI a2)]) (rest := []) S hG hsz (vX0_letterTop_40 l hn a2 hc_16) wV_0_108 (ec_40 _) cpX0 (Nat.lt_of_lt_of_le (Nat.le_of_ble_eq_true rfl) hn) dX0_addClass_26 rfl hl.1 (ar := 1) (by decide +kernel) rfl ⟨Nat.le_of_ble_eq_true rfl, Nat.le_of_ble_eq_true rfl, Nat.le_of_ble_eq_true rfl, Nat.le_of_ble_eq_true rfl⟩ (Nat.le_of_ble_eq_true rfl) (fun rv uu H locs hp hG => ?_)
        obtain ⟨rfl, rfl⟩ := hp
        replace hG : gW D cy b n s H locs (enc b cy X S_7) := hG
        refine lv_istore (lv' := [(7, .int (iI r_17)), (6, .int (iI v_6)), (5, .int (iI x_1)), (0, .ref (b + 40)), (2, .int (iI a2)), (3, .int (iI a3)), (4, .int (iI a4))]) hx hb dX0_addClass_29 hl (by decide) rfl (fun ls hl => ?_)
        obtain ⟨S_20, hc_21, hM⟩ := bd1_some hM
        have hK_22 : ∀ (H : Heap) (locs : List Loc) (ls : Array Slot), gW D cy b n s H locs (enc b cy X S_20) → lv_has ls 12 [(6, .int (iI v_6)), (5, .int (iI x_1)), (0, .ref (b + 40)), (2, .int (iI a2)), (3, .int (iI a3)), (4, .int (iI a4))] → W p l e (gRm 1 0 0) s m args below meth c H locs 0 0 (gQV D cy b s args below 0 0 (fun u => u = (n, enc b cy X o1))) (F0 m 160 ls []) := by
          intro H locs ls hG hl
          refine lv_iinc (v := iI (v_6 - 1)) (lv' := [(6, .int (iI (v_6 - 1))), (5, .int (iI x_1)), (0, .ref (b + 40)), (2, .int (iI a2)), (3, .int (iI a3)), (4, .int (iI a4))]) hx hb dX0_addClass_160 hl (k := 0) rfl ((iI_add v_6 (-1)).trans (congrArg iI (by omega))) (by decide) rfl (fun ls hl => ?_)
          refine lv_goto (tgt := 18) hx hb dX0_addClass_163 (by decide) ?_
          exact ih_12 (v_6 - 1) S_20 H locs ls hM hG (lv_sub hl [0, 1, 2, 3, 4, 5] rfl)
        have loop_23 : ∀ (f : Nat) (v_18 : Int) (S_19 : St) (H : Heap) (locs : List Loc) (ls : Array Slot), mX0_addClass_40_31 v_6 x_1 a2 a3 a4 f v_18 S_19 = some S_20 → gW D cy b n s H locs (enc b cy X S_19) → lv_has ls 12 [(7, .int (iI v_18)), (6, .int (iI v_6)), (5, .int (iI x_1)), (0, .ref (b + 40)), (2, .int (iI a2)), (3, .int (iI a3)), (4, .int (iI a4))] → W p l e (gRm 1 0 0) s m args below meth c H locs 0 0 (gQV D cy b s args below 0 0 (fun u => u = (n, enc b cy X o1))) (F0 m 31 ls []) := by
          clear hM
          intro f
          induction f with
          | zero => intro v_18 S_19 H locs ls hM; rw [mX0_addClass_40_31] at hM; cases hM
          | succ f_25 ih_24 =>
            intro v_18 S_19 H locs ls hM hG hl
            rw [mX0_addClass_40_31] at hM
            refine lv_iload hx hb dX0_addClass_31 (lv_at hl 0 rfl) ?_
            obtain ⟨hg_26, hM⟩ := gd_some hM
            refine gi_if_lt (tgt := 160) hx hb dX0_addClass_33 (by decide) hg_26 (fun c_27 => ?_) (fun c_27 => ?_)
            · replace hM := ifp hM c_27
              cases hM
              exact hK_22 H locs ls hG (lv_sub hl [1, 2, 3, 4, 5, 6] rfl)
            · replace hM := ifn hM c_27
              refine lv_iload hx hb dX0_addClass_36 (lv_at hl 2 rfl) ?_
              refine lv_iload hx hb dX0_addClass_38 (lv_at hl 1 rfl) ?_
              refine lv_bipush (v := iI 64) hx hb dX0_addClass_40 (by decide) ?_
              refine gi_mul hx hb dX0_addClass_42 ?_
              refine gi_add hx hb dX0_addClass_43 ?_
              refine lv_iload_n hx hb dX0_addClass_44 rfl (lv_at hl 4 rfl) ?_
              refine lv_bipush (v := iI 8) hx hb dX0_addClass_45 (by decide) ?_
              refine gi_mul hx hb dX0_addClass_47 ?_
              refine gi_add hx hb dX0_addClass_48 ?_
              refine lv_iload hx hb dX0_addClass_49 (lv_at hl 0 rfl) ?_
              refine gi_add hx hb dX0_addClass_51 ?_
              refine gi_nm (fun x_28 ex_28 => ?_)
              replace hM := nx_at hM ex_28
              clear ex_28
              refine lv_istore (lv' := [(8, .int (iI x_28)), (7, .int (iI v_18)), (6, .int (iI v_6)), (5, .int (iI x_1)), (0, .ref (b + 40)), (2, .int (iI a2)), (3, .int (iI a3)), (4, .int (iI a4))]) hx hb dX0_addClass_52 hl (by decide) rfl (fun ls hl => ?_)
              refine lv_iconst (v := iI 1) hx hb dX0_addClass_54 (by decide) ?_
              refine lv_istore (lv' := [(9, .int (iI 1)), (8, .int (iI x_28)), (7, .int (iI v_18)), (6, .int (iI v_6)), (5, .int (iI x_1)), (0, .ref (b + 40)), (2, .int (iI a2)), (3, .int (iI a3)), (4, .int (iI a4))]) hx hb dX0_addClass_55 hl (by decide) rfl (fun ls hl => ?_)
              obtain ⟨S_31, hc_32, hM⟩ := bd1_some hM
              have hK_33 : ∀ (H : Heap) (locs : List Loc) (ls : Array Slot), gW D cy b n s H locs (enc b cy X S_31) → lv_has ls 12 [(7, .int (iI v_18)), (6, .int (iI v_6)), (5, .int (iI x_1)), (0, .ref (b + 40)), (2, .int (iI a2)), (3, .int (iI a3)), (4, .int (iI a4))] → W p l e (gRm 1 0 0) s m args below meth c H locs 0 0 (gQV D cy b s args below 0 0 (fun u => u = (n, enc b cy X o1))) (F0 m 154 ls []) := by
                intro H locs ls hG hl
                refine lv_iinc (v := iI (v_18 - 1)) (lv' := [(7, .int (iI (v_18 - 1))), (6, .int (iI v_6)), (5, .int (iI x_1)), (0, .ref (b + 40)), (2, .int (iI a2)), (3, .int (iI a3)), (4, .int (iI a4))]) hx hb dX0_addClass_154 hl (k := 0) rfl ((iI_add v_18 (-1)).trans (congrArg iI (by omega))) (by decide) rfl (fun ls hl => ?_)
                refine lv_goto (tgt := 31) hx hb dX0_addClass_157 (by decide) ?_
                exact ih_24 (v_18 - 1) S_31 H locs ls hM hG (lv_sub hl [0, 1, 2, 3, 4, 5, 6] rfl)
              have loop_34 : ∀ (f : Nat) (v_29 : Int) (S_30 : St) (H : Heap) (locs : List Loc) (ls : Array Slot), mX0_addClass_40_57 x_28 v_18 v_6 x_1 a2 a3 a4 f v_29 S_30 = some S_31 → gW D cy b n s H locs (enc b cy X S_30) → lv_has ls 12 [(9, .int (iI v_29)), (8, .int (iI x_28)), (7, .int (iI v_18)), (6, .int (iI v_6)), (5, .int (iI x_1)), (0, .ref (b + 40)), (2, .int (iI a2)), (3, .int (iI a3)), (4, .int (iI a4))] → W p l e (gRm 1 0 0) s m args below meth c H locs 0 0 (gQV D cy b s args below 0 0 (fun u => u = (n, enc b cy X o1))) (F0 m 57 ls []) := by
                clear hM
                intro f
                induction f with
                | zero => intro v_29 S_30 H locs ls hM; rw [mX0_addClass_40_57] at hM; cases hM
                | succ f_36 ih_35 =>
                  intro v_29 S_30 H locs ls hM hG hl
                  rw [mX0_addClass_40_57] at hM
                  refine lv_iload hx hb dX0_addClass_57 (lv_at hl 0 rfl) ?_
                  refine lv_iload hx hb dX0_addClass_59 (lv_at hl 3 rfl) ?_
                  obtain ⟨hg_37, hM⟩ := gd_some hM
                  refine gi_icmp_gt (tgt := 154) hx hb dX0_addClass_61 (by decide) hg_37 hg_14 (fun c_38 => ?_) (fun c_38 => ?_)
                  · replace hM := ifp hM c_38
                    cases hM
                    exact hK_33 H locs ls hG (lv_sub hl [2, 3, 4, 5, 6, 7, 8] rfl)
                  · replace hM := ifn hM c_38
                    refine lv_iload hx hb dX0_addClass_64 (lv_at hl 0 rfl) ?_
                    refine lv_iload_n hx hb dX0_addClass_66 rfl (lv_at hl 7 rfl) ?_
                    refine gi_mul hx hb dX0_addClass_67 ?_
                    refine lv_iload_n hx hb dX0_addClass_68 rfl (lv_at hl 6 rfl) ?_
                    obtain ⟨hg_39, hM⟩ := gd_some hM
                    refine gi_icmp_gt (tgt := 154) hx hb dX0_addClass_69 (by decide) hg_39 hg_4.1 (fun c_40 => ?_) (fun c_40 => ?_)
                    · replace hM := ifp hM c_40
                      cases hM
                      exact hK_33 H locs ls hG (lv_sub hl [2, 3, 4, 5, 6, 7, 8] rfl)
                    · replace hM := ifn hM c_40
                      refine lv_iload hx hb dX0_addClass_72 (lv_at hl 0 rfl) ?_
                      refine lv_iload hx hb dX0_addClass_74 (lv_at hl 8 rfl) ?_
                      refine gi_mul hx hb dX0_addClass_76 ?_
                      refine lv_iload hx hb dX0_addClass_77 (lv_at hl 2 rfl) ?_
                      obtain ⟨hg_41, hM⟩ := gd_some hM
                      refine gi_icmp_gt (tgt := 154) hx hb dX0_addClass_79 (by decide) hg_41 hg_26 (fun c_42 => ?_) (fun c_42 => ?_)
                      · replace hM := ifp hM c_42
                        cases hM
                        exact hK_33 H locs ls hG (lv_sub hl [2, 3, 4, 5, 6, 7, 8] rfl)
                      · replace hM := ifn hM c_42
                        refine lv_aload_n hx hb dX0_addClass_82 rfl (lv_at hl 5 rfl) ?_
                        refine m_get S hG 40 40 5 rfl ec_40 cpX0 wm_408 dX0_addClass_83 rfl (Nat.lt_of_lt_of_le (Nat.le_of_ble_eq_true rfl) hn) (by decide) ?_
                        refine lv_iload hx hb dX0_addClass_86 (lv_at hl 4 rfl) ?_
                        refine lv_iload hx hb dX0_addClass_88 (lv_at hl 3 rfl) ?_
                        refine lv_iload hx hb dX0_addClass_90 (lv_at hl 0 rfl) ?_
                        refine gi_sub hx hb dX0_addClass_92 ?_
                        refine lv_bipush (v := iI 64) hx hb dX0_addClass_93 (by decide) ?_
                        refine gi_mul hx hb dX0_addClass_95 ?_
                        refine gi_add hx hb dX0_addClass_96 ?_
                        refine lv_iload_n hx hb dX0_addClass_97 rfl (lv_at hl 6 rfl) ?_
                        refine lv_iload hx hb dX0_addClass_98 (lv_at hl 0 rfl) ?_
                        refine lv_iload_n hx hb dX0_addClass_100 rfl (lv_at hl 7 rfl) ?_
                        refine gi_mul hx hb dX0_addClass_101 ?_
                        refine gi_sub hx hb dX0_addClass_102 ?_
                        refine lv_bipush (v := iI 8) hx hb dX0_addClass_103 (by decide) ?_
                        refine gi_mul hx hb dX0_addClass_105 ?_
                        refine gi_add hx hb dX0_addClass_106 ?_
                        refine lv_iload hx hb dX0_addClass_107 (lv_at hl 2 rfl) ?_
                        refine gi_add hx hb dX0_addClass_109 ?_
                        refine lv_iload hx hb dX0_addClass_110 (lv_at hl 0 rfl) ?_
                        refine lv_iload hx hb dX0_addClass_112 (lv_at hl 8 rfl) ?_
                        refine gi_mul hx hb dX0_addClass_114 ?_
                        refine gi_sub hx hb dX0_addClass_115 ?_
                        obtain ⟨hg_43, hM⟩ := gd_some hM
                        refine mj_ald S hG 44 44 rfl ec_44 (Nat.lt_of_lt_of_le (Nat.le_of_ble_eq_true rfl) hn) dX0_addClass_116 hg_43 (by decide) ?_
                        refine gj_nm (fun x_44 ex_44 => ?_)
                        replace hM := nx_at hM ex_44
                        clear ex_44
                        refine lv_lstore (lv' := [(10, .long (jJ x_44)), (9, .int (iI v_29)), (8, .int (iI x_28)), (7, .int (iI v_18)), (6, .int (iI v_6)), (5, .int (iI x_1)), (0, .ref (b + 40)), (2, .int (iI a2)), (3, .int (iI a3)), (4, .int (iI a4))]) hx hb dX0_addClass_117 hl (by decide) rfl (fun ls hl => ?_)
                        refine lv_aload_n hx hb dX0_addClass_119 rfl (lv_at hl 6 rfl) ?_
                        refine m_get S hG 40 40 5 rfl ec_40 cpX0 wm_408 dX0_addClass_120 rfl (Nat.lt_of_lt_of_le (Nat.le_of_ble_eq_true rfl) hn) (by decide) ?_
                        refine lv_iload hx hb dX0_addClass_123 (lv_at hl 2 rfl) ?_
                        refine lv_aload_n hx hb dX0_addClass_125 rfl (lv_at hl 6 rfl) ?_
                        refine m_get S hG 40 40 5 rfl ec_40 cpX0 wm_408 dX0_addClass_126 rfl (Nat.lt_of_lt_of_le (Nat.le_of_ble_eq_true rfl) hn) (by decide) ?_
                        refine lv_iload hx hb dX0_addClass_129 (lv_at hl 2 rfl) ?_
                        obtain ⟨hg_45, hM⟩ := gd_some hM
                        refine mj_ald S hG 44 44 rfl ec_44 (Nat.lt_of_lt_of_le (Nat.le_of_ble_eq_true rfl) hn) dX0_addClass_131 hg_45 (by decide) ?_
                        refine lv_aload_n hx hb dX0_addClass_132 rfl (lv_at hl 6 rfl) ?_
                        refine m_get S hG 40 40 6 rfl ec_40 cpX0 wm_409 dX0_addClass_133 rfl (Nat.lt_of_lt_of_le (Nat.le_of_ble_eq_true rfl) hn) (by decide) ?_
                        refine lv_iload hx hb dX0_addClass_136 (lv_at hl 1 rfl) ?_
                        obtain ⟨hg_46, hM⟩ := gd_some hM
                        refine mj_ald S hG 45 45 rfl ec_45 (Nat.lt_of_lt_of_le (Nat.le_of_ble_eq_true rfl) hn) dX0_addClass_138 hg_46 (by decide) ?_
                        refine lv_lload hx hb dX0_addClass_139 (lv_at hl 0 rfl) ?_
                        obtain ⟨r_48, hc_47, hM⟩ := bd1_some hM
                        refine g_slN (As := [.long (jJ (S_30 45 v_29)), .long (jJ x_44)]) (rest := [.long (jJ (S_30 44 x_28)), .int (iI x_28), .ref (b + 44)]) S hG hsz (vX11_times l hn (S_30 45 v_29) x_44 hc_47) (y := yX11_times) (host := "GrownKinds") (by decide +kernel) ⟨wm_1053, wm_177, wm_1054, by decide +kernel, by decide +kernel⟩ dX0_addClass_141 rfl hl.1 (ar := 2) (by decide +kernel) rfl ⟨Nat.le_of_ble_eq_true rfl, Nat.le_of_ble_eq_true rfl, Nat.le_of_ble_eq_true rfl, Nat.le_of_ble_eq_true rfl⟩ (Nat.le_of_ble_eq_true rfl) (fun rv uu H locs hp hG => ?_)
                        obtain ⟨rfl, rfl⟩ := hp
                        replace hG : gW D cy b n s H locs (enc b cy X S_30) := hG
                        obtain ⟨r_50, hc_49, hM⟩ := bd1_some hM
                        refine g_slN (As := [.long (jJ (S_30 44 x_28)), .long (jJ r_48)]) (rest := [.int (iI x_28), .ref (b + 44)]) S hG hsz (vX11_plus l hn (S_30 44 x_28) r_48 hc_49) (y := yX11_plus) (host := "GrownKinds") (by decide +kernel) ⟨wm_997, wm_177, wm_998, by decide +kernel, by decide +kernel⟩ dX0_addClass_144 rfl hl.1 (ar := 2) (by decide +kernel) rfl ⟨Nat.le_of_ble_eq_true rfl, Nat.le_of_ble_eq_true rfl, Nat.le_of_ble_eq_true rfl, Nat.le_of_ble_eq_true rfl⟩ (Nat.le_of_ble_eq_true rfl) (fun rv uu H locs hp hG => ?_)
                        obtain ⟨rfl, rfl⟩ := hp
                        replace hG : gW D cy b n s H locs (enc b cy X S_30) := hG
                        refine mj_ast S hG 44 44 rfl ec_44 (Nat.lt_of_lt_of_le (Nat.le_of_ble_eq_true rfl) hn) dX0_addClass_147 hg_45 (by decide) (fun H locs S_51 eS_51 hG => ?_)
                        replace hM := nx_at hM eS_51
                        clear eS_51
                        refine lv_iinc (v := iI (v_29 + 1)) (lv' := [(9, .int (iI (v_29 + 1))), (10, .long (jJ x_44)), (8, .int (iI x_28)), (7, .int (iI v_18)), (6, .int (iI v_6)), (5, .int (iI x_1)), (0, .ref (b + 40)), (2, .int (iI a2)), (3, .int (iI a3)), (4, .int (iI a4))]) hx hb dX0_addClass_148 hl (k := 1) rfl ((iI_add v_29 (1)).trans (congrArg iI (by omega))) (by decide) rfl (fun ls hl => ?_)
                        refine lv_goto (tgt := 57) hx hb dX0_addClass_151 (by decide) ?_
                        exact ih_35 (v_29 + 1) S_51 H locs ls hM hG (lv_sub hl [0, 2, 3, 4, 5, 6, 7, 8, 9] rfl)
              exact loop_34 FU 1 S_19 H locs ls hc_32 hG (lv_sub hl [0, 1, 2, 3, 4, 5, 6, 7, 8] rfl)
        exact loop_23 FU r_17 S_7 H locs ls hc_21 hG (lv_sub hl [0, 1, 2, 3, 4, 5, 6] rfl)
  exact loop_11 FU x_5 S0 H locs ls hc_9 hG (lv_sub hl [0, 1, 2, 4, 5, 6] rfl)
theorem wV_0_149 : gWV "GrownKinds$Census" 149 yX0_keepStage cX0_keepStage 10 none := ⟨wm_1024, wm_1026, wm_37, wm_181, wm_1027, by decide +kernel, by decide +kernel⟩
def mX0_keepStage_40_49 (v_5 : Int) (x_4 : Int) (a1 : Int) : Nat → Int → Int → St → Option (Int × St)
  | 0, _, _, _ => none
  | f + 1, v_15, v_16, S_17 => bd1 (mX0_longest_40 S_17 a1) fun r_31 => gd ((inI v_15) ∧ (inI r_31)) <| if r_31 < v_15 then (some (v_16, S_17)) else (gd (0 ≤ (((a1 * 512) + (v_15 * 64)) + (v_5 * 8)) ∧ (((a1 * 512) + (v_15 * 64)) + (v_5 * 8)) < 12288) <| nx (S_17 44 (((a1 * 512) + (v_15 * 64)) + (v_5 * 8))) fun x_35 => gd (0 ≤ ((x_4 + (v_15 * 8)) + v_5) ∧ ((x_4 + (v_15 * 8)) + v_5) < 12288) <| nx (up S_17 46 ((x_4 + (v_15 * 8)) + v_5) x_35) fun S_37 => bd1 (mX11_plus v_16 x_35) fun r_39 => mX0_keepStage_40_49 v_5 x_4 a1 f (v_15 + 1) r_39 S_37)
def mX0_keepStage_40_31 (x_4 : Int) (a1 : Int) : Nat → Int → St → Option (St)
  | 0, _, _ => none
  | f + 1, v_5, S_6 => gd ((inI v_5) ∧ (inI (S_6 2 0))) <| if (S_6 2 0) < v_5 then (some (S_6)) else (bd2 (mX0_keepStage_40_49 v_5 x_4 a1 FU 0 0 S_6) fun y_18 S_19 => gd (0 ≤ a1 ∧ a1 < 24) <| gd (inI (S_19 4 a1)) <| if (S_19 4 a1) = 0 then (gd (0 ≤ (x_4 + v_5) ∧ (x_4 + v_5) < 12288) <| nx (up S_19 46 (x_4 + v_5) y_18) fun S_26 => mX0_keepStage_40_31 x_4 a1 f (v_5 + 1) S_26) else (mX0_keepStage_40_31 x_4 a1 f (v_5 + 1) S_19))
def mX0_keepStage_40 (S0 : St) (a1 : Int) (a2 : Int) : Option (St) := gd (inI (S0 40 1)) <| if (S0 40 1) = (-1) then (nx ((a1 * 512) + (a2 * 64)) fun x_4 => bd1 (mX0_keepStage_40_31 x_4 a1 FU 0 S0) fun S_7 => some (S_7)) else (some (S0))
set_option maxHeartbeats 4000000 in
set_option maxRecDepth 100000 in
theorem vX0_keepStage_40 (l : Launch) {D : va_G} {cy : Nat → ClassId} {b n : Nat} (hn : 102 ≤ n) {X : Nat → va_E} {S0 : St} (a1 : Int) (a2 : Int) {o1 : St} (hM : mX0_keepStage_40 S0 a1 a2 = some o1) : gV l yX0_keepStage cX0_keepStage 10 1 0 0 D cy b n (enc b cy X S0) [.ref (b + 40), .int (iI a1), .int (iI a2)] (fun u => u = (n, enc b cy X o1)) := by
  refine gV_of (by decide) (Nat.le_of_ble_eq_true rfl) ?_
  intro p e s m args below meth c S hr hlk hin hsz ls hl hG
  have hx := S.1
  have hb := S.2.1
  have hl : lv_has ls 10 [(0, .ref (b + 40)), (1, .int (iI a1)), (2, .int (iI a2))] := hl
  replace hG : gW D cy b n s s.heap [] (enc b cy X S0) := hG
  obtain ⟨H, eH⟩ : ∃ H, H = s.heap := ⟨_, rfl⟩
  obtain ⟨locs, elocs⟩ : ∃ locs : List Loc, locs = [] := ⟨_, rfl⟩
  rw [← eH, ← elocs] at hG
  rw [← eH, ← elocs]
  clear eH elocs
  unfold mX0_keepStage_40 at hM
  refine lv_aload_n hx hb dX0_keepStage_0 rfl (lv_at hl 0 rfl) ?_
  refine m_get S hG 40 40 1 rfl ec_40 cpX0 wm_404 dX0_keepStage_1 rfl (Nat.lt_of_lt_of_le (Nat.le_of_ble_eq_true rfl) hn) (by decide) ?_
  refine lv_iconst (v := iI (-1)) hx hb dX0_keepStage_4 (by decide) ?_
  obtain ⟨hg_1, hM⟩ := gd_some hM
  refine gi_icmp_ne (tgt := 16) hx hb dX0_keepStage_5 (by decide) hg_1 (by decide) (fun c_2 => ?_) (fun c_2 => ?_)
  · replace hM := ifn hM c_2
    cases hM
    exact g_vret S hr hlk hG hsz dX0_keepStage_16 ⟨Nat.le_of_ble_eq_true rfl, Nat.le_of_ble_eq_true rfl⟩ rfl
  · replace hM := ifp hM c_2
    refine lv_aload_n hx hb dX0_keepStage_8 rfl (lv_at hl 0 rfl) ?_
    refine m_get S hG 40 40 7 rfl ec_40 cpX0 wm_410 dX0_keepStage_9 rfl (Nat.lt_of_lt_of_le (Nat.le_of_ble_eq_true rfl) hn) (by decide) ?_
    refine m_alen S hG 46 2 ec_46 rfl (Nat.lt_of_lt_of_le (Nat.le_of_ble_eq_true rfl) hn) dX0_keepStage_12 (N := 12288) (show Int32.ofNat 12288 = iI 12288 by decide) ?_
    refine gi_if_ne (tgt := 17) hx hb dX0_keepStage_13 (by decide) (by decide) (fun _ => ?_) (fun c_3 => absurd c_3 (by decide))
    refine lv_iload_n hx hb dX0_keepStage_17 rfl (lv_at hl 1 rfl) ?_
    refine lv_sipush (v := iI 512) hx hb dX0_keepStage_18 (by decide) ?_
    refine gi_mul hx hb dX0_keepStage_21 ?_
    refine lv_iload_n hx hb dX0_keepStage_22 rfl (lv_at hl 2 rfl) ?_
    refine lv_bipush (v := iI 64) hx hb dX0_keepStage_23 (by decide) ?_
    refine gi_mul hx hb dX0_keepStage_25 ?_
    refine gi_add hx hb dX0_keepStage_26 ?_
    refine gi_nm (fun x_4 ex_4 => ?_)
    replace hM := nx_at hM ex_4
    clear ex_4
    refine lv_istore_n (lv' := [(3, .int (iI x_4)), (0, .ref (b + 40)), (1, .int (iI a1)), (2, .int (iI a2))]) hx hb dX0_keepStage_27 rfl hl (by decide) rfl (fun ls hl => ?_)
    refine lv_iconst (v := iI 0) hx hb dX0_keepStage_28 (by decide) ?_
    refine lv_istore (lv' := [(4, .int (iI 0)), (3, .int (iI x_4)), (0, .ref (b + 40)), (1, .int (iI a1)), (2, .int (iI a2))]) hx hb dX0_keepStage_29 hl (by decide) rfl (fun ls hl => ?_)
    obtain ⟨S_7, hc_8, hM⟩ := bd1_some hM
    have hK_9 : ∀ (H : Heap) (locs : List Loc) (ls : Array Slot), gW D cy b n s H locs (enc b cy X S_7) → lv_has ls 10 [] → W p l e (gRm 1 0 0) s m args below meth c H locs 0 0 (gQV D cy b s args below 0 0 (fun u => u = (n, enc b cy X o1))) (F0 m 144 ls []) := by
      intro H locs ls hG hl
      cases hM
      exact g_vret S hr hlk hG hsz dX0_keepStage_144 ⟨Nat.le_of_ble_eq_true rfl, Nat.le_of_ble_eq_true rfl⟩ rfl
    have loop_10 : ∀ (f : Nat) (v_5 : Int) (S_6 : St) (H : Heap) (locs : List Loc) (ls : Array Slot), mX0_keepStage_40_31 x_4 a1 f v_5 S_6 = some S_7 → gW D cy b n s H locs (enc b cy X S_6) → lv_has ls 10 [(4, .int (iI v_5)), (3, .int (iI x_4)), (0, .ref (b + 40)), (1, .int (iI a1))] → W p l e (gRm 1 0 0) s m args below meth c H locs 0 0 (gQV D cy b s args below 0 0 (fun u => u = (n, enc b cy X o1))) (F0 m 31 ls []) := by
      clear hM
      intro f
      induction f with
      | zero => intro v_5 S_6 H locs ls hM; rw [mX0_keepStage_40_31] at hM; cases hM
      | succ f_12 ih_11 =>
        intro v_5 S_6 H locs ls hM hG hl
        rw [mX0_keepStage_40_31] at hM
        refine lv_iload hx hb dX0_keepStage_31 (lv_at hl 0 rfl) ?_
        refine lv_aload_n hx hb dX0_keepStage_33 rfl (lv_at hl 2 rfl) ?_
        refine m_get S hG 40 40 0 rfl ec_40 cpX0 wm_403 dX0_keepStage_34 rfl (Nat.lt_of_lt_of_le (Nat.le_of_ble_eq_true rfl) hn) (by decide) ?_
        refine m_get S hG 2 2 0 rfl ec_2 cpX2 wm_213 dX0_keepStage_37 rfl (Nat.lt_of_lt_of_le (Nat.le_of_ble_eq_true rfl) hn) (by decide) ?_
        obtain ⟨hg_13, hM⟩ := gd_some hM
        refine gi_icmp_gt (tgt := 144) hx hb dX0_keepStage_40 (by decide) hg_13.1 hg_13.2 (fun c_14 => ?_) (fun c_14 => ?_)
        · replace hM := ifp hM c_14
          cases hM
          exact hK_9 H locs ls hG (lv_sub hl [] rfl)
        · replace hM := ifn hM c_14
          refine lv_lconst (v := jJ 0) hx hb dX0_keepStage_43 (by decide) ?_
          refine lv_lstore (lv' := [(5, .long (jJ 0)), (4, .int (iI v_5)), (3, .int (iI x_4)), (0, .ref (b + 40)), (1, .int (iI a1))]) hx hb dX0_keepStage_44 hl (by decide) rfl (fun ls hl => ?_)
          refine lv_iconst (v := iI 0) hx hb dX0_keepStage_46 (by decide) ?_
          refine lv_istore (lv' := [(7, .int (iI 0)), (5, .long (jJ 0)), (4, .int (iI v_5)), (3, .int (iI x_4)), (0, .ref (b + 40)), (1, .int (iI a1))]) hx hb dX0_keepStage_47 hl (by decide) rfl (fun ls hl => ?_)
          obtain ⟨y_18, S_19, hc_20, hM⟩ := bd2_some hM
          have hK_21 : ∀ (H : Heap) (locs : List Loc) (ls : Array Slot), gW D cy b n s H locs (enc b cy X S_19) → lv_has ls 10 [(4, .int (iI v_5)), (3, .int (iI x_4)), (0, .ref (b + 40)), (1, .int (iI a1)), (5, .long (jJ y_18))] → W p l e (gRm 1 0 0) s m args below meth c H locs 0 0 (gQV D cy b s args below 0 0 (fun u => u = (n, enc b cy X o1))) (F0 m 115 ls []) := by
            intro H locs ls hG hl
            refine lv_aload_n hx hb dX0_keepStage_115 rfl (lv_at hl 2 rfl) ?_
            refine m_get S hG 40 40 0 rfl ec_40 cpX0 wm_403 dX0_keepStage_116 rfl (Nat.lt_of_lt_of_le (Nat.le_of_ble_eq_true rfl) hn) (by decide) ?_
            refine m_get S hG 2 2 6 rfl ec_2 cpX2 wm_245 dX0_keepStage_119 rfl (Nat.lt_of_lt_of_le (Nat.le_of_ble_eq_true rfl) hn) (by decide) ?_
            refine lv_iload_n hx hb dX0_keepStage_122 rfl (lv_at hl 3 rfl) ?_
            obtain ⟨hg_22, hM⟩ := gd_some hM
            refine mi_ald S hG 4 4 rfl ec_4 (Nat.lt_of_lt_of_le (Nat.le_of_ble_eq_true rfl) hn) dX0_keepStage_123 hg_22 (by decide) ?_
            obtain ⟨hg_23, hM⟩ := gd_some hM
            refine gi_if_ne (tgt := 138) hx hb dX0_keepStage_124 (by decide) hg_23 (fun c_24 => ?_) (fun c_24 => ?_)
            · replace hM := ifn hM c_24
              refine lv_iinc (v := iI (v_5 + 1)) (lv' := [(4, .int (iI (v_5 + 1))), (3, .int (iI x_4)), (0, .ref (b + 40)), (1, .int (iI a1)), (5, .long (jJ y_18))]) hx hb dX0_keepStage_138 hl (k := 0) rfl ((iI_add v_5 (1)).trans (congrArg iI (by omega))) (by decide) rfl (fun ls hl => ?_)
              refine lv_goto (tgt := 31) hx hb dX0_keepStage_141 (by decide) ?_
              exact ih_11 (v_5 + 1) S_19 H locs ls hM hG (lv_sub hl [0, 1, 2, 3] rfl)
            · replace hM := ifp hM c_24
              refine lv_aload_n hx hb dX0_keepStage_127 rfl (lv_at hl 2 rfl) ?_
              refine m_get S hG 40 40 7 rfl ec_40 cpX0 wm_410 dX0_keepStage_128 rfl (Nat.lt_of_lt_of_le (Nat.le_of_ble_eq_true rfl) hn) (by decide) ?_
              refine lv_iload_n hx hb dX0_keepStage_131 rfl (lv_at hl 1 rfl) ?_
              refine lv_iload hx hb dX0_keepStage_132 (lv_at hl 0 rfl) ?_
              refine gi_add hx hb dX0_keepStage_134 ?_
              refine lv_lload hx hb dX0_keepStage_135 (lv_at hl 4 rfl) ?_
              obtain ⟨hg_25, hM⟩ := gd_some hM
              refine mj_ast S hG 46 46 rfl ec_46 (Nat.lt_of_lt_of_le (Nat.le_of_ble_eq_true rfl) hn) dX0_keepStage_137 hg_25 (by decide) (fun H locs S_26 eS_26 hG => ?_)
              replace hM := nx_at hM eS_26
              clear eS_26
              refine lv_iinc (v := iI (v_5 + 1)) (lv' := [(4, .int (iI (v_5 + 1))), (3, .int (iI x_4)), (0, .ref (b + 40)), (1, .int (iI a1)), (5, .long (jJ y_18))]) hx hb dX0_keepStage_138 hl (k := 0) rfl ((iI_add v_5 (1)).trans (congrArg iI (by omega))) (by decide) rfl (fun ls hl => ?_)
              refine lv_goto (tgt := 31) hx hb dX0_keepStage_141 (by decide) ?_
              exact ih_11 (v_5 + 1) S_26 H locs ls hM hG (lv_sub hl [0, 1, 2, 3] rfl)
          have loop_27 : ∀ (f : Nat) (v_15 : Int) (v_16 : Int) (S_17 : St) (H : Heap) (locs : List Loc) (ls : Array Slot), mX0_keepStage_40_49 v_5 x_4 a1 f v_15 v_16 S_17 = some (y_18, S_19) → gW D cy b n s H locs (enc b cy X S_17) → lv_has ls 10 [(7, .int (iI v_15)), (5, .long (jJ v_16)), (4, .int (iI v_5)), (3, .int (iI x_4)), (0, .ref (b + 40)), (1, .int (iI a1))] → W p l e (gRm 1 0 0) s m args below meth c H locs 0 0 (gQV D cy b s args below 0 0 (fun u => u = (n, enc b cy X o1))) (F0 m 49 ls []) := by
            clear hM
            intro f
            induction f with
            | zero => intro v_15 v_16 S_17 H locs ls hM; rw [mX0_keepStage_40_49] at hM; cases hM
            | succ f_29 ih_28 =>
              intro v_15 v_16 S_17 H locs ls hM hG hl
              rw [mX0_keepStage_40_49] at hM
              refine lv_iload hx hb dX0_keepStage_49 (lv_at hl 0 rfl) ?_
              refine lv_aload_n hx hb dX0_keepStage_51 rfl (lv_at hl 4 rfl) ?_
              refine lv_iload_n hx hb dX0_keepStage_52 rfl (lv_at hl 5 rfl) ?_
              obtain ⟨r_31, hc_30, hM⟩ := bd1_some hM
              refine g_vi (As := [.int (iI a1)]) (rest := [.int (iI v_15)]) S hG hsz (vX0_longest_40 l hn a1 hc_30) wV_0_176 (ec_40 _) cpX0 (Nat.lt_of_lt_of_le (Nat.le_of_ble_eq_true rfl) hn) dX0_keepStage_53 rfl hl.1 (ar := 1) (by decide +kernel) rfl ⟨Nat.le_of_ble_eq_true rfl, Nat.le_of_ble_eq_true rfl, Nat.le_of_ble_eq_true rfl, Nat.le_of_ble_eq_true rfl⟩ (Nat.le_of_ble_eq_true rfl) (fun rv uu H locs hp hG => ?_)
              obtain ⟨rfl, rfl⟩ := hp
              replace hG : gW D cy b n s H locs (enc b cy X S_17) := hG
              obtain ⟨hg_32, hM⟩ := gd_some hM
              refine gi_icmp_gt (tgt := 115) hx hb dX0_keepStage_56 (by decide) hg_32.1 hg_32.2 (fun c_33 => ?_) (fun c_33 => ?_)
              · replace hM := ifp hM c_33
                cases hM
                exact hK_21 H locs ls hG (lv_sub hl [2, 3, 4, 5, 1] rfl)
              · replace hM := ifn hM c_33
                refine lv_aload_n hx hb dX0_keepStage_59 rfl (lv_at hl 4 rfl) ?_
                refine m_get S hG 40 40 5 rfl ec_40 cpX0 wm_408 dX0_keepStage_60 rfl (Nat.lt_of_lt_of_le (Nat.le_of_ble_eq_true rfl) hn) (by decide) ?_
                refine lv_iload_n hx hb dX0_keepStage_63 rfl (lv_at hl 5 rfl) ?_
                refine lv_sipush (v := iI 512) hx hb dX0_keepStage_64 (by decide) ?_
                refine gi_mul hx hb dX0_keepStage_67 ?_
                refine lv_iload hx hb dX0_keepStage_68 (lv_at hl 0 rfl) ?_
                refine lv_bipush (v := iI 64) hx hb dX0_keepStage_70 (by decide) ?_
                refine gi_mul hx hb dX0_keepStage_72 ?_
                refine gi_add hx hb dX0_keepStage_73 ?_
                refine lv_iload hx hb dX0_keepStage_74 (lv_at hl 2 rfl) ?_
                refine lv_bipush (v := iI 8) hx hb dX0_keepStage_76 (by decide) ?_
                refine gi_mul hx hb dX0_keepStage_78 ?_
                refine gi_add hx hb dX0_keepStage_79 ?_
                obtain ⟨hg_34, hM⟩ := gd_some hM
                refine mj_ald S hG 44 44 rfl ec_44 (Nat.lt_of_lt_of_le (Nat.le_of_ble_eq_true rfl) hn) dX0_keepStage_80 hg_34 (by decide) ?_
                refine gj_nm (fun x_35 ex_35 => ?_)
                replace hM := nx_at hM ex_35
                clear ex_35
                refine lv_lstore (lv' := [(8, .long (jJ x_35)), (7, .int (iI v_15)), (5, .long (jJ v_16)), (4, .int (iI v_5)), (3, .int (iI x_4)), (0, .ref (b + 40)), (1, .int (iI a1))]) hx hb dX0_keepStage_81 hl (by decide) rfl (fun ls hl => ?_)
                refine lv_aload_n hx hb dX0_keepStage_83 rfl (lv_at hl 5 rfl) ?_
                refine m_get S hG 40 40 7 rfl ec_40 cpX0 wm_410 dX0_keepStage_84 rfl (Nat.lt_of_lt_of_le (Nat.le_of_ble_eq_true rfl) hn) (by decide) ?_
                refine lv_iload_n hx hb dX0_keepStage_87 rfl (lv_at hl 4 rfl) ?_
                refine lv_iload hx hb dX0_keepStage_88 (lv_at hl 1 rfl) ?_
                refine lv_bipush (v := iI 8) hx hb dX0_keepStage_90 (by decide) ?_
                refine gi_mul hx hb dX0_keepStage_92 ?_
                refine gi_add hx hb dX0_keepStage_93 ?_
                refine lv_iload hx hb dX0_keepStage_94 (lv_at hl 3 rfl) ?_
                refine gi_add hx hb dX0_keepStage_96 ?_
                refine lv_lload hx hb dX0_keepStage_97 (lv_at hl 0 rfl) ?_
                obtain ⟨hg_36, hM⟩ := gd_some hM
                refine mj_ast S hG 46 46 rfl ec_46 (Nat.lt_of_lt_of_le (Nat.le_of_ble_eq_true rfl) hn) dX0_keepStage_99 hg_36 (by decide) (fun H locs S_37 eS_37 hG => ?_)
                replace hM := nx_at hM eS_37
                clear eS_37
                refine lv_lload hx hb dX0_keepStage_100 (lv_at hl 2 rfl) ?_
                refine lv_lload hx hb dX0_keepStage_102 (lv_at hl 0 rfl) ?_
                obtain ⟨r_39, hc_38, hM⟩ := bd1_some hM
                refine g_slN (As := [.long (jJ v_16), .long (jJ x_35)]) (rest := []) S hG hsz (vX11_plus l hn v_16 x_35 hc_38) (y := yX11_plus) (host := "GrownKinds") (by decide +kernel) ⟨wm_997, wm_177, wm_998, by decide +kernel, by decide +kernel⟩ dX0_keepStage_104 rfl hl.1 (ar := 2) (by decide +kernel) rfl ⟨Nat.le_of_ble_eq_true rfl, Nat.le_of_ble_eq_true rfl, Nat.le_of_ble_eq_true rfl, Nat.le_of_ble_eq_true rfl⟩ (Nat.le_of_ble_eq_true rfl) (fun rv uu H locs hp hG => ?_)
                obtain ⟨rfl, rfl⟩ := hp
                replace hG : gW D cy b n s H locs (enc b cy X S_37) := hG
                refine lv_lstore (lv' := [(5, .long (jJ r_39)), (8, .long (jJ x_35)), (7, .int (iI v_15)), (4, .int (iI v_5)), (3, .int (iI x_4)), (0, .ref (b + 40)), (1, .int (iI a1))]) hx hb dX0_keepStage_107 hl (by decide) rfl (fun ls hl => ?_)
                refine lv_iinc (v := iI (v_15 + 1)) (lv' := [(7, .int (iI (v_15 + 1))), (5, .long (jJ r_39)), (8, .long (jJ x_35)), (4, .int (iI v_5)), (3, .int (iI x_4)), (0, .ref (b + 40)), (1, .int (iI a1))]) hx hb dX0_keepStage_109 hl (k := 2) rfl ((iI_add v_15 (1)).trans (congrArg iI (by omega))) (by decide) rfl (fun ls hl => ?_)
                refine lv_goto (tgt := 49) hx hb dX0_keepStage_112 (by decide) ?_
                exact ih_28 (v_15 + 1) r_39 S_37 H locs ls hM hG (lv_sub hl [0, 1, 3, 4, 5, 6] rfl)
          exact loop_27 FU 0 0 S_6 H locs ls hc_20 hG (lv_sub hl [0, 1, 2, 3, 4, 5] rfl)
    exact loop_10 FU 0 S0 H locs ls hc_8 hG (lv_sub hl [0, 1, 2, 3] rfl)
def mX0_addClasses_40_103 (v_1 : Int) (a1 : Int) (a2 : Int) : Nat → Int → St → Option (St)
  | 0, _, _ => none
  | f + 1, v_27, S_28 => gd (inI v_27) <| if v_27 < a2 then (some (S_28)) else (bd1 (mX0_addClass_40 S_28 a1 v_27 a2 v_1) fun S_38 => mX0_addClasses_40_103 v_1 a1 a2 f (v_27 - 1) S_38)
def mX0_addClasses_40_35 (r_18 : Int) (v_1 : Int) (a1 : Int) (a2 : Int) : Nat → Int → St → Option (St)
  | 0, _, _ => none
  | f + 1, v_21, S_22 => gd (inI v_21) <| if 8 ≤ v_21 then (some (S_22)) else (gd ((inI (v_21 * a2)) ∧ (inI (S_22 2 0))) <| if (S_22 2 0) < (v_21 * a2) then (some (S_22)) else (gd (0 ≤ a1 ∧ a1 < 24) <| gd (inI (S_22 3 a1)) <| if (S_22 3 a1) = 5 then (bd1 (mX11_picks r_18 v_21 1) fun r_54 => gd (0 ≤ v_21 ∧ v_21 < 8) <| nx (up S_22 45 v_21 r_54) fun S_56 => mX0_addClasses_40_35 r_18 v_1 a1 a2 f (v_21 + 1) S_56) else (bd1 (mX11_picks r_18 v_21 0) fun r_50 => gd (0 ≤ v_21 ∧ v_21 < 8) <| nx (up S_22 45 v_21 r_50) fun S_52 => mX0_addClasses_40_35 r_18 v_1 a1 a2 f (v_21 + 1) S_52)))
def mX0_addClasses_40_2 (a1 : Int) (a2 : Int) : Nat → Int → St → Option (St)
  | 0, _, _ => none
  | f + 1, v_1, S_2 => gd (inI a2) <| if a2 ≤ 0 then (some (S_2)) else (bd1 (mX0_letterTop_40 S_2 a2) fun r_14 => gd ((inI v_1) ∧ (inI r_14)) <| if r_14 < v_1 then (some (S_2)) else (bd1 (mX0_rowsOf_40 S_2 a1 1 a2 v_1) fun r_18 => gd (inL r_18) <| if r_18 ≤ 0 then (mX0_addClasses_40_2 a1 a2 f (v_1 + 1) S_2) else (bd1 (mX0_addClasses_40_35 r_18 v_1 a1 a2 FU 1 S_2) fun S_23 => nx (S_23 2 0) fun x_26 => bd1 (mX0_addClasses_40_103 v_1 a1 a2 FU x_26 S_23) fun S_29 => mX0_addClasses_40_2 a1 a2 f (v_1 + 1) S_29)))
def mX0_addClasses_40 (S0 : St) (a1 : Int) (a2 : Int) : Option (St) := bd1 (mX0_addClasses_40_2 a1 a2 FU 0 S0) fun S_3 => bd1 (mX0_keepStage_40 S_3 a1 a2) fun S_7 => some (S_7)
set_option maxHeartbeats 4000000 in
set_option maxRecDepth 100000 in
theorem vX0_addClasses_40 (l : Launch) {D : va_G} {cy : Nat → ClassId} {b n : Nat} (hn : 102 ≤ n) {X : Nat → va_E} {S0 : St} (a1 : Int) (a2 : Int) {o1 : St} (hM : mX0_addClasses_40 S0 a1 a2 = some o1) : gV l yX0_addClasses cX0_addClasses 7 2 0 0 D cy b n (enc b cy X S0) [.ref (b + 40), .int (iI a1), .int (iI a2)] (fun u => u = (n, enc b cy X o1)) := by
  refine gV_of (by decide) (Nat.le_of_ble_eq_true rfl) ?_
  intro p e s m args below meth c S hr hlk hin hsz ls hl hG
  have hx := S.1
  have hb := S.2.1
  have hl : lv_has ls 7 [(0, .ref (b + 40)), (1, .int (iI a1)), (2, .int (iI a2))] := hl
  replace hG : gW D cy b n s s.heap [] (enc b cy X S0) := hG
  obtain ⟨H, eH⟩ : ∃ H, H = s.heap := ⟨_, rfl⟩
  obtain ⟨locs, elocs⟩ : ∃ locs : List Loc, locs = [] := ⟨_, rfl⟩
  rw [← eH, ← elocs] at hG
  rw [← eH, ← elocs]
  clear eH elocs
  unfold mX0_addClasses_40 at hM
  refine lv_iconst (v := iI 0) hx hb dX0_addClasses_0 (by decide) ?_
  refine lv_istore_n (lv' := [(3, .int (iI 0)), (0, .ref (b + 40)), (1, .int (iI a1)), (2, .int (iI a2))]) hx hb dX0_addClasses_1 rfl hl (by decide) rfl (fun ls hl => ?_)
  obtain ⟨S_3, hc_4, hM⟩ := bd1_some hM
  have hK_5 : ∀ (H : Heap) (locs : List Loc) (ls : Array Slot), gW D cy b n s H locs (enc b cy X S_3) → lv_has ls 7 [(0, .ref (b + 40)), (1, .int (iI a1)), (2, .int (iI a2))] → W p l e (gRm 2 0 0) s m args below meth c H locs 0 0 (gQV D cy b s args below 0 0 (fun u => u = (n, enc b cy X o1))) (F0 m 130 ls []) := by
    intro H locs ls hG hl
    refine lv_aload_n hx hb dX0_addClasses_130 rfl (lv_at hl 0 rfl) ?_
    refine lv_iload_n hx hb dX0_addClasses_131 rfl (lv_at hl 1 rfl) ?_
    refine lv_iload_n hx hb dX0_addClasses_132 rfl (lv_at hl 2 rfl) ?_
    obtain ⟨S_7, hc_6, hM⟩ := bd1_some hM
    refine g_vv (As := [.int (iI a1), .int (iI a2)]) (rest := []) S hG hsz (vX0_keepStage_40 l hn a1 a2 hc_6) wV_0_149 (ec_40 _) cpX0 (Nat.lt_of_lt_of_le (Nat.le_of_ble_eq_true rfl) hn) dX0_addClasses_133 rfl hl.1 (ar := 2) (by decide +kernel) rfl ⟨Nat.le_of_ble_eq_true rfl, Nat.le_of_ble_eq_true rfl, Nat.le_of_ble_eq_true rfl, Nat.le_of_ble_eq_true rfl⟩ (Nat.le_of_ble_eq_true rfl) (fun uu H locs hp hG => ?_)
    obtain rfl := hp
    replace hG : gW D cy b n s H locs (enc b cy X S_7) := hG
    cases hM
    exact g_vret S hr hlk hG hsz dX0_addClasses_136 ⟨Nat.le_of_ble_eq_true rfl, Nat.le_of_ble_eq_true rfl⟩ rfl
  have loop_8 : ∀ (f : Nat) (v_1 : Int) (S_2 : St) (H : Heap) (locs : List Loc) (ls : Array Slot), mX0_addClasses_40_2 a1 a2 f v_1 S_2 = some S_3 → gW D cy b n s H locs (enc b cy X S_2) → lv_has ls 7 [(3, .int (iI v_1)), (0, .ref (b + 40)), (1, .int (iI a1)), (2, .int (iI a2))] → W p l e (gRm 2 0 0) s m args below meth c H locs 0 0 (gQV D cy b s args below 0 0 (fun u => u = (n, enc b cy X o1))) (F0 m 2 ls []) := by
    clear hM
    intro f
    induction f with
    | zero => intro v_1 S_2 H locs ls hM; rw [mX0_addClasses_40_2] at hM; cases hM
    | succ f_10 ih_9 =>
      intro v_1 S_2 H locs ls hM hG hl
      rw [mX0_addClasses_40_2] at hM
      refine lv_iload_n hx hb dX0_addClasses_2 rfl (lv_at hl 3 rfl) ?_
      obtain ⟨hg_11, hM⟩ := gd_some hM
      refine gi_if_le (tgt := 130) hx hb dX0_addClasses_3 (by decide) hg_11 (fun c_12 => ?_) (fun c_12 => ?_)
      · replace hM := ifp hM c_12
        cases hM
        exact hK_5 H locs ls hG (lv_sub hl [1, 2, 3] rfl)
      · replace hM := ifn hM c_12
        refine lv_iload_n hx hb dX0_addClasses_6 rfl (lv_at hl 0 rfl) ?_
        refine lv_aload_n hx hb dX0_addClasses_7 rfl (lv_at hl 1 rfl) ?_
        refine lv_iload_n hx hb dX0_addClasses_8 rfl (lv_at hl 3 rfl) ?_
        obtain ⟨r_14, hc_13, hM⟩ := bd1_some hM
        refine g_vi (As := [.int (iI a2)]) (rest := [.int (iI v_1)]) S hG hsz (vX0_letterTop_40 l hn a2 hc_13) wV_0_108 (ec_40 _) cpX0 (Nat.lt_of_lt_of_le (Nat.le_of_ble_eq_true rfl) hn) dX0_addClasses_9 rfl hl.1 (ar := 1) (by decide +kernel) rfl ⟨Nat.le_of_ble_eq_true rfl, Nat.le_of_ble_eq_true rfl, Nat.le_of_ble_eq_true rfl, Nat.le_of_ble_eq_true rfl⟩ (Nat.le_of_ble_eq_true rfl) (fun rv uu H locs hp hG => ?_)
        obtain ⟨rfl, rfl⟩ := hp
        replace hG : gW D cy b n s H locs (enc b cy X S_2) := hG
        obtain ⟨hg_15, hM⟩ := gd_some hM
        refine gi_icmp_gt (tgt := 130) hx hb dX0_addClasses_12 (by decide) hg_15.1 hg_15.2 (fun c_16 => ?_) (fun c_16 => ?_)
        · replace hM := ifp hM c_16
          cases hM
          exact hK_5 H locs ls hG (lv_sub hl [1, 2, 3] rfl)
        · replace hM := ifn hM c_16
          refine lv_aload_n hx hb dX0_addClasses_15 rfl (lv_at hl 1 rfl) ?_
          refine lv_iload_n hx hb dX0_addClasses_16 rfl (lv_at hl 2 rfl) ?_
          refine lv_iconst (v := iI 1) hx hb dX0_addClasses_17 (by decide) ?_
          refine lv_iload_n hx hb dX0_addClasses_18 rfl (lv_at hl 3 rfl) ?_
          refine lv_iload_n hx hb dX0_addClasses_19 rfl (lv_at hl 0 rfl) ?_
          obtain ⟨r_18, hc_17, hM⟩ := bd1_some hM
          refine g_vl (As := [.int (iI a1), .int (iI 1), .int (iI a2), .int (iI v_1)]) (rest := []) S hG hsz (vX0_rowsOf_40 l hn a1 1 a2 v_1 hc_17) wV_0_101 (ec_40 _) cpX0 (Nat.lt_of_lt_of_le (Nat.le_of_ble_eq_true rfl) hn) dX0_addClasses_20 rfl hl.1 (ar := 4) (by decide +kernel) rfl ⟨Nat.le_of_ble_eq_true rfl, Nat.le_of_ble_eq_true rfl, Nat.le_of_ble_eq_true rfl, Nat.le_of_ble_eq_true rfl⟩ (Nat.le_of_ble_eq_true rfl) (fun rv uu H locs hp hG => ?_)
          obtain ⟨rfl, rfl⟩ := hp
          replace hG : gW D cy b n s H locs (enc b cy X S_2) := hG
          refine lv_lstore (lv' := [(4, .long (jJ r_18)), (3, .int (iI v_1)), (0, .ref (b + 40)), (1, .int (iI a1)), (2, .int (iI a2))]) hx hb dX0_addClasses_23 hl (by decide) rfl (fun ls hl => ?_)
          refine lv_lload hx hb dX0_addClasses_25 (lv_at hl 0 rfl) ?_
          refine lv_lconst (v := jJ 0) hx hb dX0_addClasses_27 (by decide) ?_
          obtain ⟨hg_19, hM⟩ := gd_some hM
          refine gj_cmp_le (tgt := 124) hx hb dX0_addClasses_28 dX0_addClasses_29 (by decide) hg_19 (by decide) (fun c_20 => ?_) (fun c_20 => ?_)
          · replace hM := ifp hM c_20
            refine lv_iinc (v := iI (v_1 + 1)) (lv' := [(3, .int (iI (v_1 + 1))), (4, .long (jJ r_18)), (0, .ref (b + 40)), (1, .int (iI a1)), (2, .int (iI a2))]) hx hb dX0_addClasses_124 hl (k := 1) rfl ((iI_add v_1 (1)).trans (congrArg iI (by omega))) (by decide) rfl (fun ls hl => ?_)
            refine lv_goto (tgt := 2) hx hb dX0_addClasses_127 (by decide) ?_
            exact ih_9 (v_1 + 1) S_2 H locs ls hM hG (lv_sub hl [0, 2, 3, 4] rfl)
          · replace hM := ifn hM c_20
            refine lv_iconst (v := iI 1) hx hb dX0_addClasses_32 (by decide) ?_
            refine lv_istore (lv' := [(6, .int (iI 1)), (4, .long (jJ r_18)), (3, .int (iI v_1)), (0, .ref (b + 40)), (1, .int (iI a1)), (2, .int (iI a2))]) hx hb dX0_addClasses_33 hl (by decide) rfl (fun ls hl => ?_)
            obtain ⟨S_23, hc_24, hM⟩ := bd1_some hM
            have hK_25 : ∀ (H : Heap) (locs : List Loc) (ls : Array Slot), gW D cy b n s H locs (enc b cy X S_23) → lv_has ls 7 [(3, .int (iI v_1)), (0, .ref (b + 40)), (1, .int (iI a1)), (2, .int (iI a2))] → W p l e (gRm 2 0 0) s m args below meth c H locs 0 0 (gQV D cy b s args below 0 0 (fun u => u = (n, enc b cy X o1))) (F0 m 94 ls []) := by
              intro H locs ls hG hl
              refine lv_aload_n hx hb dX0_addClasses_94 rfl (lv_at hl 1 rfl) ?_
              refine m_get S hG 40 40 0 rfl ec_40 cpX0 wm_403 dX0_addClasses_95 rfl (Nat.lt_of_lt_of_le (Nat.le_of_ble_eq_true rfl) hn) (by decide) ?_
              refine m_get S hG 2 2 0 rfl ec_2 cpX2 wm_213 dX0_addClasses_98 rfl (Nat.lt_of_lt_of_le (Nat.le_of_ble_eq_true rfl) hn) (by decide) ?_
              refine gi_nm (fun x_26 ex_26 => ?_)
              replace hM := nx_at hM ex_26
              clear ex_26
              refine lv_istore (lv' := [(6, .int (iI x_26)), (3, .int (iI v_1)), (0, .ref (b + 40)), (1, .int (iI a1)), (2, .int (iI a2))]) hx hb dX0_addClasses_101 hl (by decide) rfl (fun ls hl => ?_)
              obtain ⟨S_29, hc_30, hM⟩ := bd1_some hM
              have hK_31 : ∀ (H : Heap) (locs : List Loc) (ls : Array Slot), gW D cy b n s H locs (enc b cy X S_29) → lv_has ls 7 [(3, .int (iI v_1)), (0, .ref (b + 40)), (1, .int (iI a1)), (2, .int (iI a2))] → W p l e (gRm 2 0 0) s m args below meth c H locs 0 0 (gQV D cy b s args below 0 0 (fun u => u = (n, enc b cy X o1))) (F0 m 124 ls []) := by
                intro H locs ls hG hl
                refine lv_iinc (v := iI (v_1 + 1)) (lv' := [(3, .int (iI (v_1 + 1))), (0, .ref (b + 40)), (1, .int (iI a1)), (2, .int (iI a2))]) hx hb dX0_addClasses_124 hl (k := 0) rfl ((iI_add v_1 (1)).trans (congrArg iI (by omega))) (by decide) rfl (fun ls hl => ?_)
                refine lv_goto (tgt := 2) hx hb dX0_addClasses_127 (by decide) ?_
                exact ih_9 (v_1 + 1) S_29 H locs ls hM hG (lv_sub hl [0, 1, 2, 3] rfl)
              have loop_32 : ∀ (f : Nat) (v_27 : Int) (S_28 : St) (H : Heap) (locs : List Loc) (ls : Array Slot), mX0_addClasses_40_103 v_1 a1 a2 f v_27 S_28 = some S_29 → gW D cy b n s H locs (enc b cy X S_28) → lv_has ls 7 [(6, .int (iI v_27)), (3, .int (iI v_1)), (0, .ref (b + 40)), (1, .int (iI a1)), (2, .int (iI a2))] → W p l e (gRm 2 0 0) s m args below meth c H locs 0 0 (gQV D cy b s args below 0 0 (fun u => u = (n, enc b cy X o1))) (F0 m 103 ls []) := by
                clear hM
                intro f
                induction f with
                | zero => intro v_27 S_28 H locs ls hM; rw [mX0_addClasses_40_103] at hM; cases hM
                | succ f_34 ih_33 =>
                  intro v_27 S_28 H locs ls hM hG hl
                  rw [mX0_addClasses_40_103] at hM
                  refine lv_iload hx hb dX0_addClasses_103 (lv_at hl 0 rfl) ?_
                  refine lv_iload_n hx hb dX0_addClasses_105 rfl (lv_at hl 4 rfl) ?_
                  obtain ⟨hg_35, hM⟩ := gd_some hM
                  refine gi_icmp_lt (tgt := 124) hx hb dX0_addClasses_106 (by decide) hg_35 hg_11 (fun c_36 => ?_) (fun c_36 => ?_)
                  · replace hM := ifp hM c_36
                    cases hM
                    exact hK_31 H locs ls hG (lv_sub hl [1, 2, 3, 4] rfl)
                  · replace hM := ifn hM c_36
                    refine lv_aload_n hx hb dX0_addClasses_109 rfl (lv_at hl 2 rfl) ?_
                    refine lv_iload_n hx hb dX0_addClasses_110 rfl (lv_at hl 3 rfl) ?_
                    refine lv_iload hx hb dX0_addClasses_111 (lv_at hl 0 rfl) ?_
                    refine lv_iload_n hx hb dX0_addClasses_113 rfl (lv_at hl 4 rfl) ?_
                    refine lv_iload_n hx hb dX0_addClasses_114 rfl (lv_at hl 1 rfl) ?_
                    obtain ⟨S_38, hc_37, hM⟩ := bd1_some hM
                    refine g_vv (As := [.int (iI a1), .int (iI v_27), .int (iI a2), .int (iI v_1)]) (rest := []) S hG hsz (vX0_addClass_40 l hn a1 v_27 a2 v_1 hc_37) wV_0_185 (ec_40 _) cpX0 (Nat.lt_of_lt_of_le (Nat.le_of_ble_eq_true rfl) hn) dX0_addClasses_115 rfl hl.1 (ar := 4) (by decide +kernel) rfl ⟨Nat.le_of_ble_eq_true rfl, Nat.le_of_ble_eq_true rfl, Nat.le_of_ble_eq_true rfl, Nat.le_of_ble_eq_true rfl⟩ (Nat.le_of_ble_eq_true rfl) (fun uu H locs hp hG => ?_)
                    obtain rfl := hp
                    replace hG : gW D cy b n s H locs (enc b cy X S_38) := hG
                    refine lv_iinc (v := iI (v_27 - 1)) (lv' := [(6, .int (iI (v_27 - 1))), (3, .int (iI v_1)), (0, .ref (b + 40)), (1, .int (iI a1)), (2, .int (iI a2))]) hx hb dX0_addClasses_118 hl (k := 0) rfl ((iI_add v_27 (-1)).trans (congrArg iI (by omega))) (by decide) rfl (fun ls hl => ?_)
                    refine lv_goto (tgt := 103) hx hb dX0_addClasses_121 (by decide) ?_
                    exact ih_33 (v_27 - 1) S_38 H locs ls hM hG (lv_sub hl [0, 1, 2, 3, 4] rfl)
              exact loop_32 FU x_26 S_23 H locs ls hc_30 hG (lv_sub hl [0, 1, 2, 3, 4] rfl)
            have loop_39 : ∀ (f : Nat) (v_21 : Int) (S_22 : St) (H : Heap) (locs : List Loc) (ls : Array Slot), mX0_addClasses_40_35 r_18 v_1 a1 a2 f v_21 S_22 = some S_23 → gW D cy b n s H locs (enc b cy X S_22) → lv_has ls 7 [(6, .int (iI v_21)), (4, .long (jJ r_18)), (3, .int (iI v_1)), (0, .ref (b + 40)), (1, .int (iI a1)), (2, .int (iI a2))] → W p l e (gRm 2 0 0) s m args below meth c H locs 0 0 (gQV D cy b s args below 0 0 (fun u => u = (n, enc b cy X o1))) (F0 m 35 ls []) := by
              clear hM
              intro f
              induction f with
              | zero => intro v_21 S_22 H locs ls hM; rw [mX0_addClasses_40_35] at hM; cases hM
              | succ f_41 ih_40 =>
                intro v_21 S_22 H locs ls hM hG hl
                rw [mX0_addClasses_40_35] at hM
                refine lv_iload hx hb dX0_addClasses_35 (lv_at hl 0 rfl) ?_
                refine lv_bipush (v := iI 8) hx hb dX0_addClasses_37 (by decide) ?_
                obtain ⟨hg_42, hM⟩ := gd_some hM
                refine gi_icmp_ge (tgt := 94) hx hb dX0_addClasses_39 (by decide) hg_42 (by decide) (fun c_43 => ?_) (fun c_43 => ?_)
                · replace hM := ifp hM c_43
                  cases hM
                  exact hK_25 H locs ls hG (lv_sub hl [2, 3, 4, 5] rfl)
                · replace hM := ifn hM c_43
                  refine lv_iload hx hb dX0_addClasses_42 (lv_at hl 0 rfl) ?_
                  refine lv_iload_n hx hb dX0_addClasses_44 rfl (lv_at hl 5 rfl) ?_
                  refine gi_mul hx hb dX0_addClasses_45 ?_
                  refine lv_aload_n hx hb dX0_addClasses_46 rfl (lv_at hl 3 rfl) ?_
                  refine m_get S hG 40 40 0 rfl ec_40 cpX0 wm_403 dX0_addClasses_47 rfl (Nat.lt_of_lt_of_le (Nat.le_of_ble_eq_true rfl) hn) (by decide) ?_
                  refine m_get S hG 2 2 0 rfl ec_2 cpX2 wm_213 dX0_addClasses_50 rfl (Nat.lt_of_lt_of_le (Nat.le_of_ble_eq_true rfl) hn) (by decide) ?_
                  obtain ⟨hg_44, hM⟩ := gd_some hM
                  refine gi_icmp_gt (tgt := 94) hx hb dX0_addClasses_53 (by decide) hg_44.1 hg_44.2 (fun c_45 => ?_) (fun c_45 => ?_)
                  · replace hM := ifp hM c_45
                    cases hM
                    exact hK_25 H locs ls hG (lv_sub hl [2, 3, 4, 5] rfl)
                  · replace hM := ifn hM c_45
                    refine lv_aload_n hx hb dX0_addClasses_56 rfl (lv_at hl 3 rfl) ?_
                    refine m_get S hG 40 40 6 rfl ec_40 cpX0 wm_409 dX0_addClasses_57 rfl (Nat.lt_of_lt_of_le (Nat.le_of_ble_eq_true rfl) hn) (by decide) ?_
                    refine lv_iload hx hb dX0_addClasses_60 (lv_at hl 0 rfl) ?_
                    refine lv_lload hx hb dX0_addClasses_62 (lv_at hl 1 rfl) ?_
                    refine lv_iload hx hb dX0_addClasses_64 (lv_at hl 0 rfl) ?_
                    refine lv_aload_n hx hb dX0_addClasses_66 rfl (lv_at hl 3 rfl) ?_
                    refine m_get S hG 40 40 0 rfl ec_40 cpX0 wm_403 dX0_addClasses_67 rfl (Nat.lt_of_lt_of_le (Nat.le_of_ble_eq_true rfl) hn) (by decide) ?_
                    refine m_get S hG 2 2 5 rfl ec_2 cpX2 wm_239 dX0_addClasses_70 rfl (Nat.lt_of_lt_of_le (Nat.le_of_ble_eq_true rfl) hn) (by decide) ?_
                    refine lv_iload_n hx hb dX0_addClasses_73 rfl (lv_at hl 4 rfl) ?_
                    obtain ⟨hg_46, hM⟩ := gd_some hM
                    refine mi_ald S hG 3 3 rfl ec_3 (Nat.lt_of_lt_of_le (Nat.le_of_ble_eq_true rfl) hn) dX0_addClasses_74 hg_46 (by decide) ?_
                    refine lv_iconst (v := iI 5) hx hb dX0_addClasses_75 (by decide) ?_
                    obtain ⟨hg_47, hM⟩ := gd_some hM
                    refine gi_icmp_ne (tgt := 83) hx hb dX0_addClasses_76 (by decide) hg_47 (by decide) (fun c_48 => ?_) (fun c_48 => ?_)
                    · replace hM := ifn hM c_48
                      refine lv_iconst (v := iI 0) hx hb dX0_addClasses_83 (by decide) ?_
                      obtain ⟨r_50, hc_49, hM⟩ := bd1_some hM
                      refine g_slN (As := [.long (jJ r_18), .int (iI v_21), .int (iI 0)]) (rest := [.int (iI v_21), .ref (b + 45)]) S hG hsz (vX11_picks l hn r_18 v_21 0 hc_49) (y := yX11_picks) (host := "GrownKinds") (by decide +kernel) ⟨wm_1045, wm_177, wm_1046, by decide +kernel, by decide +kernel⟩ dX0_addClasses_84 rfl hl.1 (ar := 3) (by decide +kernel) rfl ⟨Nat.le_of_ble_eq_true rfl, Nat.le_of_ble_eq_true rfl, Nat.le_of_ble_eq_true rfl, Nat.le_of_ble_eq_true rfl⟩ (Nat.le_of_ble_eq_true rfl) (fun rv uu H locs hp hG => ?_)
                      obtain ⟨rfl, rfl⟩ := hp
                      replace hG : gW D cy b n s H locs (enc b cy X S_22) := hG
                      obtain ⟨hg_51, hM⟩ := gd_some hM
                      refine mj_ast S hG 45 45 rfl ec_45 (Nat.lt_of_lt_of_le (Nat.le_of_ble_eq_true rfl) hn) dX0_addClasses_87 hg_51 (by decide) (fun H locs S_52 eS_52 hG => ?_)
                      replace hM := nx_at hM eS_52
                      clear eS_52
                      refine lv_iinc (v := iI (v_21 + 1)) (lv' := [(6, .int (iI (v_21 + 1))), (4, .long (jJ r_18)), (3, .int (iI v_1)), (0, .ref (b + 40)), (1, .int (iI a1)), (2, .int (iI a2))]) hx hb dX0_addClasses_88 hl (k := 0) rfl ((iI_add v_21 (1)).trans (congrArg iI (by omega))) (by decide) rfl (fun ls hl => ?_)
                      refine lv_goto (tgt := 35) hx hb dX0_addClasses_91 (by decide) ?_
                      exact ih_40 (v_21 + 1) S_52 H locs ls hM hG (lv_sub hl [0, 1, 2, 3, 4, 5] rfl)
                    · replace hM := ifp hM c_48
                      refine lv_iconst (v := iI 1) hx hb dX0_addClasses_79 (by decide) ?_
                      refine lv_goto (tgt := 84) hx hb dX0_addClasses_80 (by decide) ?_
                      obtain ⟨r_54, hc_53, hM⟩ := bd1_some hM
                      refine g_slN (As := [.long (jJ r_18), .int (iI v_21), .int (iI 1)]) (rest := [.int (iI v_21), .ref (b + 45)]) S hG hsz (vX11_picks l hn r_18 v_21 1 hc_53) (y := yX11_picks) (host := "GrownKinds") (by decide +kernel) ⟨wm_1045, wm_177, wm_1046, by decide +kernel, by decide +kernel⟩ dX0_addClasses_84 rfl hl.1 (ar := 3) (by decide +kernel) rfl ⟨Nat.le_of_ble_eq_true rfl, Nat.le_of_ble_eq_true rfl, Nat.le_of_ble_eq_true rfl, Nat.le_of_ble_eq_true rfl⟩ (Nat.le_of_ble_eq_true rfl) (fun rv uu H locs hp hG => ?_)
                      obtain ⟨rfl, rfl⟩ := hp
                      replace hG : gW D cy b n s H locs (enc b cy X S_22) := hG
                      obtain ⟨hg_55, hM⟩ := gd_some hM
                      refine mj_ast S hG 45 45 rfl ec_45 (Nat.lt_of_lt_of_le (Nat.le_of_ble_eq_true rfl) hn) dX0_addClasses_87 hg_55 (by decide) (fun H locs S_56 eS_56 hG => ?_)
                      replace hM := nx_at hM eS_56
                      clear eS_56
                      refine lv_iinc (v := iI (v_21 + 1)) (lv' := [(6, .int (iI (v_21 + 1))), (4, .long (jJ r_18)), (3, .int (iI v_1)), (0, .ref (b + 40)), (1, .int (iI a1)), (2, .int (iI a2))]) hx hb dX0_addClasses_88 hl (k := 0) rfl ((iI_add v_21 (1)).trans (congrArg iI (by omega))) (by decide) rfl (fun ls hl => ?_)
                      refine lv_goto (tgt := 35) hx hb dX0_addClasses_91 (by decide) ?_
                      exact ih_40 (v_21 + 1) S_56 H locs ls hM hG (lv_sub hl [0, 1, 2, 3, 4, 5] rfl)
            exact loop_39 FU 1 S_2 H locs ls hc_24 hG (lv_sub hl [0, 1, 2, 3, 4, 5] rfl)
  exact loop_8 FU 0 S0 H locs ls hc_4 hG (lv_sub hl [0, 1, 2, 3] rfl)
theorem wV_0_164 : gWV "GrownKinds$Census" 164 yX0_sequencesOf cX0_sequencesOf 6 (some .long) := ⟨wm_1065, wm_1067, wm_45, wm_181, wm_1068, by decide +kernel, by decide +kernel⟩
theorem wV_0_167 : gWV "GrownKinds$Census" 167 yX0_ringsOf cX0_ringsOf 8 (some .long) := ⟨wm_1069, wm_1071, wm_46, wm_181, wm_1072, by decide +kernel, by decide +kernel⟩
def mX0_ringsOf_40_6 (S0 : St) (a1 : Int) (a2 : Int) (a3 : Int) (a4 : Int) : Nat → Int → Int → Option (Int)
  | 0, _, _ => none
  | f + 1, v_1, v_2 => bd1 (gd (inI (S0 40 1)) <| if (S0 40 1) = (-2) then (some (1)) else (some (a2))) fun z_12 => gd ((inI v_1) ∧ (inI z_12)) <| if z_12 < v_1 then (some (v_2)) else (gd ((0 ≤ a2 ∧ a2 ≤ 2147483647) ∧ (0 < v_1 ∧ v_1 ≤ 2147483647)) <| gd (inI (a2 % v_1)) <| if (a2 % v_1) = 0 then (gd (0 ≤ a3 ∧ a3 ≤ 2147483647) <| gd (inI (a3 % v_1)) <| if (a3 % v_1) = 0 then (gd (0 ≤ a4 ∧ a4 ≤ 2147483647) <| gd (inI (a4 % v_1)) <| if (a4 % v_1) = 0 then (gd (0 ≤ v_1 ∧ v_1 < 8) <| gd (inI (sby lTOTIENT v_1)) <| bd1 (mX0_rowsOf_40 S0 a1 (a2 / v_1) (a3 / v_1) (a4 / v_1)) fun r_29 => nx (v_2 + ((sby lTOTIENT v_1) * r_29)) fun x_30 => mX0_ringsOf_40_6 S0 a1 a2 a3 a4 f (v_1 + 1) x_30) else (mX0_ringsOf_40_6 S0 a1 a2 a3 a4 f (v_1 + 1) v_2)) else (mX0_ringsOf_40_6 S0 a1 a2 a3 a4 f (v_1 + 1) v_2)) else (mX0_ringsOf_40_6 S0 a1 a2 a3 a4 f (v_1 + 1) v_2))
def mX0_ringsOf_40 (S0 : St) (a1 : Int) (a2 : Int) (a3 : Int) (a4 : Int) : Option (Int) := bd1 (mX0_ringsOf_40_6 S0 a1 a2 a3 a4 FU 1 0) fun y_3 => gd (inI a2) <| if 1 ≤ a2 then (gd ((0 ≤ y_3 ∧ y_3 ≤ 9223372036854775807) ∧ (0 < a2 ∧ a2 ≤ 9223372036854775807)) <| some ((y_3 / a2))) else (some (0))
set_option maxHeartbeats 4000000 in
set_option maxRecDepth 100000 in
theorem vX0_ringsOf_40 (l : Launch) {D : va_G} {cy : Nat → ClassId} {b n : Nat} (hn : 102 ≤ n) {X : Nat → va_E} {S0 : St} (a1 : Int) (a2 : Int) (a3 : Int) (a4 : Int) {o1 : Int} (hM : mX0_ringsOf_40 S0 a1 a2 a3 a4 = some o1) : gL l yX0_ringsOf cX0_ringsOf 8 1 0 0 D cy b n (enc b cy X S0) [.ref (b + 40), .int (iI a1), .int (iI a2), .int (iI a3), .int (iI a4)] (fun r u => r = jJ o1 ∧ u = (n, enc b cy X S0)) := by
  refine gL_of (by decide) (Nat.le_of_ble_eq_true rfl) ?_
  intro p e s m args below meth c S hr hlk hin hsz ls hl hG
  have hx := S.1
  have hb := S.2.1
  have hl : lv_has ls 8 [(0, .ref (b + 40)), (1, .int (iI a1)), (2, .int (iI a2)), (3, .int (iI a3)), (4, .int (iI a4))] := hl
  replace hG : gW D cy b n s s.heap [] (enc b cy X S0) := hG
  obtain ⟨H, eH⟩ : ∃ H, H = s.heap := ⟨_, rfl⟩
  obtain ⟨locs, elocs⟩ : ∃ locs : List Loc, locs = [] := ⟨_, rfl⟩
  rw [← eH, ← elocs] at hG
  rw [← eH, ← elocs]
  clear eH elocs
  unfold mX0_ringsOf_40 at hM
  refine lv_lconst (v := jJ 0) hx hb dX0_ringsOf_0 (by decide) ?_
  refine lv_lstore (lv' := [(5, .long (jJ 0)), (0, .ref (b + 40)), (1, .int (iI a1)), (2, .int (iI a2)), (3, .int (iI a3)), (4, .int (iI a4))]) hx hb dX0_ringsOf_1 hl (by decide) rfl (fun ls hl => ?_)
  refine lv_iconst (v := iI 1) hx hb dX0_ringsOf_3 (by decide) ?_
  refine lv_istore (lv' := [(7, .int (iI 1)), (5, .long (jJ 0)), (0, .ref (b + 40)), (1, .int (iI a1)), (2, .int (iI a2)), (3, .int (iI a3)), (4, .int (iI a4))]) hx hb dX0_ringsOf_4 hl (by decide) rfl (fun ls hl => ?_)
  obtain ⟨y_3, hc_4, hM⟩ := bd1_some hM
  have hK_5 : ∀ (H : Heap) (locs : List Loc) (ls : Array Slot), gW D cy b n s H locs (enc b cy X S0) → lv_has ls 8 [(2, .int (iI a2)), (5, .long (jJ y_3))] → W p l e (gRm 1 0 0) s m args below meth c H locs 0 0 (gQL D cy b s args below 0 0 (fun r u => r = jJ o1 ∧ u = (n, enc b cy X S0))) (F0 m 84 ls []) := by
    intro H locs ls hG hl
    refine lv_iload_n hx hb dX0_ringsOf_84 rfl (lv_at hl 0 rfl) ?_
    refine lv_iconst (v := iI 1) hx hb dX0_ringsOf_85 (by decide) ?_
    obtain ⟨hg_6, hM⟩ := gd_some hM
    refine gi_icmp_ge (tgt := 93) hx hb dX0_ringsOf_86 (by decide) hg_6 (by decide) (fun c_7 => ?_) (fun c_7 => ?_)
    · replace hM := ifp hM c_7
      refine lv_lload hx hb dX0_ringsOf_93 (lv_at hl 1 rfl) ?_
      refine lv_iload_n hx hb dX0_ringsOf_95 rfl (lv_at hl 0 rfl) ?_
      refine gi_i2l hx hb dX0_ringsOf_96 hg_6 ?_
      obtain ⟨hg_8, hM⟩ := gd_some hM
      refine gj_div hx hb dX0_ringsOf_97 hg_8.1 hg_8.2 ?_
      cases hM
      exact g_lret S hr hlk hG hsz dX0_ringsOf_98 ⟨Nat.le_of_ble_eq_true rfl, Nat.le_of_ble_eq_true rfl⟩ ⟨rfl, rfl⟩
    · replace hM := ifn hM c_7
      refine lv_lconst (v := jJ 0) hx hb dX0_ringsOf_89 (by decide) ?_
      refine lv_goto (tgt := 98) hx hb dX0_ringsOf_90 (by decide) ?_
      cases hM
      exact g_lret S hr hlk hG hsz dX0_ringsOf_98 ⟨Nat.le_of_ble_eq_true rfl, Nat.le_of_ble_eq_true rfl⟩ ⟨rfl, rfl⟩
  have loop_9 : ∀ (f : Nat) (v_1 : Int) (v_2 : Int) (H : Heap) (locs : List Loc) (ls : Array Slot), mX0_ringsOf_40_6 S0 a1 a2 a3 a4 f v_1 v_2 = some y_3 → gW D cy b n s H locs (enc b cy X S0) → lv_has ls 8 [(7, .int (iI v_1)), (5, .long (jJ v_2)), (0, .ref (b + 40)), (1, .int (iI a1)), (2, .int (iI a2)), (3, .int (iI a3)), (4, .int (iI a4))] → W p l e (gRm 1 0 0) s m args below meth c H locs 0 0 (gQL D cy b s args below 0 0 (fun r u => r = jJ o1 ∧ u = (n, enc b cy X S0))) (F0 m 6 ls []) := by
    clear hM
    intro f
    induction f with
    | zero => intro v_1 v_2 H locs ls hM; rw [mX0_ringsOf_40_6] at hM; cases hM
    | succ f_11 ih_10 =>
      intro v_1 v_2 H locs ls hM hG hl
      rw [mX0_ringsOf_40_6] at hM
      refine lv_iload hx hb dX0_ringsOf_6 (lv_at hl 0 rfl) ?_
      refine lv_aload_n hx hb dX0_ringsOf_8 rfl (lv_at hl 2 rfl) ?_
      refine m_get S hG 40 40 1 rfl ec_40 cpX0 wm_404 dX0_ringsOf_9 rfl (Nat.lt_of_lt_of_le (Nat.le_of_ble_eq_true rfl) hn) (by decide) ?_
      refine lv_bipush (v := iI (-2)) hx hb dX0_ringsOf_12 (by decide) ?_
      obtain ⟨z_12, hc_13, hM⟩ := bd1_some hM
      have hK_14 : ∀ (H : Heap) (locs : List Loc) (ls : Array Slot), gW D cy b n s H locs (enc b cy X S0) → lv_has ls 8 [(7, .int (iI v_1)), (5, .long (jJ v_2)), (0, .ref (b + 40)), (1, .int (iI a1)), (2, .int (iI a2)), (3, .int (iI a3)), (4, .int (iI a4))] → W p l e (gRm 1 0 0) s m args below meth c H locs 0 0 (gQL D cy b s args below 0 0 (fun r u => r = jJ o1 ∧ u = (n, enc b cy X S0))) (F0 m 22 ls [.int (iI z_12), .int (iI v_1)]) := by
        intro H locs ls hG hl
        obtain ⟨hg_15, hM⟩ := gd_some hM
        refine gi_icmp_gt (tgt := 84) hx hb dX0_ringsOf_22 (by decide) hg_15.1 hg_15.2 (fun c_16 => ?_) (fun c_16 => ?_)
        · replace hM := ifp hM c_16
          cases hM
          exact hK_5 H locs ls hG (lv_sub hl [4, 1] rfl)
        · replace hM := ifn hM c_16
          refine lv_iload_n hx hb dX0_ringsOf_25 rfl (lv_at hl 4 rfl) ?_
          refine lv_iload hx hb dX0_ringsOf_26 (lv_at hl 0 rfl) ?_
          obtain ⟨hg_17, hM⟩ := gd_some hM
          refine gi_rem hx hb dX0_ringsOf_28 hg_17.1 hg_17.2 ?_
          obtain ⟨hg_18, hM⟩ := gd_some hM
          refine gi_if_ne (tgt := 78) hx hb dX0_ringsOf_29 (by decide) hg_18 (fun c_19 => ?_) (fun c_19 => ?_)
          · replace hM := ifn hM c_19
            refine lv_iinc (v := iI (v_1 + 1)) (lv' := [(7, .int (iI (v_1 + 1))), (5, .long (jJ v_2)), (0, .ref (b + 40)), (1, .int (iI a1)), (2, .int (iI a2)), (3, .int (iI a3)), (4, .int (iI a4))]) hx hb dX0_ringsOf_78 hl (k := 0) rfl ((iI_add v_1 (1)).trans (congrArg iI (by omega))) (by decide) rfl (fun ls hl => ?_)
            refine lv_goto (tgt := 6) hx hb dX0_ringsOf_81 (by decide) ?_
            exact ih_10 (v_1 + 1) v_2 H locs ls hM hG (lv_sub hl [0, 1, 2, 3, 4, 5, 6] rfl)
          · replace hM := ifp hM c_19
            refine lv_iload_n hx hb dX0_ringsOf_32 rfl (lv_at hl 5 rfl) ?_
            refine lv_iload hx hb dX0_ringsOf_33 (lv_at hl 0 rfl) ?_
            obtain ⟨hg_20, hM⟩ := gd_some hM
            refine gi_rem hx hb dX0_ringsOf_35 hg_20 hg_17.2 ?_
            obtain ⟨hg_21, hM⟩ := gd_some hM
            refine gi_if_ne (tgt := 78) hx hb dX0_ringsOf_36 (by decide) hg_21 (fun c_22 => ?_) (fun c_22 => ?_)
            · replace hM := ifn hM c_22
              refine lv_iinc (v := iI (v_1 + 1)) (lv' := [(7, .int (iI (v_1 + 1))), (5, .long (jJ v_2)), (0, .ref (b + 40)), (1, .int (iI a1)), (2, .int (iI a2)), (3, .int (iI a3)), (4, .int (iI a4))]) hx hb dX0_ringsOf_78 hl (k := 0) rfl ((iI_add v_1 (1)).trans (congrArg iI (by omega))) (by decide) rfl (fun ls hl => ?_)
              refine lv_goto (tgt := 6) hx hb dX0_ringsOf_81 (by decide) ?_
              exact ih_10 (v_1 + 1) v_2 H locs ls hM hG (lv_sub hl [0, 1, 2, 3, 4, 5, 6] rfl)
            · replace hM := ifp hM c_22
              refine lv_iload hx hb dX0_ringsOf_39 (lv_at hl 6 rfl) ?_
              refine lv_iload hx hb dX0_ringsOf_41 (lv_at hl 0 rfl) ?_
              obtain ⟨hg_23, hM⟩ := gd_some hM
              refine gi_rem hx hb dX0_ringsOf_43 hg_23 hg_17.2 ?_
              obtain ⟨hg_24, hM⟩ := gd_some hM
              refine gi_if_ne (tgt := 78) hx hb dX0_ringsOf_44 (by decide) hg_24 (fun c_25 => ?_) (fun c_25 => ?_)
              · replace hM := ifn hM c_25
                refine lv_iinc (v := iI (v_1 + 1)) (lv' := [(7, .int (iI (v_1 + 1))), (5, .long (jJ v_2)), (0, .ref (b + 40)), (1, .int (iI a1)), (2, .int (iI a2)), (3, .int (iI a3)), (4, .int (iI a4))]) hx hb dX0_ringsOf_78 hl (k := 0) rfl ((iI_add v_1 (1)).trans (congrArg iI (by omega))) (by decide) rfl (fun ls hl => ?_)
                refine lv_goto (tgt := 6) hx hb dX0_ringsOf_81 (by decide) ?_
                exact ih_10 (v_1 + 1) v_2 H locs ls hM hG (lv_sub hl [0, 1, 2, 3, 4, 5, 6] rfl)
              · replace hM := ifp hM c_25
                refine lv_lload hx hb dX0_ringsOf_47 (lv_at hl 1 rfl) ?_
                refine g_gsaN (host := "GrownKinds") S hG gsa1 (by decide +kernel) dX0_ringsOf_49 ?_
                refine lv_iload hx hb dX0_ringsOf_52 (lv_at hl 0 rfl) ?_
                obtain ⟨hg_26, hM⟩ := gd_some hM
                refine g_sald S hG gsa1 dX0_ringsOf_54 hg_26 (by decide) ?_
                obtain ⟨hg_27, hM⟩ := gd_some hM
                refine gi_i2l hx hb dX0_ringsOf_55 hg_27 ?_
                refine lv_aload_n hx hb dX0_ringsOf_56 rfl (lv_at hl 2 rfl) ?_
                refine lv_iload_n hx hb dX0_ringsOf_57 rfl (lv_at hl 3 rfl) ?_
                refine lv_iload_n hx hb dX0_ringsOf_58 rfl (lv_at hl 4 rfl) ?_
                refine lv_iload hx hb dX0_ringsOf_59 (lv_at hl 0 rfl) ?_
                refine gi_div hx hb dX0_ringsOf_61 hg_17.1 hg_17.2 ?_
                refine lv_iload_n hx hb dX0_ringsOf_62 rfl (lv_at hl 5 rfl) ?_
                refine lv_iload hx hb dX0_ringsOf_63 (lv_at hl 0 rfl) ?_
                refine gi_div hx hb dX0_ringsOf_65 hg_20 hg_17.2 ?_
                refine lv_iload hx hb dX0_ringsOf_66 (lv_at hl 6 rfl) ?_
                refine lv_iload hx hb dX0_ringsOf_68 (lv_at hl 0 rfl) ?_
                refine gi_div hx hb dX0_ringsOf_70 hg_23 hg_17.2 ?_
                obtain ⟨r_29, hc_28, hM⟩ := bd1_some hM
                refine g_vl (As := [.int (iI a1), .int (iI (a2 / v_1)), .int (iI (a3 / v_1)), .int (iI (a4 / v_1))]) (rest := [.long (jJ (sby lTOTIENT v_1)), .long (jJ v_2)]) S hG hsz (vX0_rowsOf_40 l hn a1 (a2 / v_1) (a3 / v_1) (a4 / v_1) hc_28) wV_0_101 (ec_40 _) cpX0 (Nat.lt_of_lt_of_le (Nat.le_of_ble_eq_true rfl) hn) dX0_ringsOf_71 rfl hl.1 (ar := 4) (by decide +kernel) rfl ⟨Nat.le_of_ble_eq_true rfl, Nat.le_of_ble_eq_true rfl, Nat.le_of_ble_eq_true rfl, Nat.le_of_ble_eq_true rfl⟩ (Nat.le_of_ble_eq_true rfl) (fun rv uu H locs hp hG => ?_)
                obtain ⟨rfl, rfl⟩ := hp
                replace hG : gW D cy b n s H locs (enc b cy X S0) := hG
                refine gj_mul hx hb dX0_ringsOf_74 ?_
                refine gj_add hx hb dX0_ringsOf_75 ?_
                refine gj_nm (fun x_30 ex_30 => ?_)
                replace hM := nx_at hM ex_30
                clear ex_30
                refine lv_lstore (lv' := [(5, .long (jJ x_30)), (7, .int (iI v_1)), (0, .ref (b + 40)), (1, .int (iI a1)), (2, .int (iI a2)), (3, .int (iI a3)), (4, .int (iI a4))]) hx hb dX0_ringsOf_76 hl (by decide) rfl (fun ls hl => ?_)
                refine lv_iinc (v := iI (v_1 + 1)) (lv' := [(7, .int (iI (v_1 + 1))), (5, .long (jJ x_30)), (0, .ref (b + 40)), (1, .int (iI a1)), (2, .int (iI a2)), (3, .int (iI a3)), (4, .int (iI a4))]) hx hb dX0_ringsOf_78 hl (k := 1) rfl ((iI_add v_1 (1)).trans (congrArg iI (by omega))) (by decide) rfl (fun ls hl => ?_)
                refine lv_goto (tgt := 6) hx hb dX0_ringsOf_81 (by decide) ?_
                exact ih_10 (v_1 + 1) x_30 H locs ls hM hG (lv_sub hl [0, 1, 2, 3, 4, 5, 6] rfl)
      clear hM
      replace hM := hc_13
      obtain ⟨hg_31, hM⟩ := gd_some hM
      refine gi_icmp_ne (tgt := 21) hx hb dX0_ringsOf_14 (by decide) hg_31 (by decide) (fun c_32 => ?_) (fun c_32 => ?_)
      · replace hM := ifn hM c_32
        refine lv_iload_n hx hb dX0_ringsOf_21 rfl (lv_at hl 4 rfl) ?_
        cases hM
        exact hK_14 H locs ls hG (lv_sub hl [0, 1, 2, 3, 4, 5, 6] rfl)
      · replace hM := ifp hM c_32
        refine lv_iconst (v := iI 1) hx hb dX0_ringsOf_17 (by decide) ?_
        refine lv_goto (tgt := 22) hx hb dX0_ringsOf_18 (by decide) ?_
        cases hM
        exact hK_14 H locs ls hG (lv_sub hl [0, 1, 2, 3, 4, 5, 6] rfl)
  exact loop_9 FU 1 0 H locs ls hc_4 hG (lv_sub hl [0, 1, 2, 3, 4, 5, 6] rfl)
def mX0_sequencesOf_40 (S0 : St) (a1 : Int) (a2 : Int) (a3 : Int) (a4 : Int) : Option (Int) := gd (0 ≤ a1 ∧ a1 < 24) <| nx (S0 3 a1) fun x_2 => bd1 (mX0_inClasses_40 S0 a1) fun r_4 => gd (inI r_4) <| if r_4 = 0 then (gd (inI x_2) <| if x_2 = 6 then (bd1 (mX0_ringsOf_40 S0 a1 a2 a3 a4) fun r_17 => some (r_17)) else (bd1 (mX0_rowsOf_40 S0 a1 a2 a3 a4) fun r_10 => if x_2 = 3 then (gd (0 ≤ r_10 ∧ r_10 ≤ 9223372036854775807) <| some ((r_10 / 1))) else (gd (0 ≤ a2 ∧ a2 < 8) <| gd (inI (sby lFACTORIAL a2)) <| gd ((0 ≤ r_10 ∧ r_10 ≤ 9223372036854775807) ∧ (0 < (sby lFACTORIAL a2) ∧ (sby lFACTORIAL a2) ≤ 9223372036854775807)) <| some ((r_10 / (sby lFACTORIAL a2)))))) else (gd (0 ≤ ((((a1 * 512) + (a2 * 64)) + (a3 * 8)) + a4) ∧ ((((a1 * 512) + (a2 * 64)) + (a3 * 8)) + a4) < 12288) <| some ((S0 44 ((((a1 * 512) + (a2 * 64)) + (a3 * 8)) + a4))))
set_option maxHeartbeats 4000000 in
set_option maxRecDepth 100000 in
theorem vX0_sequencesOf_40 (l : Launch) {D : va_G} {cy : Nat → ClassId} {b n : Nat} (hn : 102 ≤ n) {X : Nat → va_E} {S0 : St} (a1 : Int) (a2 : Int) (a3 : Int) (a4 : Int) {o1 : Int} (hM : mX0_sequencesOf_40 S0 a1 a2 a3 a4 = some o1) : gL l yX0_sequencesOf cX0_sequencesOf 6 2 0 0 D cy b n (enc b cy X S0) [.ref (b + 40), .int (iI a1), .int (iI a2), .int (iI a3), .int (iI a4)] (fun r u => r = jJ o1 ∧ u = (n, enc b cy X S0)) := by
  refine gL_of (by decide) (Nat.le_of_ble_eq_true rfl) ?_
  intro p e s m args below meth c S hr hlk hin hsz ls hl hG
  have hx := S.1
  have hb := S.2.1
  have hl : lv_has ls 6 [(0, .ref (b + 40)), (1, .int (iI a1)), (2, .int (iI a2)), (3, .int (iI a3)), (4, .int (iI a4))] := hl
  replace hG : gW D cy b n s s.heap [] (enc b cy X S0) := hG
  obtain ⟨H, eH⟩ : ∃ H, H = s.heap := ⟨_, rfl⟩
  obtain ⟨locs, elocs⟩ : ∃ locs : List Loc, locs = [] := ⟨_, rfl⟩
  rw [← eH, ← elocs] at hG
  rw [← eH, ← elocs]
  clear eH elocs
  unfold mX0_sequencesOf_40 at hM
  refine lv_aload_n hx hb dX0_sequencesOf_0 rfl (lv_at hl 0 rfl) ?_
  refine m_get S hG 40 40 0 rfl ec_40 cpX0 wm_403 dX0_sequencesOf_1 rfl (Nat.lt_of_lt_of_le (Nat.le_of_ble_eq_true rfl) hn) (by decide) ?_
  refine m_get S hG 2 2 5 rfl ec_2 cpX2 wm_239 dX0_sequencesOf_4 rfl (Nat.lt_of_lt_of_le (Nat.le_of_ble_eq_true rfl) hn) (by decide) ?_
  refine lv_iload_n hx hb dX0_sequencesOf_7 rfl (lv_at hl 1 rfl) ?_
  obtain ⟨hg_1, hM⟩ := gd_some hM
  refine mi_ald S hG 3 3 rfl ec_3 (Nat.lt_of_lt_of_le (Nat.le_of_ble_eq_true rfl) hn) dX0_sequencesOf_8 hg_1 (by decide) ?_
  refine gi_nm (fun x_2 ex_2 => ?_)
  replace hM := nx_at hM ex_2
  clear ex_2
  refine lv_istore (lv' := [(5, .int (iI x_2)), (0, .ref (b + 40)), (1, .int (iI a1)), (2, .int (iI a2)), (3, .int (iI a3)), (4, .int (iI a4))]) hx hb dX0_sequencesOf_9 hl (by decide) rfl (fun ls hl => ?_)
  refine lv_aload_n hx hb dX0_sequencesOf_11 rfl (lv_at hl 1 rfl) ?_
  refine lv_iload_n hx hb dX0_sequencesOf_12 rfl (lv_at hl 2 rfl) ?_
  obtain ⟨r_4, hc_3, hM⟩ := bd1_some hM
  refine g_vi (As := [.int (iI a1)]) (rest := []) S hG hsz (vX0_inClasses_40 l hn a1 hc_3) wV_0_155 (ec_40 _) cpX0 (Nat.lt_of_lt_of_le (Nat.le_of_ble_eq_true rfl) hn) dX0_sequencesOf_13 rfl hl.1 (ar := 1) (by decide +kernel) rfl ⟨Nat.le_of_ble_eq_true rfl, Nat.le_of_ble_eq_true rfl, Nat.le_of_ble_eq_true rfl, Nat.le_of_ble_eq_true rfl⟩ (Nat.le_of_ble_eq_true rfl) (fun rv uu H locs hp hG => ?_)
  obtain ⟨rfl, rfl⟩ := hp
  replace hG : gW D cy b n s H locs (enc b cy X S0) := hG
  obtain ⟨hg_5, hM⟩ := gd_some hM
  refine gi_if_eq (tgt := 43) hx hb dX0_sequencesOf_16 (by decide) hg_5 (fun c_6 => ?_) (fun c_6 => ?_)
  · replace hM := ifp hM c_6
    refine lv_iload hx hb dX0_sequencesOf_43 (lv_at hl 0 rfl) ?_
    refine lv_bipush (v := iI 6) hx hb dX0_sequencesOf_45 (by decide) ?_
    obtain ⟨hg_7, hM⟩ := gd_some hM
    refine gi_icmp_ne (tgt := 60) hx hb dX0_sequencesOf_47 (by decide) hg_7 (by decide) (fun c_8 => ?_) (fun c_8 => ?_)
    · replace hM := ifn hM c_8
      refine lv_aload_n hx hb dX0_sequencesOf_60 rfl (lv_at hl 1 rfl) ?_
      refine lv_iload_n hx hb dX0_sequencesOf_61 rfl (lv_at hl 2 rfl) ?_
      refine lv_iload_n hx hb dX0_sequencesOf_62 rfl (lv_at hl 3 rfl) ?_
      refine lv_iload_n hx hb dX0_sequencesOf_63 rfl (lv_at hl 4 rfl) ?_
      refine lv_iload hx hb dX0_sequencesOf_64 (lv_at hl 5 rfl) ?_
      obtain ⟨r_10, hc_9, hM⟩ := bd1_some hM
      refine g_vl (As := [.int (iI a1), .int (iI a2), .int (iI a3), .int (iI a4)]) (rest := []) S hG hsz (vX0_rowsOf_40 l hn a1 a2 a3 a4 hc_9) wV_0_101 (ec_40 _) cpX0 (Nat.lt_of_lt_of_le (Nat.le_of_ble_eq_true rfl) hn) dX0_sequencesOf_66 rfl hl.1 (ar := 4) (by decide +kernel) rfl ⟨Nat.le_of_ble_eq_true rfl, Nat.le_of_ble_eq_true rfl, Nat.le_of_ble_eq_true rfl, Nat.le_of_ble_eq_true rfl⟩ (Nat.le_of_ble_eq_true rfl) (fun rv uu H locs hp hG => ?_)
      obtain ⟨rfl, rfl⟩ := hp
      replace hG : gW D cy b n s H locs (enc b cy X S0) := hG
      refine lv_iload hx hb dX0_sequencesOf_69 (lv_at hl 0 rfl) ?_
      refine lv_iconst (v := iI 3) hx hb dX0_sequencesOf_71 (by decide) ?_
      refine gi_icmp_ne (tgt := 79) hx hb dX0_sequencesOf_72 (by decide) hg_7 (by decide) (fun c_11 => ?_) (fun c_11 => ?_)
      · replace hM := ifn hM c_11
        refine g_gsaN (host := "GrownKinds") S hG gsa2 (by decide +kernel) dX0_sequencesOf_79 ?_
        refine lv_iload_n hx hb dX0_sequencesOf_82 rfl (lv_at hl 3 rfl) ?_
        obtain ⟨hg_12, hM⟩ := gd_some hM
        refine g_sald S hG gsa2 dX0_sequencesOf_83 hg_12 (by decide) ?_
        obtain ⟨hg_13, hM⟩ := gd_some hM
        refine gi_i2l hx hb dX0_sequencesOf_84 hg_13 ?_
        obtain ⟨hg_14, hM⟩ := gd_some hM
        refine gj_div hx hb dX0_sequencesOf_85 hg_14.1 hg_14.2 ?_
        cases hM
        exact g_lret S hr hlk hG hsz dX0_sequencesOf_86 ⟨Nat.le_of_ble_eq_true rfl, Nat.le_of_ble_eq_true rfl⟩ ⟨rfl, rfl⟩
      · replace hM := ifp hM c_11
        refine lv_iconst (v := iI 1) hx hb dX0_sequencesOf_75 (by decide) ?_
        refine lv_goto (tgt := 84) hx hb dX0_sequencesOf_76 (by decide) ?_
        refine gi_i2l hx hb dX0_sequencesOf_84 (by decide) ?_
        obtain ⟨hg_15, hM⟩ := gd_some hM
        refine gj_div hx hb dX0_sequencesOf_85 hg_15 (by decide) ?_
        cases hM
        exact g_lret S hr hlk hG hsz dX0_sequencesOf_86 ⟨Nat.le_of_ble_eq_true rfl, Nat.le_of_ble_eq_true rfl⟩ ⟨rfl, rfl⟩
    · replace hM := ifp hM c_8
      refine lv_aload_n hx hb dX0_sequencesOf_50 rfl (lv_at hl 1 rfl) ?_
      refine lv_iload_n hx hb dX0_sequencesOf_51 rfl (lv_at hl 2 rfl) ?_
      refine lv_iload_n hx hb dX0_sequencesOf_52 rfl (lv_at hl 3 rfl) ?_
      refine lv_iload_n hx hb dX0_sequencesOf_53 rfl (lv_at hl 4 rfl) ?_
      refine lv_iload hx hb dX0_sequencesOf_54 (lv_at hl 5 rfl) ?_
      obtain ⟨r_17, hc_16, hM⟩ := bd1_some hM
      refine g_vl (As := [.int (iI a1), .int (iI a2), .int (iI a3), .int (iI a4)]) (rest := []) S hG hsz (vX0_ringsOf_40 l hn a1 a2 a3 a4 hc_16) wV_0_167 (ec_40 _) cpX0 (Nat.lt_of_lt_of_le (Nat.le_of_ble_eq_true rfl) hn) dX0_sequencesOf_56 rfl hl.1 (ar := 4) (by decide +kernel) rfl ⟨Nat.le_of_ble_eq_true rfl, Nat.le_of_ble_eq_true rfl, Nat.le_of_ble_eq_true rfl, Nat.le_of_ble_eq_true rfl⟩ (Nat.le_of_ble_eq_true rfl) (fun rv uu H locs hp hG => ?_)
      obtain ⟨rfl, rfl⟩ := hp
      replace hG : gW D cy b n s H locs (enc b cy X S0) := hG
      cases hM
      exact g_lret S hr hlk hG hsz dX0_sequencesOf_59 ⟨Nat.le_of_ble_eq_true rfl, Nat.le_of_ble_eq_true rfl⟩ ⟨rfl, rfl⟩
  · replace hM := ifn hM c_6
    refine lv_aload_n hx hb dX0_sequencesOf_19 rfl (lv_at hl 1 rfl) ?_
    refine m_get S hG 40 40 5 rfl ec_40 cpX0 wm_408 dX0_sequencesOf_20 rfl (Nat.lt_of_lt_of_le (Nat.le_of_ble_eq_true rfl) hn) (by decide) ?_
    refine lv_iload_n hx hb dX0_sequencesOf_23 rfl (lv_at hl 2 rfl) ?_
    refine lv_sipush (v := iI 512) hx hb dX0_sequencesOf_24 (by decide) ?_
    refine gi_mul hx hb dX0_sequencesOf_27 ?_
    refine lv_iload_n hx hb dX0_sequencesOf_28 rfl (lv_at hl 3 rfl) ?_
    refine lv_bipush (v := iI 64) hx hb dX0_sequencesOf_29 (by decide) ?_
    refine gi_mul hx hb dX0_sequencesOf_31 ?_
    refine gi_add hx hb dX0_sequencesOf_32 ?_
    refine lv_iload_n hx hb dX0_sequencesOf_33 rfl (lv_at hl 4 rfl) ?_
    refine lv_bipush (v := iI 8) hx hb dX0_sequencesOf_34 (by decide) ?_
    refine gi_mul hx hb dX0_sequencesOf_36 ?_
    refine gi_add hx hb dX0_sequencesOf_37 ?_
    refine lv_iload hx hb dX0_sequencesOf_38 (lv_at hl 5 rfl) ?_
    refine gi_add hx hb dX0_sequencesOf_40 ?_
    obtain ⟨hg_18, hM⟩ := gd_some hM
    refine mj_ald S hG 44 44 rfl ec_44 (Nat.lt_of_lt_of_le (Nat.le_of_ble_eq_true rfl) hn) dX0_sequencesOf_41 hg_18 (by decide) ?_
    cases hM
    exact g_lret S hr hlk hG hsz dX0_sequencesOf_42 ⟨Nat.le_of_ble_eq_true rfl, Nat.le_of_ble_eq_true rfl⟩ ⟨rfl, rfl⟩
def mX0_copyCells_40_41_41_3 (a2 : Int) (a4 : Int) (a5 : Int) : Nat → Int → St → Option (St)
  | 0, _, _ => none
  | f + 1, v_1, S_2 => bd1 (mX0_letterTop_40 S_2 a5) fun r_10 => gd ((inI v_1) ∧ (inI r_10)) <| if r_10 < v_1 then (some (S_2)) else (gd (0 ≤ (a2 + v_1) ∧ (a2 + v_1) < 1536) <| gd (0 ≤ (a4 + v_1) ∧ (a4 + v_1) < 1536) <| nx (up S_2 41 (a4 + v_1) (S_2 41 (a2 + v_1))) fun S_15 => mX0_copyCells_40_41_41_3 a2 a4 a5 f (v_1 + 1) S_15)
def mX0_copyCells_40_41_41 (S0 : St) (a2 : Int) (a4 : Int) (a5 : Int) : Option (St) := bd1 (mX0_copyCells_40_41_41_3 a2 a4 a5 FU 0 S0) fun S_3 => some (S_3)
set_option maxHeartbeats 4000000 in
set_option maxRecDepth 100000 in
theorem vX0_copyCells_40_41_41 (l : Launch) {D : va_G} {cy : Nat → ClassId} {b n : Nat} (hn : 102 ≤ n) {X : Nat → va_E} {S0 : St} (a2 : Int) (a4 : Int) (a5 : Int) {o1 : St} (hM : mX0_copyCells_40_41_41 S0 a2 a4 a5 = some o1) : gV l yX0_copyCells cX0_copyCells 7 1 0 0 D cy b n (enc b cy X S0) [.ref (b + 40), .ref (b + 41), .int (iI a2), .ref (b + 41), .int (iI a4), .int (iI a5)] (fun u => u = (n, enc b cy X o1)) := by
  refine gV_of (by decide) (Nat.le_of_ble_eq_true rfl) ?_
  intro p e s m args below meth c S hr hlk hin hsz ls hl hG
  have hx := S.1
  have hb := S.2.1
  have hl : lv_has ls 7 [(0, .ref (b + 40)), (1, .ref (b + 41)), (2, .int (iI a2)), (3, .ref (b + 41)), (4, .int (iI a4)), (5, .int (iI a5))] := hl
  replace hG : gW D cy b n s s.heap [] (enc b cy X S0) := hG
  obtain ⟨H, eH⟩ : ∃ H, H = s.heap := ⟨_, rfl⟩
  obtain ⟨locs, elocs⟩ : ∃ locs : List Loc, locs = [] := ⟨_, rfl⟩
  rw [← eH, ← elocs] at hG
  rw [← eH, ← elocs]
  clear eH elocs
  unfold mX0_copyCells_40_41_41 at hM
  refine lv_iconst (v := iI 0) hx hb dX0_copyCells_0 (by decide) ?_
  refine lv_istore (lv' := [(6, .int (iI 0)), (0, .ref (b + 40)), (1, .ref (b + 41)), (2, .int (iI a2)), (3, .ref (b + 41)), (4, .int (iI a4)), (5, .int (iI a5))]) hx hb dX0_copyCells_1 hl (by decide) rfl (fun ls hl => ?_)
  obtain ⟨S_3, hc_4, hM⟩ := bd1_some hM
  have hK_5 : ∀ (H : Heap) (locs : List Loc) (ls : Array Slot), gW D cy b n s H locs (enc b cy X S_3) → lv_has ls 7 [] → W p l e (gRm 1 0 0) s m args below meth c H locs 0 0 (gQV D cy b s args below 0 0 (fun u => u = (n, enc b cy X o1))) (F0 m 33 ls []) := by
    intro H locs ls hG hl
    cases hM
    exact g_vret S hr hlk hG hsz dX0_copyCells_33 ⟨Nat.le_of_ble_eq_true rfl, Nat.le_of_ble_eq_true rfl⟩ rfl
  have loop_6 : ∀ (f : Nat) (v_1 : Int) (S_2 : St) (H : Heap) (locs : List Loc) (ls : Array Slot), mX0_copyCells_40_41_41_3 a2 a4 a5 f v_1 S_2 = some S_3 → gW D cy b n s H locs (enc b cy X S_2) → lv_has ls 7 [(6, .int (iI v_1)), (0, .ref (b + 40)), (1, .ref (b + 41)), (2, .int (iI a2)), (3, .ref (b + 41)), (4, .int (iI a4)), (5, .int (iI a5))] → W p l e (gRm 1 0 0) s m args below meth c H locs 0 0 (gQV D cy b s args below 0 0 (fun u => u = (n, enc b cy X o1))) (F0 m 3 ls []) := by
    clear hM
    intro f
    induction f with
    | zero => intro v_1 S_2 H locs ls hM; rw [mX0_copyCells_40_41_41_3] at hM; cases hM
    | succ f_8 ih_7 =>
      intro v_1 S_2 H locs ls hM hG hl
      rw [mX0_copyCells_40_41_41_3] at hM
      refine lv_iload hx hb dX0_copyCells_3 (lv_at hl 0 rfl) ?_
      refine lv_aload_n hx hb dX0_copyCells_5 rfl (lv_at hl 1 rfl) ?_
      refine lv_iload hx hb dX0_copyCells_6 (lv_at hl 6 rfl) ?_
      obtain ⟨r_10, hc_9, hM⟩ := bd1_some hM
      refine g_vi (As := [.int (iI a5)]) (rest := [.int (iI v_1)]) S hG hsz (vX0_letterTop_40 l hn a5 hc_9) wV_0_108 (ec_40 _) cpX0 (Nat.lt_of_lt_of_le (Nat.le_of_ble_eq_true rfl) hn) dX0_copyCells_8 rfl hl.1 (ar := 1) (by decide +kernel) rfl ⟨Nat.le_of_ble_eq_true rfl, Nat.le_of_ble_eq_true rfl, Nat.le_of_ble_eq_true rfl, Nat.le_of_ble_eq_true rfl⟩ (Nat.le_of_ble_eq_true rfl) (fun rv uu H locs hp hG => ?_)
      obtain ⟨rfl, rfl⟩ := hp
      replace hG : gW D cy b n s H locs (enc b cy X S_2) := hG
      obtain ⟨hg_11, hM⟩ := gd_some hM
      refine gi_icmp_gt (tgt := 33) hx hb dX0_copyCells_11 (by decide) hg_11.1 hg_11.2 (fun c_12 => ?_) (fun c_12 => ?_)
      · replace hM := ifp hM c_12
        cases hM
        exact hK_5 H locs ls hG (lv_sub hl [] rfl)
      · replace hM := ifn hM c_12
        refine lv_aload_n hx hb dX0_copyCells_14 rfl (lv_at hl 4 rfl) ?_
        refine lv_iload hx hb dX0_copyCells_15 (lv_at hl 5 rfl) ?_
        refine lv_iload hx hb dX0_copyCells_17 (lv_at hl 0 rfl) ?_
        refine gi_add hx hb dX0_copyCells_19 ?_
        refine lv_aload_n hx hb dX0_copyCells_20 rfl (lv_at hl 2 rfl) ?_
        refine lv_iload_n hx hb dX0_copyCells_21 rfl (lv_at hl 3 rfl) ?_
        refine lv_iload hx hb dX0_copyCells_22 (lv_at hl 0 rfl) ?_
        refine gi_add hx hb dX0_copyCells_24 ?_
        obtain ⟨hg_13, hM⟩ := gd_some hM
        refine mj_ald S hG 41 41 rfl ec_41 (Nat.lt_of_lt_of_le (Nat.le_of_ble_eq_true rfl) hn) dX0_copyCells_25 hg_13 (by decide) ?_
        obtain ⟨hg_14, hM⟩ := gd_some hM
        refine mj_ast S hG 41 41 rfl ec_41 (Nat.lt_of_lt_of_le (Nat.le_of_ble_eq_true rfl) hn) dX0_copyCells_26 hg_14 (by decide) (fun H locs S_15 eS_15 hG => ?_)
        replace hM := nx_at hM eS_15
        clear eS_15
        refine lv_iinc (v := iI (v_1 + 1)) (lv' := [(6, .int (iI (v_1 + 1))), (0, .ref (b + 40)), (1, .ref (b + 41)), (2, .int (iI a2)), (3, .ref (b + 41)), (4, .int (iI a4)), (5, .int (iI a5))]) hx hb dX0_copyCells_27 hl (k := 0) rfl ((iI_add v_1 (1)).trans (congrArg iI (by omega))) (by decide) rfl (fun ls hl => ?_)
        refine lv_goto (tgt := 3) hx hb dX0_copyCells_30 (by decide) ?_
        exact ih_7 (v_1 + 1) S_15 H locs ls hM hG (lv_sub hl [0, 1, 2, 3, 4, 5, 6] rfl)
  exact loop_6 FU 0 S0 H locs ls hc_4 hG (lv_sub hl [0, 1, 2, 3, 4, 5, 6] rfl)
theorem wV_0_145 : gWV "GrownKinds$Census" 145 yX0_clearRows cX0_clearRows 4 none := ⟨wm_1020, wm_1022, wm_36, wm_181, wm_1023, by decide +kernel, by decide +kernel⟩
def mX0_clearCells_40_44_3 (a2 : Int) (a3 : Int) : Nat → Int → St → Option (St)
  | 0, _, _ => none
  | f + 1, v_1, S_2 => bd1 (mX0_letterTop_40 S_2 a3) fun r_10 => gd ((inI v_1) ∧ (inI r_10)) <| if r_10 < v_1 then (some (S_2)) else (gd (0 ≤ (a2 + v_1) ∧ (a2 + v_1) < 12288) <| nx (up S_2 44 (a2 + v_1) 0) fun S_14 => mX0_clearCells_40_44_3 a2 a3 f (v_1 + 1) S_14)
def mX0_clearCells_40_44 (S0 : St) (a2 : Int) (a3 : Int) : Option (St) := bd1 (mX0_clearCells_40_44_3 a2 a3 FU 0 S0) fun S_3 => some (S_3)
set_option maxHeartbeats 4000000 in
set_option maxRecDepth 100000 in
theorem vX0_clearCells_40_44 (l : Launch) {D : va_G} {cy : Nat → ClassId} {b n : Nat} (hn : 102 ≤ n) {X : Nat → va_E} {S0 : St} (a2 : Int) (a3 : Int) {o1 : St} (hM : mX0_clearCells_40_44 S0 a2 a3 = some o1) : gV l yX0_clearCells cX0_clearCells 5 1 0 0 D cy b n (enc b cy X S0) [.ref (b + 40), .ref (b + 44), .int (iI a2), .int (iI a3)] (fun u => u = (n, enc b cy X o1)) := by
  refine gV_of (by decide) (Nat.le_of_ble_eq_true rfl) ?_
  intro p e s m args below meth c S hr hlk hin hsz ls hl hG
  have hx := S.1
  have hb := S.2.1
  have hl : lv_has ls 5 [(0, .ref (b + 40)), (1, .ref (b + 44)), (2, .int (iI a2)), (3, .int (iI a3))] := hl
  replace hG : gW D cy b n s s.heap [] (enc b cy X S0) := hG
  obtain ⟨H, eH⟩ : ∃ H, H = s.heap := ⟨_, rfl⟩
  obtain ⟨locs, elocs⟩ : ∃ locs : List Loc, locs = [] := ⟨_, rfl⟩
  rw [← eH, ← elocs] at hG
  rw [← eH, ← elocs]
  clear eH elocs
  unfold mX0_clearCells_40_44 at hM
  refine lv_iconst (v := iI 0) hx hb dX0_clearCells_0 (by decide) ?_
  refine lv_istore (lv' := [(4, .int (iI 0)), (0, .ref (b + 40)), (1, .ref (b + 44)), (2, .int (iI a2)), (3, .int (iI a3))]) hx hb dX0_clearCells_1 hl (by decide) rfl (fun ls hl => ?_)
  obtain ⟨S_3, hc_4, hM⟩ := bd1_some hM
  have hK_5 : ∀ (H : Heap) (locs : List Loc) (ls : Array Slot), gW D cy b n s H locs (enc b cy X S_3) → lv_has ls 5 [] → W p l e (gRm 1 0 0) s m args below meth c H locs 0 0 (gQV D cy b s args below 0 0 (fun u => u = (n, enc b cy X o1))) (F0 m 26 ls []) := by
    intro H locs ls hG hl
    cases hM
    exact g_vret S hr hlk hG hsz dX0_clearCells_26 ⟨Nat.le_of_ble_eq_true rfl, Nat.le_of_ble_eq_true rfl⟩ rfl
  have loop_6 : ∀ (f : Nat) (v_1 : Int) (S_2 : St) (H : Heap) (locs : List Loc) (ls : Array Slot), mX0_clearCells_40_44_3 a2 a3 f v_1 S_2 = some S_3 → gW D cy b n s H locs (enc b cy X S_2) → lv_has ls 5 [(4, .int (iI v_1)), (0, .ref (b + 40)), (1, .ref (b + 44)), (2, .int (iI a2)), (3, .int (iI a3))] → W p l e (gRm 1 0 0) s m args below meth c H locs 0 0 (gQV D cy b s args below 0 0 (fun u => u = (n, enc b cy X o1))) (F0 m 3 ls []) := by
    clear hM
    intro f
    induction f with
    | zero => intro v_1 S_2 H locs ls hM; rw [mX0_clearCells_40_44_3] at hM; cases hM
    | succ f_8 ih_7 =>
      intro v_1 S_2 H locs ls hM hG hl
      rw [mX0_clearCells_40_44_3] at hM
      refine lv_iload hx hb dX0_clearCells_3 (lv_at hl 0 rfl) ?_
      refine lv_aload_n hx hb dX0_clearCells_5 rfl (lv_at hl 1 rfl) ?_
      refine lv_iload_n hx hb dX0_clearCells_6 rfl (lv_at hl 4 rfl) ?_
      obtain ⟨r_10, hc_9, hM⟩ := bd1_some hM
      refine g_vi (As := [.int (iI a3)]) (rest := [.int (iI v_1)]) S hG hsz (vX0_letterTop_40 l hn a3 hc_9) wV_0_108 (ec_40 _) cpX0 (Nat.lt_of_lt_of_le (Nat.le_of_ble_eq_true rfl) hn) dX0_clearCells_7 rfl hl.1 (ar := 1) (by decide +kernel) rfl ⟨Nat.le_of_ble_eq_true rfl, Nat.le_of_ble_eq_true rfl, Nat.le_of_ble_eq_true rfl, Nat.le_of_ble_eq_true rfl⟩ (Nat.le_of_ble_eq_true rfl) (fun rv uu H locs hp hG => ?_)
      obtain ⟨rfl, rfl⟩ := hp
      replace hG : gW D cy b n s H locs (enc b cy X S_2) := hG
      obtain ⟨hg_11, hM⟩ := gd_some hM
      refine gi_icmp_gt (tgt := 26) hx hb dX0_clearCells_10 (by decide) hg_11.1 hg_11.2 (fun c_12 => ?_) (fun c_12 => ?_)
      · replace hM := ifp hM c_12
        cases hM
        exact hK_5 H locs ls hG (lv_sub hl [] rfl)
      · replace hM := ifn hM c_12
        refine lv_aload_n hx hb dX0_clearCells_13 rfl (lv_at hl 2 rfl) ?_
        refine lv_iload_n hx hb dX0_clearCells_14 rfl (lv_at hl 3 rfl) ?_
        refine lv_iload hx hb dX0_clearCells_15 (lv_at hl 0 rfl) ?_
        refine gi_add hx hb dX0_clearCells_17 ?_
        refine lv_lconst (v := jJ 0) hx hb dX0_clearCells_18 (by decide) ?_
        obtain ⟨hg_13, hM⟩ := gd_some hM
        refine mj_ast S hG 44 44 rfl ec_44 (Nat.lt_of_lt_of_le (Nat.le_of_ble_eq_true rfl) hn) dX0_clearCells_19 hg_13 (by decide) (fun H locs S_14 eS_14 hG => ?_)
        replace hM := nx_at hM eS_14
        clear eS_14
        refine lv_iinc (v := iI (v_1 + 1)) (lv' := [(4, .int (iI (v_1 + 1))), (0, .ref (b + 40)), (1, .ref (b + 44)), (2, .int (iI a2)), (3, .int (iI a3))]) hx hb dX0_clearCells_20 hl (k := 0) rfl ((iI_add v_1 (1)).trans (congrArg iI (by omega))) (by decide) rfl (fun ls hl => ?_)
        refine lv_goto (tgt := 3) hx hb dX0_clearCells_23 (by decide) ?_
        exact ih_7 (v_1 + 1) S_14 H locs ls hM hG (lv_sub hl [0, 1, 2, 3, 4] rfl)
  exact loop_6 FU 0 S0 H locs ls hc_4 hG (lv_sub hl [0, 1, 2, 3, 4] rfl)
def mX0_clearRows_40_10 (v_1 : Int) (a1 : Int) : Nat → Int → St → Option (St)
  | 0, _, _ => none
  | f + 1, v_13, S_14 => gd ((inI v_13) ∧ (inI (S_14 2 0))) <| if (S_14 2 0) < v_13 then (some (S_14)) else (bd1 (mX0_clearCells_40_44 S_14 (((a1 * 512) + (v_1 * 64)) + (v_13 * 8)) v_13) fun S_24 => mX0_clearRows_40_10 v_1 a1 f (v_13 + 1) S_24)
def mX0_clearRows_40_2 (a1 : Int) : Nat → Int → St → Option (St)
  | 0, _, _ => none
  | f + 1, v_1, S_2 => gd (inI v_1) <| if 8 ≤ v_1 then (some (S_2)) else (bd1 (mX0_clearRows_40_10 v_1 a1 FU 0 S_2) fun S_15 => mX0_clearRows_40_2 a1 f (v_1 + 1) S_15)
def mX0_clearRows_40 (S0 : St) (a1 : Int) : Option (St) := bd1 (mX0_clearRows_40_2 a1 FU 0 S0) fun S_3 => gd (0 ≤ (a1 * 512) ∧ (a1 * 512) < 12288) <| nx (up S_3 44 (a1 * 512) 1) fun S_7 => some (S_7)
set_option maxHeartbeats 4000000 in
set_option maxRecDepth 100000 in
theorem vX0_clearRows_40 (l : Launch) {D : va_G} {cy : Nat → ClassId} {b n : Nat} (hn : 102 ≤ n) {X : Nat → va_E} {S0 : St} (a1 : Int) {o1 : St} (hM : mX0_clearRows_40 S0 a1 = some o1) : gV l yX0_clearRows cX0_clearRows 4 2 0 0 D cy b n (enc b cy X S0) [.ref (b + 40), .int (iI a1)] (fun u => u = (n, enc b cy X o1)) := by
  refine gV_of (by decide) (Nat.le_of_ble_eq_true rfl) ?_
  intro p e s m args below meth c S hr hlk hin hsz ls hl hG
  have hx := S.1
  have hb := S.2.1
  have hl : lv_has ls 4 [(0, .ref (b + 40)), (1, .int (iI a1))] := hl
  replace hG : gW D cy b n s s.heap [] (enc b cy X S0) := hG
  obtain ⟨H, eH⟩ : ∃ H, H = s.heap := ⟨_, rfl⟩
  obtain ⟨locs, elocs⟩ : ∃ locs : List Loc, locs = [] := ⟨_, rfl⟩
  rw [← eH, ← elocs] at hG
  rw [← eH, ← elocs]
  clear eH elocs
  unfold mX0_clearRows_40 at hM
  refine lv_iconst (v := iI 0) hx hb dX0_clearRows_0 (by decide) ?_
  refine lv_istore_n (lv' := [(2, .int (iI 0)), (0, .ref (b + 40)), (1, .int (iI a1))]) hx hb dX0_clearRows_1 rfl hl (by decide) rfl (fun ls hl => ?_)
  obtain ⟨S_3, hc_4, hM⟩ := bd1_some hM
  have hK_5 : ∀ (H : Heap) (locs : List Loc) (ls : Array Slot), gW D cy b n s H locs (enc b cy X S_3) → lv_has ls 4 [(0, .ref (b + 40)), (1, .int (iI a1))] → W p l e (gRm 2 0 0) s m args below meth c H locs 0 0 (gQV D cy b s args below 0 0 (fun u => u = (n, enc b cy X o1))) (F0 m 57 ls []) := by
    intro H locs ls hG hl
    refine lv_aload_n hx hb dX0_clearRows_57 rfl (lv_at hl 0 rfl) ?_
    refine m_get S hG 40 40 5 rfl ec_40 cpX0 wm_408 dX0_clearRows_58 rfl (Nat.lt_of_lt_of_le (Nat.le_of_ble_eq_true rfl) hn) (by decide) ?_
    refine lv_iload_n hx hb dX0_clearRows_61 rfl (lv_at hl 1 rfl) ?_
    refine lv_sipush (v := iI 512) hx hb dX0_clearRows_62 (by decide) ?_
    refine gi_mul hx hb dX0_clearRows_65 ?_
    refine lv_lconst (v := jJ 1) hx hb dX0_clearRows_66 (by decide) ?_
    obtain ⟨hg_6, hM⟩ := gd_some hM
    refine mj_ast S hG 44 44 rfl ec_44 (Nat.lt_of_lt_of_le (Nat.le_of_ble_eq_true rfl) hn) dX0_clearRows_67 hg_6 (by decide) (fun H locs S_7 eS_7 hG => ?_)
    replace hM := nx_at hM eS_7
    clear eS_7
    cases hM
    exact g_vret S hr hlk hG hsz dX0_clearRows_68 ⟨Nat.le_of_ble_eq_true rfl, Nat.le_of_ble_eq_true rfl⟩ rfl
  have loop_8 : ∀ (f : Nat) (v_1 : Int) (S_2 : St) (H : Heap) (locs : List Loc) (ls : Array Slot), mX0_clearRows_40_2 a1 f v_1 S_2 = some S_3 → gW D cy b n s H locs (enc b cy X S_2) → lv_has ls 4 [(2, .int (iI v_1)), (0, .ref (b + 40)), (1, .int (iI a1))] → W p l e (gRm 2 0 0) s m args below meth c H locs 0 0 (gQV D cy b s args below 0 0 (fun u => u = (n, enc b cy X o1))) (F0 m 2 ls []) := by
    clear hM
    intro f
    induction f with
    | zero => intro v_1 S_2 H locs ls hM; rw [mX0_clearRows_40_2] at hM; cases hM
    | succ f_10 ih_9 =>
      intro v_1 S_2 H locs ls hM hG hl
      rw [mX0_clearRows_40_2] at hM
      refine lv_iload_n hx hb dX0_clearRows_2 rfl (lv_at hl 0 rfl) ?_
      refine lv_bipush (v := iI 8) hx hb dX0_clearRows_3 (by decide) ?_
      obtain ⟨hg_11, hM⟩ := gd_some hM
      refine gi_icmp_ge (tgt := 57) hx hb dX0_clearRows_5 (by decide) hg_11 (by decide) (fun c_12 => ?_) (fun c_12 => ?_)
      · replace hM := ifp hM c_12
        cases hM
        exact hK_5 H locs ls hG (lv_sub hl [1, 2] rfl)
      · replace hM := ifn hM c_12
        refine lv_iconst (v := iI 0) hx hb dX0_clearRows_8 (by decide) ?_
        refine lv_istore_n (lv' := [(3, .int (iI 0)), (2, .int (iI v_1)), (0, .ref (b + 40)), (1, .int (iI a1))]) hx hb dX0_clearRows_9 rfl hl (by decide) rfl (fun ls hl => ?_)
        obtain ⟨S_15, hc_16, hM⟩ := bd1_some hM
        have hK_17 : ∀ (H : Heap) (locs : List Loc) (ls : Array Slot), gW D cy b n s H locs (enc b cy X S_15) → lv_has ls 4 [(2, .int (iI v_1)), (0, .ref (b + 40)), (1, .int (iI a1))] → W p l e (gRm 2 0 0) s m args below meth c H locs 0 0 (gQV D cy b s args below 0 0 (fun u => u = (n, enc b cy X o1))) (F0 m 51 ls []) := by
          intro H locs ls hG hl
          refine lv_iinc (v := iI (v_1 + 1)) (lv' := [(2, .int (iI (v_1 + 1))), (0, .ref (b + 40)), (1, .int (iI a1))]) hx hb dX0_clearRows_51 hl (k := 0) rfl ((iI_add v_1 (1)).trans (congrArg iI (by omega))) (by decide) rfl (fun ls hl => ?_)
          refine lv_goto (tgt := 2) hx hb dX0_clearRows_54 (by decide) ?_
          exact ih_9 (v_1 + 1) S_15 H locs ls hM hG (lv_sub hl [0, 1, 2] rfl)
        have loop_18 : ∀ (f : Nat) (v_13 : Int) (S_14 : St) (H : Heap) (locs : List Loc) (ls : Array Slot), mX0_clearRows_40_10 v_1 a1 f v_13 S_14 = some S_15 → gW D cy b n s H locs (enc b cy X S_14) → lv_has ls 4 [(3, .int (iI v_13)), (2, .int (iI v_1)), (0, .ref (b + 40)), (1, .int (iI a1))] → W p l e (gRm 2 0 0) s m args below meth c H locs 0 0 (gQV D cy b s args below 0 0 (fun u => u = (n, enc b cy X o1))) (F0 m 10 ls []) := by
          clear hM
          intro f
          induction f with
          | zero => intro v_13 S_14 H locs ls hM; rw [mX0_clearRows_40_10] at hM; cases hM
          | succ f_20 ih_19 =>
            intro v_13 S_14 H locs ls hM hG hl
            rw [mX0_clearRows_40_10] at hM
            refine lv_iload_n hx hb dX0_clearRows_10 rfl (lv_at hl 0 rfl) ?_
            refine lv_aload_n hx hb dX0_clearRows_11 rfl (lv_at hl 2 rfl) ?_
            refine m_get S hG 40 40 0 rfl ec_40 cpX0 wm_403 dX0_clearRows_12 rfl (Nat.lt_of_lt_of_le (Nat.le_of_ble_eq_true rfl) hn) (by decide) ?_
            refine m_get S hG 2 2 0 rfl ec_2 cpX2 wm_213 dX0_clearRows_15 rfl (Nat.lt_of_lt_of_le (Nat.le_of_ble_eq_true rfl) hn) (by decide) ?_
            obtain ⟨hg_21, hM⟩ := gd_some hM
            refine gi_icmp_gt (tgt := 51) hx hb dX0_clearRows_18 (by decide) hg_21.1 hg_21.2 (fun c_22 => ?_) (fun c_22 => ?_)
            · replace hM := ifp hM c_22
              cases hM
              exact hK_17 H locs ls hG (lv_sub hl [1, 2, 3] rfl)
            · replace hM := ifn hM c_22
              refine lv_aload_n hx hb dX0_clearRows_21 rfl (lv_at hl 2 rfl) ?_
              refine lv_aload_n hx hb dX0_clearRows_22 rfl (lv_at hl 2 rfl) ?_
              refine m_get S hG 40 40 5 rfl ec_40 cpX0 wm_408 dX0_clearRows_23 rfl (Nat.lt_of_lt_of_le (Nat.le_of_ble_eq_true rfl) hn) (by decide) ?_
              refine lv_iload_n hx hb dX0_clearRows_26 rfl (lv_at hl 3 rfl) ?_
              refine lv_sipush (v := iI 512) hx hb dX0_clearRows_27 (by decide) ?_
              refine gi_mul hx hb dX0_clearRows_30 ?_
              refine lv_iload_n hx hb dX0_clearRows_31 rfl (lv_at hl 1 rfl) ?_
              refine lv_bipush (v := iI 64) hx hb dX0_clearRows_32 (by decide) ?_
              refine gi_mul hx hb dX0_clearRows_34 ?_
              refine gi_add hx hb dX0_clearRows_35 ?_
              refine lv_iload_n hx hb dX0_clearRows_36 rfl (lv_at hl 0 rfl) ?_
              refine lv_bipush (v := iI 8) hx hb dX0_clearRows_37 (by decide) ?_
              refine gi_mul hx hb dX0_clearRows_39 ?_
              refine gi_add hx hb dX0_clearRows_40 ?_
              refine lv_iload_n hx hb dX0_clearRows_41 rfl (lv_at hl 0 rfl) ?_
              obtain ⟨S_24, hc_23, hM⟩ := bd1_some hM
              refine g_vv (As := [.ref (b + 44), .int (iI (((a1 * 512) + (v_1 * 64)) + (v_13 * 8))), .int (iI v_13)]) (rest := []) S hG hsz (vX0_clearCells_40_44 l hn (((a1 * 512) + (v_1 * 64)) + (v_13 * 8)) v_13 hc_23) wV_0_129 (ec_40 _) cpX0 (Nat.lt_of_lt_of_le (Nat.le_of_ble_eq_true rfl) hn) dX0_clearRows_42 rfl hl.1 (ar := 3) (by decide +kernel) rfl ⟨Nat.le_of_ble_eq_true rfl, Nat.le_of_ble_eq_true rfl, Nat.le_of_ble_eq_true rfl, Nat.le_of_ble_eq_true rfl⟩ (Nat.le_of_ble_eq_true rfl) (fun uu H locs hp hG => ?_)
              obtain rfl := hp
              replace hG : gW D cy b n s H locs (enc b cy X S_24) := hG
              refine lv_iinc (v := iI (v_13 + 1)) (lv' := [(3, .int (iI (v_13 + 1))), (2, .int (iI v_1)), (0, .ref (b + 40)), (1, .int (iI a1))]) hx hb dX0_clearRows_45 hl (k := 0) rfl ((iI_add v_13 (1)).trans (congrArg iI (by omega))) (by decide) rfl (fun ls hl => ?_)
              refine lv_goto (tgt := 10) hx hb dX0_clearRows_48 (by decide) ?_
              exact ih_19 (v_13 + 1) S_24 H locs ls hM hG (lv_sub hl [0, 1, 2, 3] rfl)
        exact loop_18 FU 0 S_2 H locs ls hc_16 hG (lv_sub hl [0, 1, 2, 3] rfl)
  exact loop_8 FU 0 S0 H locs ls hc_4 hG (lv_sub hl [0, 1, 2] rfl)
def mX0_countSequence_40_185 (v_19 : Int) (x_3 : Int) (x_1 : Int) (a1 : Int) (a2 : Int) : Nat → Int → St → Option (St)
  | 0, _, _ => none
  | f + 1, v_32, S_33 => bd1 (mX0_letterTop_40 S_33 a2) fun r_41 => gd ((inI v_32) ∧ (inI r_41)) <| if r_41 < v_32 then (some (S_33)) else (gd (0 ≤ (x_1 + v_32) ∧ (x_1 + v_32) < 1536) <| bd1 (mX0_sequencesOf_40 S_33 a1 v_19 a2 v_32) fun r_46 => bd1 (mX11_plus (S_33 41 (x_1 + v_32)) r_46) fun r_48 => nx (up S_33 41 (x_1 + v_32) r_48) fun S_49 => mX0_countSequence_40_185 v_19 x_3 x_1 a1 a2 f (v_32 + 1) S_49)
def mX0_countSequence_40_166 (x_3 : Int) (x_1 : Int) (a1 : Int) (a2 : Int) : Nat → Int → St → Option (St)
  | 0, _, _ => none
  | f + 1, v_19, S_20 => bd1 (if x_3 = 0 then (some (a2)) else (some (x_3))) fun z_27 => gd ((inI v_19) ∧ (inI z_27)) <| if z_27 < v_19 then (some (S_20)) else (bd1 (mX0_countSequence_40_185 v_19 x_3 x_1 a1 a2 FU 0 S_20) fun S_34 => mX0_countSequence_40_166 x_3 x_1 a1 a2 f (v_19 + 1) S_34)
def mX0_countSequence_40 (S0 : St) (a1 : Int) (a2 : Int) : Option (St) := nx ((a1 * 64) + (a2 * 8)) fun x_1 => gd (0 ≤ a1 ∧ a1 < 24) <| nx (S0 4 a1) fun x_3 => nx (S0 3 a1) fun x_4 => bd1 (mX0_clearCells_40_41 S0 x_1 a2) fun S_6 => gd (inI a2) <| if a2 = 0 then (bd1 (mX0_clearRows_40 S_6 a1) fun S_64 => bd1 (mX0_keepStage_40 S_64 a1 0) fun S_66 => gd (inI x_3) <| if x_3 = 0 then (gd (inI x_4) <| if x_4 = 6 then (gd (0 ≤ x_1 ∧ x_1 < 1536) <| nx (up S_66 41 x_1 0) fun S_74 => some (S_74)) else (gd (0 ≤ x_1 ∧ x_1 < 1536) <| nx (up S_66 41 x_1 1) fun S_76 => some (S_76))) else (gd (0 ≤ x_1 ∧ x_1 < 1536) <| nx (up S_66 41 x_1 0) fun S_70 => some (S_70))) else (gd (inI x_3) <| if x_3 = 1 then (bd1 (mX0_copyCells_40_41_41 S_6 (((S_6 5 a1) * 64) + (a2 * 8)) x_1 a2) fun S_62 => some (S_62)) else (bd1 (mX0_inClasses_40 S_6 a1) fun r_12 => bd1 (gd (inI r_12) <| if r_12 = 0 then (bd1 (mX0_growRows_40 S_6 a1 a2) fun S_55 => some (S_55)) else (if x_3 = 0 then (bd1 (mX0_addClasses_40 S_6 a1 a2) fun S_60 => some (S_60)) else (bd1 (mX0_addClasses_40 S_6 a1 (a2 - 1)) fun S_58 => some (S_58)))) fun S_13 => bd1 (if x_3 = 0 then (some (1)) else (some (x_3))) fun z_16 => bd1 (mX0_countSequence_40_166 x_3 x_1 a1 a2 FU z_16 S_13) fun S_21 => some (S_21)))
set_option maxHeartbeats 4000000 in
set_option maxRecDepth 100000 in
theorem vX0_countSequence_40 (l : Launch) {D : va_G} {cy : Nat → ClassId} {b n : Nat} (hn : 102 ≤ n) {X : Nat → va_E} {S0 : St} (a1 : Int) (a2 : Int) {o1 : St} (hM : mX0_countSequence_40 S0 a1 a2 = some o1) : gV l yX0_countSequence cX0_countSequence 8 3 0 0 D cy b n (enc b cy X S0) [.ref (b + 40), .int (iI a1), .int (iI a2)] (fun u => u = (n, enc b cy X o1)) := by
  refine gV_of (by decide) (Nat.le_of_ble_eq_true rfl) ?_
  intro p e s m args below meth c S hr hlk hin hsz ls hl hG
  have hx := S.1
  have hb := S.2.1
  have hl : lv_has ls 8 [(0, .ref (b + 40)), (1, .int (iI a1)), (2, .int (iI a2))] := hl
  replace hG : gW D cy b n s s.heap [] (enc b cy X S0) := hG
  obtain ⟨H, eH⟩ : ∃ H, H = s.heap := ⟨_, rfl⟩
  obtain ⟨locs, elocs⟩ : ∃ locs : List Loc, locs = [] := ⟨_, rfl⟩
  rw [← eH, ← elocs] at hG
  rw [← eH, ← elocs]
  clear eH elocs
  unfold mX0_countSequence_40 at hM
  refine lv_iload_n hx hb dX0_countSequence_0 rfl (lv_at hl 1 rfl) ?_
  refine lv_bipush (v := iI 64) hx hb dX0_countSequence_1 (by decide) ?_
  refine gi_mul hx hb dX0_countSequence_3 ?_
  refine lv_iload_n hx hb dX0_countSequence_4 rfl (lv_at hl 2 rfl) ?_
  refine lv_bipush (v := iI 8) hx hb dX0_countSequence_5 (by decide) ?_
  refine gi_mul hx hb dX0_countSequence_7 ?_
  refine gi_add hx hb dX0_countSequence_8 ?_
  refine gi_nm (fun x_1 ex_1 => ?_)
  replace hM := nx_at hM ex_1
  clear ex_1
  refine lv_istore_n (lv' := [(3, .int (iI x_1)), (0, .ref (b + 40)), (1, .int (iI a1)), (2, .int (iI a2))]) hx hb dX0_countSequence_9 rfl hl (by decide) rfl (fun ls hl => ?_)
  refine lv_aload_n hx hb dX0_countSequence_10 rfl (lv_at hl 1 rfl) ?_
  refine m_get S hG 40 40 0 rfl ec_40 cpX0 wm_403 dX0_countSequence_11 rfl (Nat.lt_of_lt_of_le (Nat.le_of_ble_eq_true rfl) hn) (by decide) ?_
  refine m_get S hG 2 2 6 rfl ec_2 cpX2 wm_245 dX0_countSequence_14 rfl (Nat.lt_of_lt_of_le (Nat.le_of_ble_eq_true rfl) hn) (by decide) ?_
  refine lv_iload_n hx hb dX0_countSequence_17 rfl (lv_at hl 2 rfl) ?_
  obtain ⟨hg_2, hM⟩ := gd_some hM
  refine mi_ald S hG 4 4 rfl ec_4 (Nat.lt_of_lt_of_le (Nat.le_of_ble_eq_true rfl) hn) dX0_countSequence_18 hg_2 (by decide) ?_
  refine gi_nm (fun x_3 ex_3 => ?_)
  replace hM := nx_at hM ex_3
  clear ex_3
  refine lv_istore (lv' := [(4, .int (iI x_3)), (3, .int (iI x_1)), (0, .ref (b + 40)), (1, .int (iI a1)), (2, .int (iI a2))]) hx hb dX0_countSequence_19 hl (by decide) rfl (fun ls hl => ?_)
  refine lv_aload_n hx hb dX0_countSequence_21 rfl (lv_at hl 2 rfl) ?_
  refine m_get S hG 40 40 0 rfl ec_40 cpX0 wm_403 dX0_countSequence_22 rfl (Nat.lt_of_lt_of_le (Nat.le_of_ble_eq_true rfl) hn) (by decide) ?_
  refine m_get S hG 2 2 5 rfl ec_2 cpX2 wm_239 dX0_countSequence_25 rfl (Nat.lt_of_lt_of_le (Nat.le_of_ble_eq_true rfl) hn) (by decide) ?_
  refine lv_iload_n hx hb dX0_countSequence_28 rfl (lv_at hl 3 rfl) ?_
  refine mi_ald S hG 3 3 rfl ec_3 (Nat.lt_of_lt_of_le (Nat.le_of_ble_eq_true rfl) hn) dX0_countSequence_29 hg_2 (by decide) ?_
  refine gi_nm (fun x_4 ex_4 => ?_)
  replace hM := nx_at hM ex_4
  clear ex_4
  refine lv_istore (lv' := [(5, .int (iI x_4)), (4, .int (iI x_3)), (3, .int (iI x_1)), (0, .ref (b + 40)), (1, .int (iI a1)), (2, .int (iI a2))]) hx hb dX0_countSequence_30 hl (by decide) rfl (fun ls hl => ?_)
  refine lv_aload_n hx hb dX0_countSequence_32 rfl (lv_at hl 3 rfl) ?_
  refine lv_aload_n hx hb dX0_countSequence_33 rfl (lv_at hl 3 rfl) ?_
  refine m_get S hG 40 40 2 rfl ec_40 cpX0 wm_405 dX0_countSequence_34 rfl (Nat.lt_of_lt_of_le (Nat.le_of_ble_eq_true rfl) hn) (by decide) ?_
  refine lv_iload_n hx hb dX0_countSequence_37 rfl (lv_at hl 2 rfl) ?_
  refine lv_iload_n hx hb dX0_countSequence_38 rfl (lv_at hl 5 rfl) ?_
  obtain ⟨S_6, hc_5, hM⟩ := bd1_some hM
  refine g_vv (As := [.ref (b + 41), .int (iI x_1), .int (iI a2)]) (rest := []) S hG hsz (vX0_clearCells_40_41 l hn x_1 a2 hc_5) wV_0_129 (ec_40 _) cpX0 (Nat.lt_of_lt_of_le (Nat.le_of_ble_eq_true rfl) hn) dX0_countSequence_39 rfl hl.1 (ar := 3) (by decide +kernel) rfl ⟨Nat.le_of_ble_eq_true rfl, Nat.le_of_ble_eq_true rfl, Nat.le_of_ble_eq_true rfl, Nat.le_of_ble_eq_true rfl⟩ (Nat.le_of_ble_eq_true rfl) (fun uu H locs hp hG => ?_)
  obtain rfl := hp
  replace hG : gW D cy b n s H locs (enc b cy X S_6) := hG
  refine lv_iload_n hx hb dX0_countSequence_42 rfl (lv_at hl 5 rfl) ?_
  obtain ⟨hg_7, hM⟩ := gd_some hM
  refine gi_if_ne (tgt := 81) hx hb dX0_countSequence_43 (by decide) hg_7 (fun c_8 => ?_) (fun c_8 => ?_)
  · replace hM := ifn hM c_8
    refine lv_iload hx hb dX0_countSequence_81 (lv_at hl 1 rfl) ?_
    refine lv_iconst (v := iI 1) hx hb dX0_countSequence_83 (by decide) ?_
    obtain ⟨hg_9, hM⟩ := gd_some hM
    refine gi_icmp_ne (tgt := 119) hx hb dX0_countSequence_84 (by decide) hg_9 (by decide) (fun c_10 => ?_) (fun c_10 => ?_)
    · replace hM := ifn hM c_10
      refine lv_aload_n hx hb dX0_countSequence_119 rfl (lv_at hl 3 rfl) ?_
      refine lv_iload_n hx hb dX0_countSequence_120 rfl (lv_at hl 4 rfl) ?_
      obtain ⟨r_12, hc_11, hM⟩ := bd1_some hM
      refine g_vi (As := [.int (iI a1)]) (rest := []) S hG hsz (vX0_inClasses_40 l hn a1 hc_11) wV_0_155 (ec_40 _) cpX0 (Nat.lt_of_lt_of_le (Nat.le_of_ble_eq_true rfl) hn) dX0_countSequence_121 rfl hl.1 (ar := 1) (by decide +kernel) rfl ⟨Nat.le_of_ble_eq_true rfl, Nat.le_of_ble_eq_true rfl, Nat.le_of_ble_eq_true rfl, Nat.le_of_ble_eq_true rfl⟩ (Nat.le_of_ble_eq_true rfl) (fun rv uu H locs hp hG => ?_)
      obtain ⟨rfl, rfl⟩ := hp
      replace hG : gW D cy b n s H locs (enc b cy X S_6) := hG
      obtain ⟨S_13, hc_14, hM⟩ := bd1_some hM
      have hK_15 : ∀ (H : Heap) (locs : List Loc) (ls : Array Slot), gW D cy b n s H locs (enc b cy X S_13) → lv_has ls 8 [(4, .int (iI x_3)), (3, .int (iI x_1)), (0, .ref (b + 40)), (1, .int (iI a1)), (2, .int (iI a2))] → W p l e (gRm 3 0 0) s m args below meth c H locs 0 0 (gQV D cy b s args below 0 0 (fun u => u = (n, enc b cy X o1))) (F0 m 153 ls []) := by
        intro H locs ls hG hl
        refine lv_iload hx hb dX0_countSequence_153 (lv_at hl 0 rfl) ?_
        obtain ⟨z_16, hc_17, hM⟩ := bd1_some hM
        have hK_18 : ∀ (H : Heap) (locs : List Loc) (ls : Array Slot), gW D cy b n s H locs (enc b cy X S_13) → lv_has ls 8 [(4, .int (iI x_3)), (3, .int (iI x_1)), (0, .ref (b + 40)), (1, .int (iI a1)), (2, .int (iI a2))] → W p l e (gRm 3 0 0) s m args below meth c H locs 0 0 (gQV D cy b s args below 0 0 (fun u => u = (n, enc b cy X o1))) (F0 m 164 ls [.int (iI z_16)]) := by
          intro H locs ls hG hl
          refine lv_istore (lv' := [(6, .int (iI z_16)), (4, .int (iI x_3)), (3, .int (iI x_1)), (0, .ref (b + 40)), (1, .int (iI a1)), (2, .int (iI a2))]) hx hb dX0_countSequence_164 hl (by decide) rfl (fun ls hl => ?_)
          obtain ⟨S_21, hc_22, hM⟩ := bd1_some hM
          have hK_23 : ∀ (H : Heap) (locs : List Loc) (ls : Array Slot), gW D cy b n s H locs (enc b cy X S_21) → lv_has ls 8 [] → W p l e (gRm 3 0 0) s m args below meth c H locs 0 0 (gQV D cy b s args below 0 0 (fun u => u = (n, enc b cy X o1))) (F0 m 238 ls []) := by
            intro H locs ls hG hl
            cases hM
            exact g_vret S hr hlk hG hsz dX0_countSequence_238 ⟨Nat.le_of_ble_eq_true rfl, Nat.le_of_ble_eq_true rfl⟩ rfl
          have loop_24 : ∀ (f : Nat) (v_19 : Int) (S_20 : St) (H : Heap) (locs : List Loc) (ls : Array Slot), mX0_countSequence_40_166 x_3 x_1 a1 a2 f v_19 S_20 = some S_21 → gW D cy b n s H locs (enc b cy X S_20) → lv_has ls 8 [(6, .int (iI v_19)), (4, .int (iI x_3)), (3, .int (iI x_1)), (0, .ref (b + 40)), (1, .int (iI a1)), (2, .int (iI a2))] → W p l e (gRm 3 0 0) s m args below meth c H locs 0 0 (gQV D cy b s args below 0 0 (fun u => u = (n, enc b cy X o1))) (F0 m 166 ls []) := by
            clear hM
            intro f
            induction f with
            | zero => intro v_19 S_20 H locs ls hM; rw [mX0_countSequence_40_166] at hM; cases hM
            | succ f_26 ih_25 =>
              intro v_19 S_20 H locs ls hM hG hl
              rw [mX0_countSequence_40_166] at hM
              refine lv_iload hx hb dX0_countSequence_166 (lv_at hl 0 rfl) ?_
              refine lv_iload hx hb dX0_countSequence_168 (lv_at hl 1 rfl) ?_
              obtain ⟨z_27, hc_28, hM⟩ := bd1_some hM
              have hK_29 : ∀ (H : Heap) (locs : List Loc) (ls : Array Slot), gW D cy b n s H locs (enc b cy X S_20) → lv_has ls 8 [(6, .int (iI v_19)), (4, .int (iI x_3)), (3, .int (iI x_1)), (0, .ref (b + 40)), (1, .int (iI a1)), (2, .int (iI a2))] → W p l e (gRm 3 0 0) s m args below meth c H locs 0 0 (gQV D cy b s args below 0 0 (fun u => u = (n, enc b cy X o1))) (F0 m 179 ls [.int (iI z_27), .int (iI v_19)]) := by
                intro H locs ls hG hl
                obtain ⟨hg_30, hM⟩ := gd_some hM
                refine gi_icmp_gt (tgt := 238) hx hb dX0_countSequence_179 (by decide) hg_30.1 hg_30.2 (fun c_31 => ?_) (fun c_31 => ?_)
                · replace hM := ifp hM c_31
                  cases hM
                  exact hK_23 H locs ls hG (lv_sub hl [] rfl)
                · replace hM := ifn hM c_31
                  refine lv_iconst (v := iI 0) hx hb dX0_countSequence_182 (by decide) ?_
                  refine lv_istore (lv' := [(7, .int (iI 0)), (6, .int (iI v_19)), (4, .int (iI x_3)), (3, .int (iI x_1)), (0, .ref (b + 40)), (1, .int (iI a1)), (2, .int (iI a2))]) hx hb dX0_countSequence_183 hl (by decide) rfl (fun ls hl => ?_)
                  obtain ⟨S_34, hc_35, hM⟩ := bd1_some hM
                  have hK_36 : ∀ (H : Heap) (locs : List Loc) (ls : Array Slot), gW D cy b n s H locs (enc b cy X S_34) → lv_has ls 8 [(6, .int (iI v_19)), (4, .int (iI x_3)), (3, .int (iI x_1)), (0, .ref (b + 40)), (1, .int (iI a1)), (2, .int (iI a2))] → W p l e (gRm 3 0 0) s m args below meth c H locs 0 0 (gQV D cy b s args below 0 0 (fun u => u = (n, enc b cy X o1))) (F0 m 232 ls []) := by
                    intro H locs ls hG hl
                    refine lv_iinc (v := iI (v_19 + 1)) (lv' := [(6, .int (iI (v_19 + 1))), (4, .int (iI x_3)), (3, .int (iI x_1)), (0, .ref (b + 40)), (1, .int (iI a1)), (2, .int (iI a2))]) hx hb dX0_countSequence_232 hl (k := 0) rfl ((iI_add v_19 (1)).trans (congrArg iI (by omega))) (by decide) rfl (fun ls hl => ?_)
                    refine lv_goto (tgt := 166) hx hb dX0_countSequence_235 (by decide) ?_
                    exact ih_25 (v_19 + 1) S_34 H locs ls hM hG (lv_sub hl [0, 1, 2, 3, 4, 5] rfl)
                  have loop_37 : ∀ (f : Nat) (v_32 : Int) (S_33 : St) (H : Heap) (locs : List Loc) (ls : Array Slot), mX0_countSequence_40_185 v_19 x_3 x_1 a1 a2 f v_32 S_33 = some S_34 → gW D cy b n s H locs (enc b cy X S_33) → lv_has ls 8 [(7, .int (iI v_32)), (6, .int (iI v_19)), (4, .int (iI x_3)), (3, .int (iI x_1)), (0, .ref (b + 40)), (1, .int (iI a1)), (2, .int (iI a2))] → W p l e (gRm 3 0 0) s m args below meth c H locs 0 0 (gQV D cy b s args below 0 0 (fun u => u = (n, enc b cy X o1))) (F0 m 185 ls []) := by
                    clear hM
                    intro f
                    induction f with
                    | zero => intro v_32 S_33 H locs ls hM; rw [mX0_countSequence_40_185] at hM; cases hM
                    | succ f_39 ih_38 =>
                      intro v_32 S_33 H locs ls hM hG hl
                      rw [mX0_countSequence_40_185] at hM
                      refine lv_iload hx hb dX0_countSequence_185 (lv_at hl 0 rfl) ?_
                      refine lv_aload_n hx hb dX0_countSequence_187 rfl (lv_at hl 4 rfl) ?_
                      refine lv_iload_n hx hb dX0_countSequence_188 rfl (lv_at hl 6 rfl) ?_
                      obtain ⟨r_41, hc_40, hM⟩ := bd1_some hM
                      refine g_vi (As := [.int (iI a2)]) (rest := [.int (iI v_32)]) S hG hsz (vX0_letterTop_40 l hn a2 hc_40) wV_0_108 (ec_40 _) cpX0 (Nat.lt_of_lt_of_le (Nat.le_of_ble_eq_true rfl) hn) dX0_countSequence_189 rfl hl.1 (ar := 1) (by decide +kernel) rfl ⟨Nat.le_of_ble_eq_true rfl, Nat.le_of_ble_eq_true rfl, Nat.le_of_ble_eq_true rfl, Nat.le_of_ble_eq_true rfl⟩ (Nat.le_of_ble_eq_true rfl) (fun rv uu H locs hp hG => ?_)
                      obtain ⟨rfl, rfl⟩ := hp
                      replace hG : gW D cy b n s H locs (enc b cy X S_33) := hG
                      obtain ⟨hg_42, hM⟩ := gd_some hM
                      refine gi_icmp_gt (tgt := 232) hx hb dX0_countSequence_192 (by decide) hg_42.1 hg_42.2 (fun c_43 => ?_) (fun c_43 => ?_)
                      · replace hM := ifp hM c_43
                        cases hM
                        exact hK_36 H locs ls hG (lv_sub hl [1, 2, 3, 4, 5, 6] rfl)
                      · replace hM := ifn hM c_43
                        refine lv_aload_n hx hb dX0_countSequence_195 rfl (lv_at hl 4 rfl) ?_
                        refine m_get S hG 40 40 2 rfl ec_40 cpX0 wm_405 dX0_countSequence_196 rfl (Nat.lt_of_lt_of_le (Nat.le_of_ble_eq_true rfl) hn) (by decide) ?_
                        refine lv_iload_n hx hb dX0_countSequence_199 rfl (lv_at hl 3 rfl) ?_
                        refine lv_iload hx hb dX0_countSequence_200 (lv_at hl 0 rfl) ?_
                        refine gi_add hx hb dX0_countSequence_202 ?_
                        refine lv_aload_n hx hb dX0_countSequence_203 rfl (lv_at hl 4 rfl) ?_
                        refine m_get S hG 40 40 2 rfl ec_40 cpX0 wm_405 dX0_countSequence_204 rfl (Nat.lt_of_lt_of_le (Nat.le_of_ble_eq_true rfl) hn) (by decide) ?_
                        refine lv_iload_n hx hb dX0_countSequence_207 rfl (lv_at hl 3 rfl) ?_
                        refine lv_iload hx hb dX0_countSequence_208 (lv_at hl 0 rfl) ?_
                        refine gi_add hx hb dX0_countSequence_210 ?_
                        obtain ⟨hg_44, hM⟩ := gd_some hM
                        refine mj_ald S hG 41 41 rfl ec_41 (Nat.lt_of_lt_of_le (Nat.le_of_ble_eq_true rfl) hn) dX0_countSequence_211 hg_44 (by decide) ?_
                        refine lv_aload_n hx hb dX0_countSequence_212 rfl (lv_at hl 4 rfl) ?_
                        refine lv_iload_n hx hb dX0_countSequence_213 rfl (lv_at hl 5 rfl) ?_
                        refine lv_iload hx hb dX0_countSequence_214 (lv_at hl 1 rfl) ?_
                        refine lv_iload_n hx hb dX0_countSequence_216 rfl (lv_at hl 6 rfl) ?_
                        refine lv_iload hx hb dX0_countSequence_217 (lv_at hl 0 rfl) ?_
                        obtain ⟨r_46, hc_45, hM⟩ := bd1_some hM
                        refine g_vl (As := [.int (iI a1), .int (iI v_19), .int (iI a2), .int (iI v_32)]) (rest := [.long (jJ (S_33 41 (x_1 + v_32))), .int (iI (x_1 + v_32)), .ref (b + 41)]) S hG hsz (vX0_sequencesOf_40 l hn a1 v_19 a2 v_32 hc_45) wV_0_164 (ec_40 _) cpX0 (Nat.lt_of_lt_of_le (Nat.le_of_ble_eq_true rfl) hn) dX0_countSequence_219 rfl hl.1 (ar := 4) (by decide +kernel) rfl ⟨Nat.le_of_ble_eq_true rfl, Nat.le_of_ble_eq_true rfl, Nat.le_of_ble_eq_true rfl, Nat.le_of_ble_eq_true rfl⟩ (Nat.le_of_ble_eq_true rfl) (fun rv uu H locs hp hG => ?_)
                        obtain ⟨rfl, rfl⟩ := hp
                        replace hG : gW D cy b n s H locs (enc b cy X S_33) := hG
                        obtain ⟨r_48, hc_47, hM⟩ := bd1_some hM
                        refine g_slN (As := [.long (jJ (S_33 41 (x_1 + v_32))), .long (jJ r_46)]) (rest := [.int (iI (x_1 + v_32)), .ref (b + 41)]) S hG hsz (vX11_plus l hn (S_33 41 (x_1 + v_32)) r_46 hc_47) (y := yX11_plus) (host := "GrownKinds") (by decide +kernel) ⟨wm_997, wm_177, wm_998, by decide +kernel, by decide +kernel⟩ dX0_countSequence_222 rfl hl.1 (ar := 2) (by decide +kernel) rfl ⟨Nat.le_of_ble_eq_true rfl, Nat.le_of_ble_eq_true rfl, Nat.le_of_ble_eq_true rfl, Nat.le_of_ble_eq_true rfl⟩ (Nat.le_of_ble_eq_true rfl) (fun rv uu H locs hp hG => ?_)
                        obtain ⟨rfl, rfl⟩ := hp
                        replace hG : gW D cy b n s H locs (enc b cy X S_33) := hG
                        refine mj_ast S hG 41 41 rfl ec_41 (Nat.lt_of_lt_of_le (Nat.le_of_ble_eq_true rfl) hn) dX0_countSequence_225 hg_44 (by decide) (fun H locs S_49 eS_49 hG => ?_)
                        replace hM := nx_at hM eS_49
                        clear eS_49
                        refine lv_iinc (v := iI (v_32 + 1)) (lv' := [(7, .int (iI (v_32 + 1))), (6, .int (iI v_19)), (4, .int (iI x_3)), (3, .int (iI x_1)), (0, .ref (b + 40)), (1, .int (iI a1)), (2, .int (iI a2))]) hx hb dX0_countSequence_226 hl (k := 0) rfl ((iI_add v_32 (1)).trans (congrArg iI (by omega))) (by decide) rfl (fun ls hl => ?_)
                        refine lv_goto (tgt := 185) hx hb dX0_countSequence_229 (by decide) ?_
                        exact ih_38 (v_32 + 1) S_49 H locs ls hM hG (lv_sub hl [0, 1, 2, 3, 4, 5, 6] rfl)
                  exact loop_37 FU 0 S_20 H locs ls hc_35 hG (lv_sub hl [0, 1, 2, 3, 4, 5, 6] rfl)
              clear hM
              replace hM := hc_28
              refine gi_if_ne (tgt := 177) hx hb dX0_countSequence_170 (by decide) hg_9 (fun c_50 => ?_) (fun c_50 => ?_)
              · replace hM := ifn hM c_50
                refine lv_iload hx hb dX0_countSequence_177 (lv_at hl 1 rfl) ?_
                cases hM
                exact hK_29 H locs ls hG (lv_sub hl [0, 1, 2, 3, 4, 5] rfl)
              · replace hM := ifp hM c_50
                refine lv_iload_n hx hb dX0_countSequence_173 rfl (lv_at hl 5 rfl) ?_
                refine lv_goto (tgt := 179) hx hb dX0_countSequence_174 (by decide) ?_
                cases hM
                exact hK_29 H locs ls hG (lv_sub hl [0, 1, 2, 3, 4, 5] rfl)
          exact loop_24 FU z_16 S_13 H locs ls hc_22 hG (lv_sub hl [0, 1, 2, 3, 4, 5] rfl)
        clear hM
        replace hM := hc_17
        refine gi_if_ne (tgt := 162) hx hb dX0_countSequence_155 (by decide) hg_9 (fun c_51 => ?_) (fun c_51 => ?_)
        · replace hM := ifn hM c_51
          refine lv_iload hx hb dX0_countSequence_162 (lv_at hl 0 rfl) ?_
          cases hM
          exact hK_18 H locs ls hG (lv_sub hl [0, 1, 2, 3, 4] rfl)
        · replace hM := ifp hM c_51
          refine lv_iconst (v := iI 1) hx hb dX0_countSequence_158 (by decide) ?_
          refine lv_goto (tgt := 164) hx hb dX0_countSequence_159 (by decide) ?_
          cases hM
          exact hK_18 H locs ls hG (lv_sub hl [0, 1, 2, 3, 4] rfl)
      clear hM
      replace hM := hc_14
      obtain ⟨hg_52, hM⟩ := gd_some hM
      refine gi_if_eq (tgt := 147) hx hb dX0_countSequence_124 (by decide) hg_52 (fun c_53 => ?_) (fun c_53 => ?_)
      · replace hM := ifp hM c_53
        refine lv_aload_n hx hb dX0_countSequence_147 rfl (lv_at hl 3 rfl) ?_
        refine lv_iload_n hx hb dX0_countSequence_148 rfl (lv_at hl 4 rfl) ?_
        refine lv_iload_n hx hb dX0_countSequence_149 rfl (lv_at hl 5 rfl) ?_
        obtain ⟨S_55, hc_54, hM⟩ := bd1_some hM
        refine g_vv (As := [.int (iI a1), .int (iI a2)]) (rest := []) S hG hsz (vX0_growRows_40 l hn a1 a2 hc_54) wV_0_161 (ec_40 _) cpX0 (Nat.lt_of_lt_of_le (Nat.le_of_ble_eq_true rfl) hn) dX0_countSequence_150 rfl hl.1 (ar := 2) (by decide +kernel) rfl ⟨Nat.le_of_ble_eq_true rfl, Nat.le_of_ble_eq_true rfl, Nat.le_of_ble_eq_true rfl, Nat.le_of_ble_eq_true rfl⟩ (Nat.le_of_ble_eq_true rfl) (fun uu H locs hp hG => ?_)
        obtain rfl := hp
        replace hG : gW D cy b n s H locs (enc b cy X S_55) := hG
        cases hM
        exact hK_15 H locs ls hG (lv_sub hl [1, 2, 3, 4, 5] rfl)
      · replace hM := ifn hM c_53
        refine lv_aload_n hx hb dX0_countSequence_127 rfl (lv_at hl 3 rfl) ?_
        refine lv_iload_n hx hb dX0_countSequence_128 rfl (lv_at hl 4 rfl) ?_
        refine lv_iload hx hb dX0_countSequence_129 (lv_at hl 1 rfl) ?_
        refine gi_if_ne (tgt := 138) hx hb dX0_countSequence_131 (by decide) hg_9 (fun c_56 => ?_) (fun c_56 => ?_)
        · replace hM := ifn hM c_56
          refine lv_iload_n hx hb dX0_countSequence_138 rfl (lv_at hl 5 rfl) ?_
          refine lv_iconst (v := iI 1) hx hb dX0_countSequence_139 (by decide) ?_
          refine gi_sub hx hb dX0_countSequence_140 ?_
          obtain ⟨S_58, hc_57, hM⟩ := bd1_some hM
          refine g_vv (As := [.int (iI a1), .int (iI (a2 - 1))]) (rest := []) S hG hsz (vX0_addClasses_40 l hn a1 (a2 - 1) hc_57) wV_0_158 (ec_40 _) cpX0 (Nat.lt_of_lt_of_le (Nat.le_of_ble_eq_true rfl) hn) dX0_countSequence_141 rfl hl.1 (ar := 2) (by decide +kernel) rfl ⟨Nat.le_of_ble_eq_true rfl, Nat.le_of_ble_eq_true rfl, Nat.le_of_ble_eq_true rfl, Nat.le_of_ble_eq_true rfl⟩ (Nat.le_of_ble_eq_true rfl) (fun uu H locs hp hG => ?_)
          obtain rfl := hp
          replace hG : gW D cy b n s H locs (enc b cy X S_58) := hG
          refine lv_goto (tgt := 153) hx hb dX0_countSequence_144 (by decide) ?_
          cases hM
          exact hK_15 H locs ls hG (lv_sub hl [1, 2, 3, 4, 5] rfl)
        · replace hM := ifp hM c_56
          refine lv_iload_n hx hb dX0_countSequence_134 rfl (lv_at hl 5 rfl) ?_
          refine lv_goto (tgt := 141) hx hb dX0_countSequence_135 (by decide) ?_
          obtain ⟨S_60, hc_59, hM⟩ := bd1_some hM
          refine g_vv (As := [.int (iI a1), .int (iI a2)]) (rest := []) S hG hsz (vX0_addClasses_40 l hn a1 a2 hc_59) wV_0_158 (ec_40 _) cpX0 (Nat.lt_of_lt_of_le (Nat.le_of_ble_eq_true rfl) hn) dX0_countSequence_141 rfl hl.1 (ar := 2) (by decide +kernel) rfl ⟨Nat.le_of_ble_eq_true rfl, Nat.le_of_ble_eq_true rfl, Nat.le_of_ble_eq_true rfl, Nat.le_of_ble_eq_true rfl⟩ (Nat.le_of_ble_eq_true rfl) (fun uu H locs hp hG => ?_)
          obtain rfl := hp
          replace hG : gW D cy b n s H locs (enc b cy X S_60) := hG
          refine lv_goto (tgt := 153) hx hb dX0_countSequence_144 (by decide) ?_
          cases hM
          exact hK_15 H locs ls hG (lv_sub hl [1, 2, 3, 4, 5] rfl)
    · replace hM := ifp hM c_10
      refine lv_aload_n hx hb dX0_countSequence_87 rfl (lv_at hl 3 rfl) ?_
      refine lv_aload_n hx hb dX0_countSequence_88 rfl (lv_at hl 3 rfl) ?_
      refine m_get S hG 40 40 2 rfl ec_40 cpX0 wm_405 dX0_countSequence_89 rfl (Nat.lt_of_lt_of_le (Nat.le_of_ble_eq_true rfl) hn) (by decide) ?_
      refine lv_aload_n hx hb dX0_countSequence_92 rfl (lv_at hl 3 rfl) ?_
      refine m_get S hG 40 40 0 rfl ec_40 cpX0 wm_403 dX0_countSequence_93 rfl (Nat.lt_of_lt_of_le (Nat.le_of_ble_eq_true rfl) hn) (by decide) ?_
      refine m_get S hG 2 2 7 rfl ec_2 cpX2 wm_252 dX0_countSequence_96 rfl (Nat.lt_of_lt_of_le (Nat.le_of_ble_eq_true rfl) hn) (by decide) ?_
      refine lv_iload_n hx hb dX0_countSequence_99 rfl (lv_at hl 4 rfl) ?_
      refine mi_ald S hG 5 5 rfl ec_5 (Nat.lt_of_lt_of_le (Nat.le_of_ble_eq_true rfl) hn) dX0_countSequence_100 hg_2 (by decide) ?_
      refine lv_bipush (v := iI 64) hx hb dX0_countSequence_101 (by decide) ?_
      refine gi_mul hx hb dX0_countSequence_103 ?_
      refine lv_iload_n hx hb dX0_countSequence_104 rfl (lv_at hl 5 rfl) ?_
      refine lv_bipush (v := iI 8) hx hb dX0_countSequence_105 (by decide) ?_
      refine gi_mul hx hb dX0_countSequence_107 ?_
      refine gi_add hx hb dX0_countSequence_108 ?_
      refine lv_aload_n hx hb dX0_countSequence_109 rfl (lv_at hl 3 rfl) ?_
      refine m_get S hG 40 40 2 rfl ec_40 cpX0 wm_405 dX0_countSequence_110 rfl (Nat.lt_of_lt_of_le (Nat.le_of_ble_eq_true rfl) hn) (by decide) ?_
      refine lv_iload_n hx hb dX0_countSequence_113 rfl (lv_at hl 2 rfl) ?_
      refine lv_iload_n hx hb dX0_countSequence_114 rfl (lv_at hl 5 rfl) ?_
      obtain ⟨S_62, hc_61, hM⟩ := bd1_some hM
      refine g_vv (As := [.ref (b + 41), .int (iI (((S_6 5 a1) * 64) + (a2 * 8))), .ref (b + 41), .int (iI x_1), .int (iI a2)]) (rest := []) S hG hsz (vX0_copyCells_40_41_41 l hn (((S_6 5 a1) * 64) + (a2 * 8)) x_1 a2 hc_61) wV_0_118 (ec_40 _) cpX0 (Nat.lt_of_lt_of_le (Nat.le_of_ble_eq_true rfl) hn) dX0_countSequence_115 rfl hl.1 (ar := 5) (by decide +kernel) rfl ⟨Nat.le_of_ble_eq_true rfl, Nat.le_of_ble_eq_true rfl, Nat.le_of_ble_eq_true rfl, Nat.le_of_ble_eq_true rfl⟩ (Nat.le_of_ble_eq_true rfl) (fun uu H locs hp hG => ?_)
      obtain rfl := hp
      replace hG : gW D cy b n s H locs (enc b cy X S_62) := hG
      cases hM
      exact g_vret S hr hlk hG hsz dX0_countSequence_118 ⟨Nat.le_of_ble_eq_true rfl, Nat.le_of_ble_eq_true rfl⟩ rfl
  · replace hM := ifp hM c_8
    refine lv_aload_n hx hb dX0_countSequence_46 rfl (lv_at hl 3 rfl) ?_
    refine lv_iload_n hx hb dX0_countSequence_47 rfl (lv_at hl 4 rfl) ?_
    obtain ⟨S_64, hc_63, hM⟩ := bd1_some hM
    refine g_vv (As := [.int (iI a1)]) (rest := []) S hG hsz (vX0_clearRows_40 l hn a1 hc_63) wV_0_145 (ec_40 _) cpX0 (Nat.lt_of_lt_of_le (Nat.le_of_ble_eq_true rfl) hn) dX0_countSequence_48 rfl hl.1 (ar := 1) (by decide +kernel) rfl ⟨Nat.le_of_ble_eq_true rfl, Nat.le_of_ble_eq_true rfl, Nat.le_of_ble_eq_true rfl, Nat.le_of_ble_eq_true rfl⟩ (Nat.le_of_ble_eq_true rfl) (fun uu H locs hp hG => ?_)
    obtain rfl := hp
    replace hG : gW D cy b n s H locs (enc b cy X S_64) := hG
    refine lv_aload_n hx hb dX0_countSequence_51 rfl (lv_at hl 3 rfl) ?_
    refine lv_iload_n hx hb dX0_countSequence_52 rfl (lv_at hl 4 rfl) ?_
    refine lv_iconst (v := iI 0) hx hb dX0_countSequence_53 (by decide) ?_
    obtain ⟨S_66, hc_65, hM⟩ := bd1_some hM
    refine g_vv (As := [.int (iI a1), .int (iI 0)]) (rest := []) S hG hsz (vX0_keepStage_40 l hn a1 0 hc_65) wV_0_149 (ec_40 _) cpX0 (Nat.lt_of_lt_of_le (Nat.le_of_ble_eq_true rfl) hn) dX0_countSequence_54 rfl hl.1 (ar := 2) (by decide +kernel) rfl ⟨Nat.le_of_ble_eq_true rfl, Nat.le_of_ble_eq_true rfl, Nat.le_of_ble_eq_true rfl, Nat.le_of_ble_eq_true rfl⟩ (Nat.le_of_ble_eq_true rfl) (fun uu H locs hp hG => ?_)
    obtain rfl := hp
    replace hG : gW D cy b n s H locs (enc b cy X S_66) := hG
    refine lv_aload_n hx hb dX0_countSequence_57 rfl (lv_at hl 3 rfl) ?_
    refine m_get S hG 40 40 2 rfl ec_40 cpX0 wm_405 dX0_countSequence_58 rfl (Nat.lt_of_lt_of_le (Nat.le_of_ble_eq_true rfl) hn) (by decide) ?_
    refine lv_iload_n hx hb dX0_countSequence_61 rfl (lv_at hl 2 rfl) ?_
    refine lv_iload hx hb dX0_countSequence_62 (lv_at hl 1 rfl) ?_
    obtain ⟨hg_67, hM⟩ := gd_some hM
    refine gi_if_ne (tgt := 78) hx hb dX0_countSequence_64 (by decide) hg_67 (fun c_68 => ?_) (fun c_68 => ?_)
    · replace hM := ifn hM c_68
      refine lv_lconst (v := jJ 0) hx hb dX0_countSequence_78 (by decide) ?_
      obtain ⟨hg_69, hM⟩ := gd_some hM
      refine mj_ast S hG 41 41 rfl ec_41 (Nat.lt_of_lt_of_le (Nat.le_of_ble_eq_true rfl) hn) dX0_countSequence_79 hg_69 (by decide) (fun H locs S_70 eS_70 hG => ?_)
      replace hM := nx_at hM eS_70
      clear eS_70
      cases hM
      exact g_vret S hr hlk hG hsz dX0_countSequence_80 ⟨Nat.le_of_ble_eq_true rfl, Nat.le_of_ble_eq_true rfl⟩ rfl
    · replace hM := ifp hM c_68
      refine lv_iload hx hb dX0_countSequence_67 (lv_at hl 0 rfl) ?_
      refine lv_bipush (v := iI 6) hx hb dX0_countSequence_69 (by decide) ?_
      obtain ⟨hg_71, hM⟩ := gd_some hM
      refine gi_icmp_eq (tgt := 78) hx hb dX0_countSequence_71 (by decide) hg_71 (by decide) (fun c_72 => ?_) (fun c_72 => ?_)
      · replace hM := ifp hM c_72
        refine lv_lconst (v := jJ 0) hx hb dX0_countSequence_78 (by decide) ?_
        obtain ⟨hg_73, hM⟩ := gd_some hM
        refine mj_ast S hG 41 41 rfl ec_41 (Nat.lt_of_lt_of_le (Nat.le_of_ble_eq_true rfl) hn) dX0_countSequence_79 hg_73 (by decide) (fun H locs S_74 eS_74 hG => ?_)
        replace hM := nx_at hM eS_74
        clear eS_74
        cases hM
        exact g_vret S hr hlk hG hsz dX0_countSequence_80 ⟨Nat.le_of_ble_eq_true rfl, Nat.le_of_ble_eq_true rfl⟩ rfl
      · replace hM := ifn hM c_72
        refine lv_lconst (v := jJ 1) hx hb dX0_countSequence_74 (by decide) ?_
        refine lv_goto (tgt := 79) hx hb dX0_countSequence_75 (by decide) ?_
        obtain ⟨hg_75, hM⟩ := gd_some hM
        refine mj_ast S hG 41 41 rfl ec_41 (Nat.lt_of_lt_of_le (Nat.le_of_ble_eq_true rfl) hn) dX0_countSequence_79 hg_75 (by decide) (fun H locs S_76 eS_76 hG => ?_)
        replace hM := nx_at hM eS_76
        clear eS_76
        cases hM
        exact g_vret S hr hlk hG hsz dX0_countSequence_80 ⟨Nat.le_of_ble_eq_true rfl, Nat.le_of_ble_eq_true rfl⟩ rfl
def mX0_copyCells_40_43_41_3 (a2 : Int) (a4 : Int) (a5 : Int) : Nat → Int → St → Option (St)
  | 0, _, _ => none
  | f + 1, v_1, S_2 => bd1 (mX0_letterTop_40 S_2 a5) fun r_10 => gd ((inI v_1) ∧ (inI r_10)) <| if r_10 < v_1 then (some (S_2)) else (gd (0 ≤ (a2 + v_1) ∧ (a2 + v_1) < 384) <| gd (0 ≤ (a4 + v_1) ∧ (a4 + v_1) < 1536) <| nx (up S_2 41 (a4 + v_1) (S_2 43 (a2 + v_1))) fun S_15 => mX0_copyCells_40_43_41_3 a2 a4 a5 f (v_1 + 1) S_15)
def mX0_copyCells_40_43_41 (S0 : St) (a2 : Int) (a4 : Int) (a5 : Int) : Option (St) := bd1 (mX0_copyCells_40_43_41_3 a2 a4 a5 FU 0 S0) fun S_3 => some (S_3)
set_option maxHeartbeats 4000000 in
set_option maxRecDepth 100000 in
theorem vX0_copyCells_40_43_41 (l : Launch) {D : va_G} {cy : Nat → ClassId} {b n : Nat} (hn : 102 ≤ n) {X : Nat → va_E} {S0 : St} (a2 : Int) (a4 : Int) (a5 : Int) {o1 : St} (hM : mX0_copyCells_40_43_41 S0 a2 a4 a5 = some o1) : gV l yX0_copyCells cX0_copyCells 7 1 0 0 D cy b n (enc b cy X S0) [.ref (b + 40), .ref (b + 43), .int (iI a2), .ref (b + 41), .int (iI a4), .int (iI a5)] (fun u => u = (n, enc b cy X o1)) := by
  refine gV_of (by decide) (Nat.le_of_ble_eq_true rfl) ?_
  intro p e s m args below meth c S hr hlk hin hsz ls hl hG
  have hx := S.1
  have hb := S.2.1
  have hl : lv_has ls 7 [(0, .ref (b + 40)), (1, .ref (b + 43)), (2, .int (iI a2)), (3, .ref (b + 41)), (4, .int (iI a4)), (5, .int (iI a5))] := hl
  replace hG : gW D cy b n s s.heap [] (enc b cy X S0) := hG
  obtain ⟨H, eH⟩ : ∃ H, H = s.heap := ⟨_, rfl⟩
  obtain ⟨locs, elocs⟩ : ∃ locs : List Loc, locs = [] := ⟨_, rfl⟩
  rw [← eH, ← elocs] at hG
  rw [← eH, ← elocs]
  clear eH elocs
  unfold mX0_copyCells_40_43_41 at hM
  refine lv_iconst (v := iI 0) hx hb dX0_copyCells_0 (by decide) ?_
  refine lv_istore (lv' := [(6, .int (iI 0)), (0, .ref (b + 40)), (1, .ref (b + 43)), (2, .int (iI a2)), (3, .ref (b + 41)), (4, .int (iI a4)), (5, .int (iI a5))]) hx hb dX0_copyCells_1 hl (by decide) rfl (fun ls hl => ?_)
  obtain ⟨S_3, hc_4, hM⟩ := bd1_some hM
  have hK_5 : ∀ (H : Heap) (locs : List Loc) (ls : Array Slot), gW D cy b n s H locs (enc b cy X S_3) → lv_has ls 7 [] → W p l e (gRm 1 0 0) s m args below meth c H locs 0 0 (gQV D cy b s args below 0 0 (fun u => u = (n, enc b cy X o1))) (F0 m 33 ls []) := by
    intro H locs ls hG hl
    cases hM
    exact g_vret S hr hlk hG hsz dX0_copyCells_33 ⟨Nat.le_of_ble_eq_true rfl, Nat.le_of_ble_eq_true rfl⟩ rfl
  have loop_6 : ∀ (f : Nat) (v_1 : Int) (S_2 : St) (H : Heap) (locs : List Loc) (ls : Array Slot), mX0_copyCells_40_43_41_3 a2 a4 a5 f v_1 S_2 = some S_3 → gW D cy b n s H locs (enc b cy X S_2) → lv_has ls 7 [(6, .int (iI v_1)), (0, .ref (b + 40)), (1, .ref (b + 43)), (2, .int (iI a2)), (3, .ref (b + 41)), (4, .int (iI a4)), (5, .int (iI a5))] → W p l e (gRm 1 0 0) s m args below meth c H locs 0 0 (gQV D cy b s args below 0 0 (fun u => u = (n, enc b cy X o1))) (F0 m 3 ls []) := by
    clear hM
    intro f
    induction f with
    | zero => intro v_1 S_2 H locs ls hM; rw [mX0_copyCells_40_43_41_3] at hM; cases hM
    | succ f_8 ih_7 =>
      intro v_1 S_2 H locs ls hM hG hl
      rw [mX0_copyCells_40_43_41_3] at hM
      refine lv_iload hx hb dX0_copyCells_3 (lv_at hl 0 rfl) ?_
      refine lv_aload_n hx hb dX0_copyCells_5 rfl (lv_at hl 1 rfl) ?_
      refine lv_iload hx hb dX0_copyCells_6 (lv_at hl 6 rfl) ?_
      obtain ⟨r_10, hc_9, hM⟩ := bd1_some hM
      refine g_vi (As := [.int (iI a5)]) (rest := [.int (iI v_1)]) S hG hsz (vX0_letterTop_40 l hn a5 hc_9) wV_0_108 (ec_40 _) cpX0 (Nat.lt_of_lt_of_le (Nat.le_of_ble_eq_true rfl) hn) dX0_copyCells_8 rfl hl.1 (ar := 1) (by decide +kernel) rfl ⟨Nat.le_of_ble_eq_true rfl, Nat.le_of_ble_eq_true rfl, Nat.le_of_ble_eq_true rfl, Nat.le_of_ble_eq_true rfl⟩ (Nat.le_of_ble_eq_true rfl) (fun rv uu H locs hp hG => ?_)
      obtain ⟨rfl, rfl⟩ := hp
      replace hG : gW D cy b n s H locs (enc b cy X S_2) := hG
      obtain ⟨hg_11, hM⟩ := gd_some hM
      refine gi_icmp_gt (tgt := 33) hx hb dX0_copyCells_11 (by decide) hg_11.1 hg_11.2 (fun c_12 => ?_) (fun c_12 => ?_)
      · replace hM := ifp hM c_12
        cases hM
        exact hK_5 H locs ls hG (lv_sub hl [] rfl)
      · replace hM := ifn hM c_12
        refine lv_aload_n hx hb dX0_copyCells_14 rfl (lv_at hl 4 rfl) ?_
        refine lv_iload hx hb dX0_copyCells_15 (lv_at hl 5 rfl) ?_
        refine lv_iload hx hb dX0_copyCells_17 (lv_at hl 0 rfl) ?_
        refine gi_add hx hb dX0_copyCells_19 ?_
        refine lv_aload_n hx hb dX0_copyCells_20 rfl (lv_at hl 2 rfl) ?_
        refine lv_iload_n hx hb dX0_copyCells_21 rfl (lv_at hl 3 rfl) ?_
        refine lv_iload hx hb dX0_copyCells_22 (lv_at hl 0 rfl) ?_
        refine gi_add hx hb dX0_copyCells_24 ?_
        obtain ⟨hg_13, hM⟩ := gd_some hM
        refine mj_ald S hG 43 43 rfl ec_43 (Nat.lt_of_lt_of_le (Nat.le_of_ble_eq_true rfl) hn) dX0_copyCells_25 hg_13 (by decide) ?_
        obtain ⟨hg_14, hM⟩ := gd_some hM
        refine mj_ast S hG 41 41 rfl ec_41 (Nat.lt_of_lt_of_le (Nat.le_of_ble_eq_true rfl) hn) dX0_copyCells_26 hg_14 (by decide) (fun H locs S_15 eS_15 hG => ?_)
        replace hM := nx_at hM eS_15
        clear eS_15
        refine lv_iinc (v := iI (v_1 + 1)) (lv' := [(6, .int (iI (v_1 + 1))), (0, .ref (b + 40)), (1, .ref (b + 43)), (2, .int (iI a2)), (3, .ref (b + 41)), (4, .int (iI a4)), (5, .int (iI a5))]) hx hb dX0_copyCells_27 hl (k := 0) rfl ((iI_add v_1 (1)).trans (congrArg iI (by omega))) (by decide) rfl (fun ls hl => ?_)
        refine lv_goto (tgt := 3) hx hb dX0_copyCells_30 (by decide) ?_
        exact ih_7 (v_1 + 1) S_15 H locs ls hM hG (lv_sub hl [0, 1, 2, 3, 4, 5, 6] rfl)
  exact loop_6 FU 0 S0 H locs ls hc_4 hG (lv_sub hl [0, 1, 2, 3, 4, 5, 6] rfl)
theorem wV_0_53 : gWV "GrownKinds$Census" 53 yX0_sumTerms cX0_sumTerms 9 none := ⟨wm_986, wm_988, wm_30, wm_181, wm_989, by decide +kernel, by decide +kernel⟩
theorem wV_0_72 : gWV "GrownKinds$Census" 72 yX2_isOff cX2_isOff 3 (some .boolean) := ⟨wm_994, wm_906, wm_907, wm_178, wm_908, by decide +kernel, by decide +kernel⟩
theorem wV_0_76 : gWV "GrownKinds$Census" 76 yX2_start cX2_start 3 (some .int) := ⟨wm_995, wm_910, wm_911, wm_178, wm_912, by decide +kernel, by decide +kernel⟩
def mX0_sumTerms_40_41_19 (S_2 : St) (v_1 : Int) (a1 : Int) (a2 : Int) (a4 : Int) : Nat → Int → Int → Option (Int)
  | 0, _, _ => none
  | f + 1, v_13, v_14 => gd (0 ≤ a1 ∧ a1 < 30) <| gd ((inI v_13) ∧ (inI (S_2 8 a1))) <| if (S_2 8 a1) ≤ v_13 then (some (v_14)) else (bd1 (mX2_isOff_2 S_2 a1 v_13) fun r_27 => gd (inI r_27) <| if r_27 = 0 then (bd1 (mX2_start_2 S_2 a1 v_13) fun r_31 => gd (0 ≤ (((r_31 * 64) + (a2 * 8)) + v_1) ∧ (((r_31 * 64) + (a2 * 8)) + v_1) < 1536) <| bd1 (mX11_plus v_14 (S_2 42 (((r_31 * 64) + (a2 * 8)) + v_1))) fun r_34 => mX0_sumTerms_40_41_19 S_2 v_1 a1 a2 a4 f (v_13 + 1) r_34) else (mX0_sumTerms_40_41_19 S_2 v_1 a1 a2 a4 f (v_13 + 1) v_14))
def mX0_sumTerms_40_41_3 (a1 : Int) (a2 : Int) (a4 : Int) : Nat → Int → St → Option (St)
  | 0, _, _ => none
  | f + 1, v_1, S_2 => bd1 (mX0_letterTop_40 S_2 a2) fun r_10 => gd ((inI v_1) ∧ (inI r_10)) <| if r_10 < v_1 then (some (S_2)) else (bd1 (mX0_sumTerms_40_41_19 S_2 v_1 a1 a2 a4 FU 0 0) fun y_15 => gd (0 ≤ (a4 + v_1) ∧ (a4 + v_1) < 1536) <| nx (up S_2 41 (a4 + v_1) y_15) fun S_19 => mX0_sumTerms_40_41_3 a1 a2 a4 f (v_1 + 1) S_19)
def mX0_sumTerms_40_41 (S0 : St) (a1 : Int) (a2 : Int) (a4 : Int) : Option (St) := bd1 (mX0_sumTerms_40_41_3 a1 a2 a4 FU 0 S0) fun S_3 => some (S_3)
set_option maxHeartbeats 4000000 in
set_option maxRecDepth 100000 in
theorem vX0_sumTerms_40_41 (l : Launch) {D : va_G} {cy : Nat → ClassId} {b n : Nat} (hn : 102 ≤ n) {X : Nat → va_E} {S0 : St} (a1 : Int) (a2 : Int) (a4 : Int) {o1 : St} (hM : mX0_sumTerms_40_41 S0 a1 a2 a4 = some o1) : gV l yX0_sumTerms cX0_sumTerms 9 1 0 0 D cy b n (enc b cy X S0) [.ref (b + 40), .int (iI a1), .int (iI a2), .ref (b + 41), .int (iI a4)] (fun u => u = (n, enc b cy X o1)) := by
  refine gV_of (by decide) (Nat.le_of_ble_eq_true rfl) ?_
  intro p e s m args below meth c S hr hlk hin hsz ls hl hG
  have hx := S.1
  have hb := S.2.1
  have hl : lv_has ls 9 [(0, .ref (b + 40)), (1, .int (iI a1)), (2, .int (iI a2)), (3, .ref (b + 41)), (4, .int (iI a4))] := hl
  replace hG : gW D cy b n s s.heap [] (enc b cy X S0) := hG
  obtain ⟨H, eH⟩ : ∃ H, H = s.heap := ⟨_, rfl⟩
  obtain ⟨locs, elocs⟩ : ∃ locs : List Loc, locs = [] := ⟨_, rfl⟩
  rw [← eH, ← elocs] at hG
  rw [← eH, ← elocs]
  clear eH elocs
  unfold mX0_sumTerms_40_41 at hM
  refine lv_iconst (v := iI 0) hx hb dX0_sumTerms_0 (by decide) ?_
  refine lv_istore (lv' := [(5, .int (iI 0)), (0, .ref (b + 40)), (1, .int (iI a1)), (2, .int (iI a2)), (3, .ref (b + 41)), (4, .int (iI a4))]) hx hb dX0_sumTerms_1 hl (by decide) rfl (fun ls hl => ?_)
  obtain ⟨S_3, hc_4, hM⟩ := bd1_some hM
  have hK_5 : ∀ (H : Heap) (locs : List Loc) (ls : Array Slot), gW D cy b n s H locs (enc b cy X S_3) → lv_has ls 9 [] → W p l e (gRm 1 0 0) s m args below meth c H locs 0 0 (gQV D cy b s args below 0 0 (fun u => u = (n, enc b cy X o1))) (F0 m 100 ls []) := by
    intro H locs ls hG hl
    cases hM
    exact g_vret S hr hlk hG hsz dX0_sumTerms_100 ⟨Nat.le_of_ble_eq_true rfl, Nat.le_of_ble_eq_true rfl⟩ rfl
  have loop_6 : ∀ (f : Nat) (v_1 : Int) (S_2 : St) (H : Heap) (locs : List Loc) (ls : Array Slot), mX0_sumTerms_40_41_3 a1 a2 a4 f v_1 S_2 = some S_3 → gW D cy b n s H locs (enc b cy X S_2) → lv_has ls 9 [(5, .int (iI v_1)), (0, .ref (b + 40)), (1, .int (iI a1)), (2, .int (iI a2)), (3, .ref (b + 41)), (4, .int (iI a4))] → W p l e (gRm 1 0 0) s m args below meth c H locs 0 0 (gQV D cy b s args below 0 0 (fun u => u = (n, enc b cy X o1))) (F0 m 3 ls []) := by
    clear hM
    intro f
    induction f with
    | zero => intro v_1 S_2 H locs ls hM; rw [mX0_sumTerms_40_41_3] at hM; cases hM
    | succ f_8 ih_7 =>
      intro v_1 S_2 H locs ls hM hG hl
      rw [mX0_sumTerms_40_41_3] at hM
      refine lv_iload hx hb dX0_sumTerms_3 (lv_at hl 0 rfl) ?_
      refine lv_aload_n hx hb dX0_sumTerms_5 rfl (lv_at hl 1 rfl) ?_
      refine lv_iload_n hx hb dX0_sumTerms_6 rfl (lv_at hl 3 rfl) ?_
      obtain ⟨r_10, hc_9, hM⟩ := bd1_some hM
      refine g_vi (As := [.int (iI a2)]) (rest := [.int (iI v_1)]) S hG hsz (vX0_letterTop_40 l hn a2 hc_9) wV_0_108 (ec_40 _) cpX0 (Nat.lt_of_lt_of_le (Nat.le_of_ble_eq_true rfl) hn) dX0_sumTerms_7 rfl hl.1 (ar := 1) (by decide +kernel) rfl ⟨Nat.le_of_ble_eq_true rfl, Nat.le_of_ble_eq_true rfl, Nat.le_of_ble_eq_true rfl, Nat.le_of_ble_eq_true rfl⟩ (Nat.le_of_ble_eq_true rfl) (fun rv uu H locs hp hG => ?_)
      obtain ⟨rfl, rfl⟩ := hp
      replace hG : gW D cy b n s H locs (enc b cy X S_2) := hG
      obtain ⟨hg_11, hM⟩ := gd_some hM
      refine gi_icmp_gt (tgt := 100) hx hb dX0_sumTerms_10 (by decide) hg_11.1 hg_11.2 (fun c_12 => ?_) (fun c_12 => ?_)
      · replace hM := ifp hM c_12
        cases hM
        exact hK_5 H locs ls hG (lv_sub hl [] rfl)
      · replace hM := ifn hM c_12
        refine lv_lconst (v := jJ 0) hx hb dX0_sumTerms_13 (by decide) ?_
        refine lv_lstore (lv' := [(6, .long (jJ 0)), (5, .int (iI v_1)), (0, .ref (b + 40)), (1, .int (iI a1)), (2, .int (iI a2)), (3, .ref (b + 41)), (4, .int (iI a4))]) hx hb dX0_sumTerms_14 hl (by decide) rfl (fun ls hl => ?_)
        refine lv_iconst (v := iI 0) hx hb dX0_sumTerms_16 (by decide) ?_
        refine lv_istore (lv' := [(8, .int (iI 0)), (6, .long (jJ 0)), (5, .int (iI v_1)), (0, .ref (b + 40)), (1, .int (iI a1)), (2, .int (iI a2)), (3, .ref (b + 41)), (4, .int (iI a4))]) hx hb dX0_sumTerms_17 hl (by decide) rfl (fun ls hl => ?_)
        obtain ⟨y_15, hc_16, hM⟩ := bd1_some hM
        have hK_17 : ∀ (H : Heap) (locs : List Loc) (ls : Array Slot), gW D cy b n s H locs (enc b cy X S_2) → lv_has ls 9 [(5, .int (iI v_1)), (0, .ref (b + 40)), (1, .int (iI a1)), (2, .int (iI a2)), (3, .ref (b + 41)), (4, .int (iI a4)), (6, .long (jJ y_15))] → W p l e (gRm 1 0 0) s m args below meth c H locs 0 0 (gQV D cy b s args below 0 0 (fun u => u = (n, enc b cy X o1))) (F0 m 85 ls []) := by
          intro H locs ls hG hl
          refine lv_aload_n hx hb dX0_sumTerms_85 rfl (lv_at hl 4 rfl) ?_
          refine lv_iload hx hb dX0_sumTerms_86 (lv_at hl 5 rfl) ?_
          refine lv_iload hx hb dX0_sumTerms_88 (lv_at hl 0 rfl) ?_
          refine gi_add hx hb dX0_sumTerms_90 ?_
          refine lv_lload hx hb dX0_sumTerms_91 (lv_at hl 6 rfl) ?_
          obtain ⟨hg_18, hM⟩ := gd_some hM
          refine mj_ast S hG 41 41 rfl ec_41 (Nat.lt_of_lt_of_le (Nat.le_of_ble_eq_true rfl) hn) dX0_sumTerms_93 hg_18 (by decide) (fun H locs S_19 eS_19 hG => ?_)
          replace hM := nx_at hM eS_19
          clear eS_19
          refine lv_iinc (v := iI (v_1 + 1)) (lv' := [(5, .int (iI (v_1 + 1))), (0, .ref (b + 40)), (1, .int (iI a1)), (2, .int (iI a2)), (3, .ref (b + 41)), (4, .int (iI a4)), (6, .long (jJ y_15))]) hx hb dX0_sumTerms_94 hl (k := 0) rfl ((iI_add v_1 (1)).trans (congrArg iI (by omega))) (by decide) rfl (fun ls hl => ?_)
          refine lv_goto (tgt := 3) hx hb dX0_sumTerms_97 (by decide) ?_
          exact ih_7 (v_1 + 1) S_19 H locs ls hM hG (lv_sub hl [0, 1, 2, 3, 4, 5] rfl)
        have loop_20 : ∀ (f : Nat) (v_13 : Int) (v_14 : Int) (H : Heap) (locs : List Loc) (ls : Array Slot), mX0_sumTerms_40_41_19 S_2 v_1 a1 a2 a4 f v_13 v_14 = some y_15 → gW D cy b n s H locs (enc b cy X S_2) → lv_has ls 9 [(8, .int (iI v_13)), (6, .long (jJ v_14)), (5, .int (iI v_1)), (0, .ref (b + 40)), (1, .int (iI a1)), (2, .int (iI a2)), (3, .ref (b + 41)), (4, .int (iI a4))] → W p l e (gRm 1 0 0) s m args below meth c H locs 0 0 (gQV D cy b s args below 0 0 (fun u => u = (n, enc b cy X o1))) (F0 m 19 ls []) := by
          clear hM
          intro f
          induction f with
          | zero => intro v_13 v_14 H locs ls hM; rw [mX0_sumTerms_40_41_19] at hM; cases hM
          | succ f_22 ih_21 =>
            intro v_13 v_14 H locs ls hM hG hl
            rw [mX0_sumTerms_40_41_19] at hM
            refine lv_iload hx hb dX0_sumTerms_19 (lv_at hl 0 rfl) ?_
            refine lv_aload_n hx hb dX0_sumTerms_21 rfl (lv_at hl 3 rfl) ?_
            refine m_get S hG 40 40 0 rfl ec_40 cpX0 wm_403 dX0_sumTerms_22 rfl (Nat.lt_of_lt_of_le (Nat.le_of_ble_eq_true rfl) hn) (by decide) ?_
            refine m_get S hG 2 2 10 rfl ec_2 cpX2 wm_267 dX0_sumTerms_25 rfl (Nat.lt_of_lt_of_le (Nat.le_of_ble_eq_true rfl) hn) (by decide) ?_
            refine lv_iload_n hx hb dX0_sumTerms_28 rfl (lv_at hl 4 rfl) ?_
            obtain ⟨hg_23, hM⟩ := gd_some hM
            refine mi_ald S hG 8 8 rfl ec_8 (Nat.lt_of_lt_of_le (Nat.le_of_ble_eq_true rfl) hn) dX0_sumTerms_29 hg_23 (by decide) ?_
            obtain ⟨hg_24, hM⟩ := gd_some hM
            refine gi_icmp_ge (tgt := 85) hx hb dX0_sumTerms_30 (by decide) hg_24.1 hg_24.2 (fun c_25 => ?_) (fun c_25 => ?_)
            · replace hM := ifp hM c_25
              cases hM
              exact hK_17 H locs ls hG (lv_sub hl [2, 3, 4, 5, 6, 7, 1] rfl)
            · replace hM := ifn hM c_25
              refine lv_aload_n hx hb dX0_sumTerms_33 rfl (lv_at hl 3 rfl) ?_
              refine m_get S hG 40 40 0 rfl ec_40 cpX0 wm_403 dX0_sumTerms_34 rfl (Nat.lt_of_lt_of_le (Nat.le_of_ble_eq_true rfl) hn) (by decide) ?_
              refine lv_iload_n hx hb dX0_sumTerms_37 rfl (lv_at hl 4 rfl) ?_
              refine lv_iload hx hb dX0_sumTerms_38 (lv_at hl 0 rfl) ?_
              obtain ⟨r_27, hc_26, hM⟩ := bd1_some hM
              refine g_vi (As := [.int (iI a1), .int (iI v_13)]) (rest := []) S hG hsz (vX2_isOff_2 l hn a1 v_13 hc_26) wV_0_72 (ec_2 _) cpX2 (Nat.lt_of_lt_of_le (Nat.le_of_ble_eq_true rfl) hn) dX0_sumTerms_40 rfl hl.1 (ar := 2) (by decide +kernel) rfl ⟨Nat.le_of_ble_eq_true rfl, Nat.le_of_ble_eq_true rfl, Nat.le_of_ble_eq_true rfl, Nat.le_of_ble_eq_true rfl⟩ (Nat.le_of_ble_eq_true rfl) (fun rv uu H locs hp hG => ?_)
              obtain ⟨rfl, rfl⟩ := hp
              replace hG : gW D cy b n s H locs (enc b cy X S_2) := hG
              obtain ⟨hg_28, hM⟩ := gd_some hM
              refine gi_if_ne (tgt := 79) hx hb dX0_sumTerms_43 (by decide) hg_28 (fun c_29 => ?_) (fun c_29 => ?_)
              · replace hM := ifn hM c_29
                refine lv_iinc (v := iI (v_13 + 1)) (lv' := [(8, .int (iI (v_13 + 1))), (6, .long (jJ v_14)), (5, .int (iI v_1)), (0, .ref (b + 40)), (1, .int (iI a1)), (2, .int (iI a2)), (3, .ref (b + 41)), (4, .int (iI a4))]) hx hb dX0_sumTerms_79 hl (k := 0) rfl ((iI_add v_13 (1)).trans (congrArg iI (by omega))) (by decide) rfl (fun ls hl => ?_)
                refine lv_goto (tgt := 19) hx hb dX0_sumTerms_82 (by decide) ?_
                exact ih_21 (v_13 + 1) v_14 H locs ls hM hG (lv_sub hl [0, 1, 2, 3, 4, 5, 6, 7] rfl)
              · replace hM := ifp hM c_29
                refine lv_lload hx hb dX0_sumTerms_46 (lv_at hl 1 rfl) ?_
                refine lv_aload_n hx hb dX0_sumTerms_48 rfl (lv_at hl 3 rfl) ?_
                refine m_get S hG 40 40 3 rfl ec_40 cpX0 wm_406 dX0_sumTerms_49 rfl (Nat.lt_of_lt_of_le (Nat.le_of_ble_eq_true rfl) hn) (by decide) ?_
                refine lv_aload_n hx hb dX0_sumTerms_52 rfl (lv_at hl 3 rfl) ?_
                refine m_get S hG 40 40 0 rfl ec_40 cpX0 wm_403 dX0_sumTerms_53 rfl (Nat.lt_of_lt_of_le (Nat.le_of_ble_eq_true rfl) hn) (by decide) ?_
                refine lv_iload_n hx hb dX0_sumTerms_56 rfl (lv_at hl 4 rfl) ?_
                refine lv_iload hx hb dX0_sumTerms_57 (lv_at hl 0 rfl) ?_
                obtain ⟨r_31, hc_30, hM⟩ := bd1_some hM
                refine g_vi (As := [.int (iI a1), .int (iI v_13)]) (rest := [.ref (b + 42), .long (jJ v_14)]) S hG hsz (vX2_start_2 l hn a1 v_13 hc_30) wV_0_76 (ec_2 _) cpX2 (Nat.lt_of_lt_of_le (Nat.le_of_ble_eq_true rfl) hn) dX0_sumTerms_59 rfl hl.1 (ar := 2) (by decide +kernel) rfl ⟨Nat.le_of_ble_eq_true rfl, Nat.le_of_ble_eq_true rfl, Nat.le_of_ble_eq_true rfl, Nat.le_of_ble_eq_true rfl⟩ (Nat.le_of_ble_eq_true rfl) (fun rv uu H locs hp hG => ?_)
                obtain ⟨rfl, rfl⟩ := hp
                replace hG : gW D cy b n s H locs (enc b cy X S_2) := hG
                refine lv_bipush (v := iI 64) hx hb dX0_sumTerms_62 (by decide) ?_
                refine gi_mul hx hb dX0_sumTerms_64 ?_
                refine lv_iload_n hx hb dX0_sumTerms_65 rfl (lv_at hl 5 rfl) ?_
                refine lv_bipush (v := iI 8) hx hb dX0_sumTerms_66 (by decide) ?_
                refine gi_mul hx hb dX0_sumTerms_68 ?_
                refine gi_add hx hb dX0_sumTerms_69 ?_
                refine lv_iload hx hb dX0_sumTerms_70 (lv_at hl 2 rfl) ?_
                refine gi_add hx hb dX0_sumTerms_72 ?_
                obtain ⟨hg_32, hM⟩ := gd_some hM
                refine mj_ald S hG 42 42 rfl ec_42 (Nat.lt_of_lt_of_le (Nat.le_of_ble_eq_true rfl) hn) dX0_sumTerms_73 hg_32 (by decide) ?_
                obtain ⟨r_34, hc_33, hM⟩ := bd1_some hM
                refine g_slN (As := [.long (jJ v_14), .long (jJ (S_2 42 (((r_31 * 64) + (a2 * 8)) + v_1)))]) (rest := []) S hG hsz (vX11_plus l hn v_14 (S_2 42 (((r_31 * 64) + (a2 * 8)) + v_1)) hc_33) (y := yX11_plus) (host := "GrownKinds") (by decide +kernel) ⟨wm_997, wm_177, wm_998, by decide +kernel, by decide +kernel⟩ dX0_sumTerms_74 rfl hl.1 (ar := 2) (by decide +kernel) rfl ⟨Nat.le_of_ble_eq_true rfl, Nat.le_of_ble_eq_true rfl, Nat.le_of_ble_eq_true rfl, Nat.le_of_ble_eq_true rfl⟩ (Nat.le_of_ble_eq_true rfl) (fun rv uu H locs hp hG => ?_)
                obtain ⟨rfl, rfl⟩ := hp
                replace hG : gW D cy b n s H locs (enc b cy X S_2) := hG
                refine lv_lstore (lv' := [(6, .long (jJ r_34)), (8, .int (iI v_13)), (5, .int (iI v_1)), (0, .ref (b + 40)), (1, .int (iI a1)), (2, .int (iI a2)), (3, .ref (b + 41)), (4, .int (iI a4))]) hx hb dX0_sumTerms_77 hl (by decide) rfl (fun ls hl => ?_)
                refine lv_iinc (v := iI (v_13 + 1)) (lv' := [(8, .int (iI (v_13 + 1))), (6, .long (jJ r_34)), (5, .int (iI v_1)), (0, .ref (b + 40)), (1, .int (iI a1)), (2, .int (iI a2)), (3, .ref (b + 41)), (4, .int (iI a4))]) hx hb dX0_sumTerms_79 hl (k := 1) rfl ((iI_add v_13 (1)).trans (congrArg iI (by omega))) (by decide) rfl (fun ls hl => ?_)
                refine lv_goto (tgt := 19) hx hb dX0_sumTerms_82 (by decide) ?_
                exact ih_21 (v_13 + 1) r_34 H locs ls hM hG (lv_sub hl [0, 1, 2, 3, 4, 5, 6, 7] rfl)
        exact loop_20 FU 0 0 H locs ls hc_16 hG (lv_sub hl [0, 1, 2, 3, 4, 5, 6, 7] rfl)
  exact loop_6 FU 0 S0 H locs ls hc_4 hG (lv_sub hl [0, 1, 2, 3, 4, 5] rfl)
def mX0_countPart_40 (S0 : St) (a1 : Int) (a2 : Int) : Option (St) := nx ((a1 * 64) + (a2 * 8)) fun x_1 => gd (0 ≤ a1 ∧ a1 < 24) <| nx (S0 3 a1) fun x_3 => gd (inI x_3) <| if x_3 = 7 then (bd1 (mX0_sumTerms_40_41 S0 (6 + a1) a2 x_1) fun S_32 => some (S_32)) else (if x_3 = 2 then (bd1 (mX0_copyCells_40_43_41 S0 (((S0 4 a1) * 64) + (a2 * 8)) x_1 a2) fun S_30 => some (S_30)) else (bd1 (mX2_isSequence_2 S0 a1) fun r_8 => gd (inI r_8) <| if r_8 = 0 then (bd1 (mX0_clearCells_40_41 S0 x_1 a2) fun S_12 => bd1 (if x_3 = 0 then (gd ((inI (S_12 40 1)) ∧ (inI (S_12 4 a1))) <| if (S_12 40 1) = (S_12 4 a1) then (some (1)) else (some (0))) else (some (0))) fun z_13 => bd1 (if x_3 = 0 then (some (1)) else (some (0))) fun z_16 => gd ((inI a2) ∧ (inI z_16)) <| if a2 = z_16 then (gd (0 ≤ (x_1 + z_13) ∧ (x_1 + z_13) < 1536) <| nx (up S_12 41 (x_1 + z_13) 1) fun S_22 => some (S_22)) else (some (S_12))) else (bd1 (mX0_countSequence_40 S0 a1 a2) fun S_28 => some (S_28))))
set_option maxHeartbeats 4000000 in
set_option maxRecDepth 100000 in
theorem vX0_countPart_40 (l : Launch) {D : va_G} {cy : Nat → ClassId} {b n : Nat} (hn : 102 ≤ n) {X : Nat → va_E} {S0 : St} (a1 : Int) (a2 : Int) {o1 : St} (hM : mX0_countPart_40 S0 a1 a2 = some o1) : gV l yX0_countPart cX0_countPart 6 4 0 0 D cy b n (enc b cy X S0) [.ref (b + 40), .int (iI a1), .int (iI a2)] (fun u => u = (n, enc b cy X o1)) := by
  refine gV_of (by decide) (Nat.le_of_ble_eq_true rfl) ?_
  intro p e s m args below meth c S hr hlk hin hsz ls hl hG
  have hx := S.1
  have hb := S.2.1
  have hl : lv_has ls 6 [(0, .ref (b + 40)), (1, .int (iI a1)), (2, .int (iI a2))] := hl
  replace hG : gW D cy b n s s.heap [] (enc b cy X S0) := hG
  obtain ⟨H, eH⟩ : ∃ H, H = s.heap := ⟨_, rfl⟩
  obtain ⟨locs, elocs⟩ : ∃ locs : List Loc, locs = [] := ⟨_, rfl⟩
  rw [← eH, ← elocs] at hG
  rw [← eH, ← elocs]
  clear eH elocs
  unfold mX0_countPart_40 at hM
  refine lv_iload_n hx hb dX0_countPart_0 rfl (lv_at hl 1 rfl) ?_
  refine lv_bipush (v := iI 64) hx hb dX0_countPart_1 (by decide) ?_
  refine gi_mul hx hb dX0_countPart_3 ?_
  refine lv_iload_n hx hb dX0_countPart_4 rfl (lv_at hl 2 rfl) ?_
  refine lv_bipush (v := iI 8) hx hb dX0_countPart_5 (by decide) ?_
  refine gi_mul hx hb dX0_countPart_7 ?_
  refine gi_add hx hb dX0_countPart_8 ?_
  refine gi_nm (fun x_1 ex_1 => ?_)
  replace hM := nx_at hM ex_1
  clear ex_1
  refine lv_istore_n (lv' := [(3, .int (iI x_1)), (0, .ref (b + 40)), (1, .int (iI a1)), (2, .int (iI a2))]) hx hb dX0_countPart_9 rfl hl (by decide) rfl (fun ls hl => ?_)
  refine lv_aload_n hx hb dX0_countPart_10 rfl (lv_at hl 1 rfl) ?_
  refine m_get S hG 40 40 0 rfl ec_40 cpX0 wm_403 dX0_countPart_11 rfl (Nat.lt_of_lt_of_le (Nat.le_of_ble_eq_true rfl) hn) (by decide) ?_
  refine m_get S hG 2 2 5 rfl ec_2 cpX2 wm_239 dX0_countPart_14 rfl (Nat.lt_of_lt_of_le (Nat.le_of_ble_eq_true rfl) hn) (by decide) ?_
  refine lv_iload_n hx hb dX0_countPart_17 rfl (lv_at hl 2 rfl) ?_
  obtain ⟨hg_2, hM⟩ := gd_some hM
  refine mi_ald S hG 3 3 rfl ec_3 (Nat.lt_of_lt_of_le (Nat.le_of_ble_eq_true rfl) hn) dX0_countPart_18 hg_2 (by decide) ?_
  refine gi_nm (fun x_3 ex_3 => ?_)
  replace hM := nx_at hM ex_3
  clear ex_3
  refine lv_istore (lv' := [(4, .int (iI x_3)), (3, .int (iI x_1)), (0, .ref (b + 40)), (1, .int (iI a1)), (2, .int (iI a2))]) hx hb dX0_countPart_19 hl (by decide) rfl (fun ls hl => ?_)
  refine lv_iload hx hb dX0_countPart_21 (lv_at hl 0 rfl) ?_
  refine lv_bipush (v := iI 7) hx hb dX0_countPart_23 (by decide) ?_
  obtain ⟨hg_4, hM⟩ := gd_some hM
  refine gi_icmp_ne (tgt := 45) hx hb dX0_countPart_25 (by decide) hg_4 (by decide) (fun c_5 => ?_) (fun c_5 => ?_)
  · replace hM := ifn hM c_5
    refine lv_iload hx hb dX0_countPart_45 (lv_at hl 0 rfl) ?_
    refine lv_iconst (v := iI 2) hx hb dX0_countPart_47 (by decide) ?_
    refine gi_icmp_ne (tgt := 85) hx hb dX0_countPart_48 (by decide) hg_4 (by decide) (fun c_6 => ?_) (fun c_6 => ?_)
    · replace hM := ifn hM c_6
      refine lv_aload_n hx hb dX0_countPart_85 rfl (lv_at hl 2 rfl) ?_
      refine m_get S hG 40 40 0 rfl ec_40 cpX0 wm_403 dX0_countPart_86 rfl (Nat.lt_of_lt_of_le (Nat.le_of_ble_eq_true rfl) hn) (by decide) ?_
      refine lv_iload_n hx hb dX0_countPart_89 rfl (lv_at hl 3 rfl) ?_
      obtain ⟨r_8, hc_7, hM⟩ := bd1_some hM
      refine g_vi (As := [.int (iI a1)]) (rest := []) S hG hsz (vX2_isSequence_2 l hn a1 hc_7) wV_0_122 (ec_2 _) cpX2 (Nat.lt_of_lt_of_le (Nat.le_of_ble_eq_true rfl) hn) dX0_countPart_90 rfl hl.1 (ar := 1) (by decide +kernel) rfl ⟨Nat.le_of_ble_eq_true rfl, Nat.le_of_ble_eq_true rfl, Nat.le_of_ble_eq_true rfl, Nat.le_of_ble_eq_true rfl⟩ (Nat.le_of_ble_eq_true rfl) (fun rv uu H locs hp hG => ?_)
      obtain ⟨rfl, rfl⟩ := hp
      replace hG : gW D cy b n s H locs (enc b cy X S0) := hG
      obtain ⟨hg_9, hM⟩ := gd_some hM
      refine gi_if_eq (tgt := 105) hx hb dX0_countPart_93 (by decide) hg_9 (fun c_10 => ?_) (fun c_10 => ?_)
      · replace hM := ifp hM c_10
        refine lv_aload_n hx hb dX0_countPart_105 rfl (lv_at hl 2 rfl) ?_
        refine lv_aload_n hx hb dX0_countPart_106 rfl (lv_at hl 2 rfl) ?_
        refine m_get S hG 40 40 2 rfl ec_40 cpX0 wm_405 dX0_countPart_107 rfl (Nat.lt_of_lt_of_le (Nat.le_of_ble_eq_true rfl) hn) (by decide) ?_
        refine lv_iload_n hx hb dX0_countPart_110 rfl (lv_at hl 1 rfl) ?_
        refine lv_iload_n hx hb dX0_countPart_111 rfl (lv_at hl 4 rfl) ?_
        obtain ⟨S_12, hc_11, hM⟩ := bd1_some hM
        refine g_vv (As := [.ref (b + 41), .int (iI x_1), .int (iI a2)]) (rest := []) S hG hsz (vX0_clearCells_40_41 l hn x_1 a2 hc_11) wV_0_129 (ec_40 _) cpX0 (Nat.lt_of_lt_of_le (Nat.le_of_ble_eq_true rfl) hn) dX0_countPart_112 rfl hl.1 (ar := 3) (by decide +kernel) rfl ⟨Nat.le_of_ble_eq_true rfl, Nat.le_of_ble_eq_true rfl, Nat.le_of_ble_eq_true rfl, Nat.le_of_ble_eq_true rfl⟩ (Nat.le_of_ble_eq_true rfl) (fun uu H locs hp hG => ?_)
        obtain rfl := hp
        replace hG : gW D cy b n s H locs (enc b cy X S_12) := hG
        refine lv_iload hx hb dX0_countPart_115 (lv_at hl 0 rfl) ?_
        obtain ⟨z_13, hc_14, hM⟩ := bd1_some hM
        have hK_15 : ∀ (H : Heap) (locs : List Loc) (ls : Array Slot), gW D cy b n s H locs (enc b cy X S_12) → lv_has ls 6 [(4, .int (iI x_3)), (3, .int (iI x_1)), (0, .ref (b + 40)), (2, .int (iI a2))] → W p l e (gRm 4 0 0) s m args below meth c H locs 0 0 (gQV D cy b s args below 0 0 (fun u => u = (n, enc b cy X o1))) (F0 m 141 ls [.int (iI z_13)]) := by
          intro H locs ls hG hl
          refine lv_istore (lv' := [(5, .int (iI z_13)), (4, .int (iI x_3)), (3, .int (iI x_1)), (0, .ref (b + 40)), (2, .int (iI a2))]) hx hb dX0_countPart_141 hl (by decide) rfl (fun ls hl => ?_)
          refine lv_iload_n hx hb dX0_countPart_143 rfl (lv_at hl 4 rfl) ?_
          refine lv_iload hx hb dX0_countPart_144 (lv_at hl 1 rfl) ?_
          obtain ⟨z_16, hc_17, hM⟩ := bd1_some hM
          have hK_18 : ∀ (H : Heap) (locs : List Loc) (ls : Array Slot), gW D cy b n s H locs (enc b cy X S_12) → lv_has ls 6 [(5, .int (iI z_13)), (3, .int (iI x_1)), (0, .ref (b + 40))] → W p l e (gRm 4 0 0) s m args below meth c H locs 0 0 (gQV D cy b s args below 0 0 (fun u => u = (n, enc b cy X o1))) (F0 m 154 ls [.int (iI z_16), .int (iI a2)]) := by
            intro H locs ls hG hl
            obtain ⟨hg_19, hM⟩ := gd_some hM
            refine gi_icmp_ne (tgt := 167) hx hb dX0_countPart_154 (by decide) hg_19.1 hg_19.2 (fun c_20 => ?_) (fun c_20 => ?_)
            · replace hM := ifn hM c_20
              cases hM
              exact g_vret S hr hlk hG hsz dX0_countPart_167 ⟨Nat.le_of_ble_eq_true rfl, Nat.le_of_ble_eq_true rfl⟩ rfl
            · replace hM := ifp hM c_20
              refine lv_aload_n hx hb dX0_countPart_157 rfl (lv_at hl 2 rfl) ?_
              refine m_get S hG 40 40 2 rfl ec_40 cpX0 wm_405 dX0_countPart_158 rfl (Nat.lt_of_lt_of_le (Nat.le_of_ble_eq_true rfl) hn) (by decide) ?_
              refine lv_iload_n hx hb dX0_countPart_161 rfl (lv_at hl 1 rfl) ?_
              refine lv_iload hx hb dX0_countPart_162 (lv_at hl 0 rfl) ?_
              refine gi_add hx hb dX0_countPart_164 ?_
              refine lv_lconst (v := jJ 1) hx hb dX0_countPart_165 (by decide) ?_
              obtain ⟨hg_21, hM⟩ := gd_some hM
              refine mj_ast S hG 41 41 rfl ec_41 (Nat.lt_of_lt_of_le (Nat.le_of_ble_eq_true rfl) hn) dX0_countPart_166 hg_21 (by decide) (fun H locs S_22 eS_22 hG => ?_)
              replace hM := nx_at hM eS_22
              clear eS_22
              cases hM
              exact g_vret S hr hlk hG hsz dX0_countPart_167 ⟨Nat.le_of_ble_eq_true rfl, Nat.le_of_ble_eq_true rfl⟩ rfl
          clear hM
          replace hM := hc_17
          refine gi_if_ne (tgt := 153) hx hb dX0_countPart_146 (by decide) hg_4 (fun c_23 => ?_) (fun c_23 => ?_)
          · replace hM := ifn hM c_23
            refine lv_iconst (v := iI 0) hx hb dX0_countPart_153 (by decide) ?_
            cases hM
            exact hK_18 H locs ls hG (lv_sub hl [0, 2, 3] rfl)
          · replace hM := ifp hM c_23
            refine lv_iconst (v := iI 1) hx hb dX0_countPart_149 (by decide) ?_
            refine lv_goto (tgt := 154) hx hb dX0_countPart_150 (by decide) ?_
            cases hM
            exact hK_18 H locs ls hG (lv_sub hl [0, 2, 3] rfl)
        clear hM
        replace hM := hc_14
        refine gi_if_ne (tgt := 140) hx hb dX0_countPart_117 (by decide) hg_4 (fun c_24 => ?_) (fun c_24 => ?_)
        · replace hM := ifn hM c_24
          refine lv_iconst (v := iI 0) hx hb dX0_countPart_140 (by decide) ?_
          cases hM
          exact hK_15 H locs ls hG (lv_sub hl [0, 1, 2, 4] rfl)
        · replace hM := ifp hM c_24
          refine lv_aload_n hx hb dX0_countPart_120 rfl (lv_at hl 2 rfl) ?_
          refine m_get S hG 40 40 1 rfl ec_40 cpX0 wm_404 dX0_countPart_121 rfl (Nat.lt_of_lt_of_le (Nat.le_of_ble_eq_true rfl) hn) (by decide) ?_
          refine lv_aload_n hx hb dX0_countPart_124 rfl (lv_at hl 2 rfl) ?_
          refine m_get S hG 40 40 0 rfl ec_40 cpX0 wm_403 dX0_countPart_125 rfl (Nat.lt_of_lt_of_le (Nat.le_of_ble_eq_true rfl) hn) (by decide) ?_
          refine m_get S hG 2 2 6 rfl ec_2 cpX2 wm_245 dX0_countPart_128 rfl (Nat.lt_of_lt_of_le (Nat.le_of_ble_eq_true rfl) hn) (by decide) ?_
          refine lv_iload_n hx hb dX0_countPart_131 rfl (lv_at hl 3 rfl) ?_
          refine mi_ald S hG 4 4 rfl ec_4 (Nat.lt_of_lt_of_le (Nat.le_of_ble_eq_true rfl) hn) dX0_countPart_132 hg_2 (by decide) ?_
          obtain ⟨hg_25, hM⟩ := gd_some hM
          refine gi_icmp_ne (tgt := 140) hx hb dX0_countPart_133 (by decide) hg_25.1 hg_25.2 (fun c_26 => ?_) (fun c_26 => ?_)
          · replace hM := ifn hM c_26
            refine lv_iconst (v := iI 0) hx hb dX0_countPart_140 (by decide) ?_
            cases hM
            exact hK_15 H locs ls hG (lv_sub hl [0, 1, 2, 4] rfl)
          · replace hM := ifp hM c_26
            refine lv_iconst (v := iI 1) hx hb dX0_countPart_136 (by decide) ?_
            refine lv_goto (tgt := 141) hx hb dX0_countPart_137 (by decide) ?_
            cases hM
            exact hK_15 H locs ls hG (lv_sub hl [0, 1, 2, 4] rfl)
      · replace hM := ifn hM c_10
        refine lv_aload_n hx hb dX0_countPart_96 rfl (lv_at hl 2 rfl) ?_
        refine lv_iload_n hx hb dX0_countPart_97 rfl (lv_at hl 3 rfl) ?_
        refine lv_iload_n hx hb dX0_countPart_98 rfl (lv_at hl 4 rfl) ?_
        obtain ⟨S_28, hc_27, hM⟩ := bd1_some hM
        refine g_vv (As := [.int (iI a1), .int (iI a2)]) (rest := []) S hG hsz (vX0_countSequence_40 l hn a1 a2 hc_27) wV_0_126 (ec_40 _) cpX0 (Nat.lt_of_lt_of_le (Nat.le_of_ble_eq_true rfl) hn) dX0_countPart_99 rfl hl.1 (ar := 2) (by decide +kernel) rfl ⟨Nat.le_of_ble_eq_true rfl, Nat.le_of_ble_eq_true rfl, Nat.le_of_ble_eq_true rfl, Nat.le_of_ble_eq_true rfl⟩ (Nat.le_of_ble_eq_true rfl) (fun uu H locs hp hG => ?_)
        obtain rfl := hp
        replace hG : gW D cy b n s H locs (enc b cy X S_28) := hG
        refine lv_goto (tgt := 167) hx hb dX0_countPart_102 (by decide) ?_
        cases hM
        exact g_vret S hr hlk hG hsz dX0_countPart_167 ⟨Nat.le_of_ble_eq_true rfl, Nat.le_of_ble_eq_true rfl⟩ rfl
    · replace hM := ifp hM c_6
      refine lv_aload_n hx hb dX0_countPart_51 rfl (lv_at hl 2 rfl) ?_
      refine lv_aload_n hx hb dX0_countPart_52 rfl (lv_at hl 2 rfl) ?_
      refine m_get S hG 40 40 4 rfl ec_40 cpX0 wm_407 dX0_countPart_53 rfl (Nat.lt_of_lt_of_le (Nat.le_of_ble_eq_true rfl) hn) (by decide) ?_
      refine lv_aload_n hx hb dX0_countPart_56 rfl (lv_at hl 2 rfl) ?_
      refine m_get S hG 40 40 0 rfl ec_40 cpX0 wm_403 dX0_countPart_57 rfl (Nat.lt_of_lt_of_le (Nat.le_of_ble_eq_true rfl) hn) (by decide) ?_
      refine m_get S hG 2 2 6 rfl ec_2 cpX2 wm_245 dX0_countPart_60 rfl (Nat.lt_of_lt_of_le (Nat.le_of_ble_eq_true rfl) hn) (by decide) ?_
      refine lv_iload_n hx hb dX0_countPart_63 rfl (lv_at hl 3 rfl) ?_
      refine mi_ald S hG 4 4 rfl ec_4 (Nat.lt_of_lt_of_le (Nat.le_of_ble_eq_true rfl) hn) dX0_countPart_64 hg_2 (by decide) ?_
      refine lv_bipush (v := iI 64) hx hb dX0_countPart_65 (by decide) ?_
      refine gi_mul hx hb dX0_countPart_67 ?_
      refine lv_iload_n hx hb dX0_countPart_68 rfl (lv_at hl 4 rfl) ?_
      refine lv_bipush (v := iI 8) hx hb dX0_countPart_69 (by decide) ?_
      refine gi_mul hx hb dX0_countPart_71 ?_
      refine gi_add hx hb dX0_countPart_72 ?_
      refine lv_aload_n hx hb dX0_countPart_73 rfl (lv_at hl 2 rfl) ?_
      refine m_get S hG 40 40 2 rfl ec_40 cpX0 wm_405 dX0_countPart_74 rfl (Nat.lt_of_lt_of_le (Nat.le_of_ble_eq_true rfl) hn) (by decide) ?_
      refine lv_iload_n hx hb dX0_countPart_77 rfl (lv_at hl 1 rfl) ?_
      refine lv_iload_n hx hb dX0_countPart_78 rfl (lv_at hl 4 rfl) ?_
      obtain ⟨S_30, hc_29, hM⟩ := bd1_some hM
      refine g_vv (As := [.ref (b + 43), .int (iI (((S0 4 a1) * 64) + (a2 * 8))), .ref (b + 41), .int (iI x_1), .int (iI a2)]) (rest := []) S hG hsz (vX0_copyCells_40_43_41 l hn (((S0 4 a1) * 64) + (a2 * 8)) x_1 a2 hc_29) wV_0_118 (ec_40 _) cpX0 (Nat.lt_of_lt_of_le (Nat.le_of_ble_eq_true rfl) hn) dX0_countPart_79 rfl hl.1 (ar := 5) (by decide +kernel) rfl ⟨Nat.le_of_ble_eq_true rfl, Nat.le_of_ble_eq_true rfl, Nat.le_of_ble_eq_true rfl, Nat.le_of_ble_eq_true rfl⟩ (Nat.le_of_ble_eq_true rfl) (fun uu H locs hp hG => ?_)
      obtain rfl := hp
      replace hG : gW D cy b n s H locs (enc b cy X S_30) := hG
      refine lv_goto (tgt := 167) hx hb dX0_countPart_82 (by decide) ?_
      cases hM
      exact g_vret S hr hlk hG hsz dX0_countPart_167 ⟨Nat.le_of_ble_eq_true rfl, Nat.le_of_ble_eq_true rfl⟩ rfl
  · replace hM := ifp hM c_5
    refine lv_aload_n hx hb dX0_countPart_28 rfl (lv_at hl 2 rfl) ?_
    refine lv_bipush (v := iI 6) hx hb dX0_countPart_29 (by decide) ?_
    refine lv_iload_n hx hb dX0_countPart_31 rfl (lv_at hl 3 rfl) ?_
    refine gi_add hx hb dX0_countPart_32 ?_
    refine lv_iload_n hx hb dX0_countPart_33 rfl (lv_at hl 4 rfl) ?_
    refine lv_aload_n hx hb dX0_countPart_34 rfl (lv_at hl 2 rfl) ?_
    refine m_get S hG 40 40 2 rfl ec_40 cpX0 wm_405 dX0_countPart_35 rfl (Nat.lt_of_lt_of_le (Nat.le_of_ble_eq_true rfl) hn) (by decide) ?_
    refine lv_iload_n hx hb dX0_countPart_38 rfl (lv_at hl 1 rfl) ?_
    obtain ⟨S_32, hc_31, hM⟩ := bd1_some hM
    refine g_vv (As := [.int (iI (6 + a1)), .int (iI a2), .ref (b + 41), .int (iI x_1)]) (rest := []) S hG hsz (vX0_sumTerms_40_41 l hn (6 + a1) a2 x_1 hc_31) wV_0_53 (ec_40 _) cpX0 (Nat.lt_of_lt_of_le (Nat.le_of_ble_eq_true rfl) hn) dX0_countPart_39 rfl hl.1 (ar := 4) (by decide +kernel) rfl ⟨Nat.le_of_ble_eq_true rfl, Nat.le_of_ble_eq_true rfl, Nat.le_of_ble_eq_true rfl, Nat.le_of_ble_eq_true rfl⟩ (Nat.le_of_ble_eq_true rfl) (fun uu H locs hp hG => ?_)
    obtain rfl := hp
    replace hG : gW D cy b n s H locs (enc b cy X S_32) := hG
    refine lv_goto (tgt := 167) hx hb dX0_countPart_42 (by decide) ?_
    cases hM
    exact g_vret S hr hlk hG hsz dX0_countPart_167 ⟨Nat.le_of_ble_eq_true rfl, Nat.le_of_ble_eq_true rfl⟩ rfl
def mX0_sumTerms_40_43_19 (S_2 : St) (v_1 : Int) (a1 : Int) (a2 : Int) (a4 : Int) : Nat → Int → Int → Option (Int)
  | 0, _, _ => none
  | f + 1, v_13, v_14 => gd (0 ≤ a1 ∧ a1 < 30) <| gd ((inI v_13) ∧ (inI (S_2 8 a1))) <| if (S_2 8 a1) ≤ v_13 then (some (v_14)) else (bd1 (mX2_isOff_2 S_2 a1 v_13) fun r_27 => gd (inI r_27) <| if r_27 = 0 then (bd1 (mX2_start_2 S_2 a1 v_13) fun r_31 => gd (0 ≤ (((r_31 * 64) + (a2 * 8)) + v_1) ∧ (((r_31 * 64) + (a2 * 8)) + v_1) < 1536) <| bd1 (mX11_plus v_14 (S_2 42 (((r_31 * 64) + (a2 * 8)) + v_1))) fun r_34 => mX0_sumTerms_40_43_19 S_2 v_1 a1 a2 a4 f (v_13 + 1) r_34) else (mX0_sumTerms_40_43_19 S_2 v_1 a1 a2 a4 f (v_13 + 1) v_14))
def mX0_sumTerms_40_43_3 (a1 : Int) (a2 : Int) (a4 : Int) : Nat → Int → St → Option (St)
  | 0, _, _ => none
  | f + 1, v_1, S_2 => bd1 (mX0_letterTop_40 S_2 a2) fun r_10 => gd ((inI v_1) ∧ (inI r_10)) <| if r_10 < v_1 then (some (S_2)) else (bd1 (mX0_sumTerms_40_43_19 S_2 v_1 a1 a2 a4 FU 0 0) fun y_15 => gd (0 ≤ (a4 + v_1) ∧ (a4 + v_1) < 384) <| nx (up S_2 43 (a4 + v_1) y_15) fun S_19 => mX0_sumTerms_40_43_3 a1 a2 a4 f (v_1 + 1) S_19)
def mX0_sumTerms_40_43 (S0 : St) (a1 : Int) (a2 : Int) (a4 : Int) : Option (St) := bd1 (mX0_sumTerms_40_43_3 a1 a2 a4 FU 0 S0) fun S_3 => some (S_3)
set_option maxHeartbeats 4000000 in
set_option maxRecDepth 100000 in
theorem vX0_sumTerms_40_43 (l : Launch) {D : va_G} {cy : Nat → ClassId} {b n : Nat} (hn : 102 ≤ n) {X : Nat → va_E} {S0 : St} (a1 : Int) (a2 : Int) (a4 : Int) {o1 : St} (hM : mX0_sumTerms_40_43 S0 a1 a2 a4 = some o1) : gV l yX0_sumTerms cX0_sumTerms 9 1 0 0 D cy b n (enc b cy X S0) [.ref (b + 40), .int (iI a1), .int (iI a2), .ref (b + 43), .int (iI a4)] (fun u => u = (n, enc b cy X o1)) := by
  refine gV_of (by decide) (Nat.le_of_ble_eq_true rfl) ?_
  intro p e s m args below meth c S hr hlk hin hsz ls hl hG
  have hx := S.1
  have hb := S.2.1
  have hl : lv_has ls 9 [(0, .ref (b + 40)), (1, .int (iI a1)), (2, .int (iI a2)), (3, .ref (b + 43)), (4, .int (iI a4))] := hl
  replace hG : gW D cy b n s s.heap [] (enc b cy X S0) := hG
  obtain ⟨H, eH⟩ : ∃ H, H = s.heap := ⟨_, rfl⟩
  obtain ⟨locs, elocs⟩ : ∃ locs : List Loc, locs = [] := ⟨_, rfl⟩
  rw [← eH, ← elocs] at hG
  rw [← eH, ← elocs]
  clear eH elocs
  unfold mX0_sumTerms_40_43 at hM
  refine lv_iconst (v := iI 0) hx hb dX0_sumTerms_0 (by decide) ?_
  refine lv_istore (lv' := [(5, .int (iI 0)), (0, .ref (b + 40)), (1, .int (iI a1)), (2, .int (iI a2)), (3, .ref (b + 43)), (4, .int (iI a4))]) hx hb dX0_sumTerms_1 hl (by decide) rfl (fun ls hl => ?_)
  obtain ⟨S_3, hc_4, hM⟩ := bd1_some hM
  have hK_5 : ∀ (H : Heap) (locs : List Loc) (ls : Array Slot), gW D cy b n s H locs (enc b cy X S_3) → lv_has ls 9 [] → W p l e (gRm 1 0 0) s m args below meth c H locs 0 0 (gQV D cy b s args below 0 0 (fun u => u = (n, enc b cy X o1))) (F0 m 100 ls []) := by
    intro H locs ls hG hl
    cases hM
    exact g_vret S hr hlk hG hsz dX0_sumTerms_100 ⟨Nat.le_of_ble_eq_true rfl, Nat.le_of_ble_eq_true rfl⟩ rfl
  have loop_6 : ∀ (f : Nat) (v_1 : Int) (S_2 : St) (H : Heap) (locs : List Loc) (ls : Array Slot), mX0_sumTerms_40_43_3 a1 a2 a4 f v_1 S_2 = some S_3 → gW D cy b n s H locs (enc b cy X S_2) → lv_has ls 9 [(5, .int (iI v_1)), (0, .ref (b + 40)), (1, .int (iI a1)), (2, .int (iI a2)), (3, .ref (b + 43)), (4, .int (iI a4))] → W p l e (gRm 1 0 0) s m args below meth c H locs 0 0 (gQV D cy b s args below 0 0 (fun u => u = (n, enc b cy X o1))) (F0 m 3 ls []) := by
    clear hM
    intro f
    induction f with
    | zero => intro v_1 S_2 H locs ls hM; rw [mX0_sumTerms_40_43_3] at hM; cases hM
    | succ f_8 ih_7 =>
      intro v_1 S_2 H locs ls hM hG hl
      rw [mX0_sumTerms_40_43_3] at hM
      refine lv_iload hx hb dX0_sumTerms_3 (lv_at hl 0 rfl) ?_
      refine lv_aload_n hx hb dX0_sumTerms_5 rfl (lv_at hl 1 rfl) ?_
      refine lv_iload_n hx hb dX0_sumTerms_6 rfl (lv_at hl 3 rfl) ?_
      obtain ⟨r_10, hc_9, hM⟩ := bd1_some hM
      refine g_vi (As := [.int (iI a2)]) (rest := [.int (iI v_1)]) S hG hsz (vX0_letterTop_40 l hn a2 hc_9) wV_0_108 (ec_40 _) cpX0 (Nat.lt_of_lt_of_le (Nat.le_of_ble_eq_true rfl) hn) dX0_sumTerms_7 rfl hl.1 (ar := 1) (by decide +kernel) rfl ⟨Nat.le_of_ble_eq_true rfl, Nat.le_of_ble_eq_true rfl, Nat.le_of_ble_eq_true rfl, Nat.le_of_ble_eq_true rfl⟩ (Nat.le_of_ble_eq_true rfl) (fun rv uu H locs hp hG => ?_)
      obtain ⟨rfl, rfl⟩ := hp
      replace hG : gW D cy b n s H locs (enc b cy X S_2) := hG
      obtain ⟨hg_11, hM⟩ := gd_some hM
      refine gi_icmp_gt (tgt := 100) hx hb dX0_sumTerms_10 (by decide) hg_11.1 hg_11.2 (fun c_12 => ?_) (fun c_12 => ?_)
      · replace hM := ifp hM c_12
        cases hM
        exact hK_5 H locs ls hG (lv_sub hl [] rfl)
      · replace hM := ifn hM c_12
        refine lv_lconst (v := jJ 0) hx hb dX0_sumTerms_13 (by decide) ?_
        refine lv_lstore (lv' := [(6, .long (jJ 0)), (5, .int (iI v_1)), (0, .ref (b + 40)), (1, .int (iI a1)), (2, .int (iI a2)), (3, .ref (b + 43)), (4, .int (iI a4))]) hx hb dX0_sumTerms_14 hl (by decide) rfl (fun ls hl => ?_)
        refine lv_iconst (v := iI 0) hx hb dX0_sumTerms_16 (by decide) ?_
        refine lv_istore (lv' := [(8, .int (iI 0)), (6, .long (jJ 0)), (5, .int (iI v_1)), (0, .ref (b + 40)), (1, .int (iI a1)), (2, .int (iI a2)), (3, .ref (b + 43)), (4, .int (iI a4))]) hx hb dX0_sumTerms_17 hl (by decide) rfl (fun ls hl => ?_)
        obtain ⟨y_15, hc_16, hM⟩ := bd1_some hM
        have hK_17 : ∀ (H : Heap) (locs : List Loc) (ls : Array Slot), gW D cy b n s H locs (enc b cy X S_2) → lv_has ls 9 [(5, .int (iI v_1)), (0, .ref (b + 40)), (1, .int (iI a1)), (2, .int (iI a2)), (3, .ref (b + 43)), (4, .int (iI a4)), (6, .long (jJ y_15))] → W p l e (gRm 1 0 0) s m args below meth c H locs 0 0 (gQV D cy b s args below 0 0 (fun u => u = (n, enc b cy X o1))) (F0 m 85 ls []) := by
          intro H locs ls hG hl
          refine lv_aload_n hx hb dX0_sumTerms_85 rfl (lv_at hl 4 rfl) ?_
          refine lv_iload hx hb dX0_sumTerms_86 (lv_at hl 5 rfl) ?_
          refine lv_iload hx hb dX0_sumTerms_88 (lv_at hl 0 rfl) ?_
          refine gi_add hx hb dX0_sumTerms_90 ?_
          refine lv_lload hx hb dX0_sumTerms_91 (lv_at hl 6 rfl) ?_
          obtain ⟨hg_18, hM⟩ := gd_some hM
          refine mj_ast S hG 43 43 rfl ec_43 (Nat.lt_of_lt_of_le (Nat.le_of_ble_eq_true rfl) hn) dX0_sumTerms_93 hg_18 (by decide) (fun H locs S_19 eS_19 hG => ?_)
          replace hM := nx_at hM eS_19
          clear eS_19
          refine lv_iinc (v := iI (v_1 + 1)) (lv' := [(5, .int (iI (v_1 + 1))), (0, .ref (b + 40)), (1, .int (iI a1)), (2, .int (iI a2)), (3, .ref (b + 43)), (4, .int (iI a4)), (6, .long (jJ y_15))]) hx hb dX0_sumTerms_94 hl (k := 0) rfl ((iI_add v_1 (1)).trans (congrArg iI (by omega))) (by decide) rfl (fun ls hl => ?_)
          refine lv_goto (tgt := 3) hx hb dX0_sumTerms_97 (by decide) ?_
          exact ih_7 (v_1 + 1) S_19 H locs ls hM hG (lv_sub hl [0, 1, 2, 3, 4, 5] rfl)
        have loop_20 : ∀ (f : Nat) (v_13 : Int) (v_14 : Int) (H : Heap) (locs : List Loc) (ls : Array Slot), mX0_sumTerms_40_43_19 S_2 v_1 a1 a2 a4 f v_13 v_14 = some y_15 → gW D cy b n s H locs (enc b cy X S_2) → lv_has ls 9 [(8, .int (iI v_13)), (6, .long (jJ v_14)), (5, .int (iI v_1)), (0, .ref (b + 40)), (1, .int (iI a1)), (2, .int (iI a2)), (3, .ref (b + 43)), (4, .int (iI a4))] → W p l e (gRm 1 0 0) s m args below meth c H locs 0 0 (gQV D cy b s args below 0 0 (fun u => u = (n, enc b cy X o1))) (F0 m 19 ls []) := by
          clear hM
          intro f
          induction f with
          | zero => intro v_13 v_14 H locs ls hM; rw [mX0_sumTerms_40_43_19] at hM; cases hM
          | succ f_22 ih_21 =>
            intro v_13 v_14 H locs ls hM hG hl
            rw [mX0_sumTerms_40_43_19] at hM
            refine lv_iload hx hb dX0_sumTerms_19 (lv_at hl 0 rfl) ?_
            refine lv_aload_n hx hb dX0_sumTerms_21 rfl (lv_at hl 3 rfl) ?_
            refine m_get S hG 40 40 0 rfl ec_40 cpX0 wm_403 dX0_sumTerms_22 rfl (Nat.lt_of_lt_of_le (Nat.le_of_ble_eq_true rfl) hn) (by decide) ?_
            refine m_get S hG 2 2 10 rfl ec_2 cpX2 wm_267 dX0_sumTerms_25 rfl (Nat.lt_of_lt_of_le (Nat.le_of_ble_eq_true rfl) hn) (by decide) ?_
            refine lv_iload_n hx hb dX0_sumTerms_28 rfl (lv_at hl 4 rfl) ?_
            obtain ⟨hg_23, hM⟩ := gd_some hM
            refine mi_ald S hG 8 8 rfl ec_8 (Nat.lt_of_lt_of_le (Nat.le_of_ble_eq_true rfl) hn) dX0_sumTerms_29 hg_23 (by decide) ?_
            obtain ⟨hg_24, hM⟩ := gd_some hM
            refine gi_icmp_ge (tgt := 85) hx hb dX0_sumTerms_30 (by decide) hg_24.1 hg_24.2 (fun c_25 => ?_) (fun c_25 => ?_)
            · replace hM := ifp hM c_25
              cases hM
              exact hK_17 H locs ls hG (lv_sub hl [2, 3, 4, 5, 6, 7, 1] rfl)
            · replace hM := ifn hM c_25
              refine lv_aload_n hx hb dX0_sumTerms_33 rfl (lv_at hl 3 rfl) ?_
              refine m_get S hG 40 40 0 rfl ec_40 cpX0 wm_403 dX0_sumTerms_34 rfl (Nat.lt_of_lt_of_le (Nat.le_of_ble_eq_true rfl) hn) (by decide) ?_
              refine lv_iload_n hx hb dX0_sumTerms_37 rfl (lv_at hl 4 rfl) ?_
              refine lv_iload hx hb dX0_sumTerms_38 (lv_at hl 0 rfl) ?_
              obtain ⟨r_27, hc_26, hM⟩ := bd1_some hM
              refine g_vi (As := [.int (iI a1), .int (iI v_13)]) (rest := []) S hG hsz (vX2_isOff_2 l hn a1 v_13 hc_26) wV_0_72 (ec_2 _) cpX2 (Nat.lt_of_lt_of_le (Nat.le_of_ble_eq_true rfl) hn) dX0_sumTerms_40 rfl hl.1 (ar := 2) (by decide +kernel) rfl ⟨Nat.le_of_ble_eq_true rfl, Nat.le_of_ble_eq_true rfl, Nat.le_of_ble_eq_true rfl, Nat.le_of_ble_eq_true rfl⟩ (Nat.le_of_ble_eq_true rfl) (fun rv uu H locs hp hG => ?_)
              obtain ⟨rfl, rfl⟩ := hp
              replace hG : gW D cy b n s H locs (enc b cy X S_2) := hG
              obtain ⟨hg_28, hM⟩ := gd_some hM
              refine gi_if_ne (tgt := 79) hx hb dX0_sumTerms_43 (by decide) hg_28 (fun c_29 => ?_) (fun c_29 => ?_)
              · replace hM := ifn hM c_29
                refine lv_iinc (v := iI (v_13 + 1)) (lv' := [(8, .int (iI (v_13 + 1))), (6, .long (jJ v_14)), (5, .int (iI v_1)), (0, .ref (b + 40)), (1, .int (iI a1)), (2, .int (iI a2)), (3, .ref (b + 43)), (4, .int (iI a4))]) hx hb dX0_sumTerms_79 hl (k := 0) rfl ((iI_add v_13 (1)).trans (congrArg iI (by omega))) (by decide) rfl (fun ls hl => ?_)
                refine lv_goto (tgt := 19) hx hb dX0_sumTerms_82 (by decide) ?_
                exact ih_21 (v_13 + 1) v_14 H locs ls hM hG (lv_sub hl [0, 1, 2, 3, 4, 5, 6, 7] rfl)
              · replace hM := ifp hM c_29
                refine lv_lload hx hb dX0_sumTerms_46 (lv_at hl 1 rfl) ?_
                refine lv_aload_n hx hb dX0_sumTerms_48 rfl (lv_at hl 3 rfl) ?_
                refine m_get S hG 40 40 3 rfl ec_40 cpX0 wm_406 dX0_sumTerms_49 rfl (Nat.lt_of_lt_of_le (Nat.le_of_ble_eq_true rfl) hn) (by decide) ?_
                refine lv_aload_n hx hb dX0_sumTerms_52 rfl (lv_at hl 3 rfl) ?_
                refine m_get S hG 40 40 0 rfl ec_40 cpX0 wm_403 dX0_sumTerms_53 rfl (Nat.lt_of_lt_of_le (Nat.le_of_ble_eq_true rfl) hn) (by decide) ?_
                refine lv_iload_n hx hb dX0_sumTerms_56 rfl (lv_at hl 4 rfl) ?_
                refine lv_iload hx hb dX0_sumTerms_57 (lv_at hl 0 rfl) ?_
                obtain ⟨r_31, hc_30, hM⟩ := bd1_some hM
                refine g_vi (As := [.int (iI a1), .int (iI v_13)]) (rest := [.ref (b + 42), .long (jJ v_14)]) S hG hsz (vX2_start_2 l hn a1 v_13 hc_30) wV_0_76 (ec_2 _) cpX2 (Nat.lt_of_lt_of_le (Nat.le_of_ble_eq_true rfl) hn) dX0_sumTerms_59 rfl hl.1 (ar := 2) (by decide +kernel) rfl ⟨Nat.le_of_ble_eq_true rfl, Nat.le_of_ble_eq_true rfl, Nat.le_of_ble_eq_true rfl, Nat.le_of_ble_eq_true rfl⟩ (Nat.le_of_ble_eq_true rfl) (fun rv uu H locs hp hG => ?_)
                obtain ⟨rfl, rfl⟩ := hp
                replace hG : gW D cy b n s H locs (enc b cy X S_2) := hG
                refine lv_bipush (v := iI 64) hx hb dX0_sumTerms_62 (by decide) ?_
                refine gi_mul hx hb dX0_sumTerms_64 ?_
                refine lv_iload_n hx hb dX0_sumTerms_65 rfl (lv_at hl 5 rfl) ?_
                refine lv_bipush (v := iI 8) hx hb dX0_sumTerms_66 (by decide) ?_
                refine gi_mul hx hb dX0_sumTerms_68 ?_
                refine gi_add hx hb dX0_sumTerms_69 ?_
                refine lv_iload hx hb dX0_sumTerms_70 (lv_at hl 2 rfl) ?_
                refine gi_add hx hb dX0_sumTerms_72 ?_
                obtain ⟨hg_32, hM⟩ := gd_some hM
                refine mj_ald S hG 42 42 rfl ec_42 (Nat.lt_of_lt_of_le (Nat.le_of_ble_eq_true rfl) hn) dX0_sumTerms_73 hg_32 (by decide) ?_
                obtain ⟨r_34, hc_33, hM⟩ := bd1_some hM
                refine g_slN (As := [.long (jJ v_14), .long (jJ (S_2 42 (((r_31 * 64) + (a2 * 8)) + v_1)))]) (rest := []) S hG hsz (vX11_plus l hn v_14 (S_2 42 (((r_31 * 64) + (a2 * 8)) + v_1)) hc_33) (y := yX11_plus) (host := "GrownKinds") (by decide +kernel) ⟨wm_997, wm_177, wm_998, by decide +kernel, by decide +kernel⟩ dX0_sumTerms_74 rfl hl.1 (ar := 2) (by decide +kernel) rfl ⟨Nat.le_of_ble_eq_true rfl, Nat.le_of_ble_eq_true rfl, Nat.le_of_ble_eq_true rfl, Nat.le_of_ble_eq_true rfl⟩ (Nat.le_of_ble_eq_true rfl) (fun rv uu H locs hp hG => ?_)
                obtain ⟨rfl, rfl⟩ := hp
                replace hG : gW D cy b n s H locs (enc b cy X S_2) := hG
                refine lv_lstore (lv' := [(6, .long (jJ r_34)), (8, .int (iI v_13)), (5, .int (iI v_1)), (0, .ref (b + 40)), (1, .int (iI a1)), (2, .int (iI a2)), (3, .ref (b + 43)), (4, .int (iI a4))]) hx hb dX0_sumTerms_77 hl (by decide) rfl (fun ls hl => ?_)
                refine lv_iinc (v := iI (v_13 + 1)) (lv' := [(8, .int (iI (v_13 + 1))), (6, .long (jJ r_34)), (5, .int (iI v_1)), (0, .ref (b + 40)), (1, .int (iI a1)), (2, .int (iI a2)), (3, .ref (b + 43)), (4, .int (iI a4))]) hx hb dX0_sumTerms_79 hl (k := 1) rfl ((iI_add v_13 (1)).trans (congrArg iI (by omega))) (by decide) rfl (fun ls hl => ?_)
                refine lv_goto (tgt := 19) hx hb dX0_sumTerms_82 (by decide) ?_
                exact ih_21 (v_13 + 1) r_34 H locs ls hM hG (lv_sub hl [0, 1, 2, 3, 4, 5, 6, 7] rfl)
        exact loop_20 FU 0 0 H locs ls hc_16 hG (lv_sub hl [0, 1, 2, 3, 4, 5, 6, 7] rfl)
  exact loop_6 FU 0 S0 H locs ls hc_4 hG (lv_sub hl [0, 1, 2, 3, 4, 5] rfl)
def mX0_take_40_59 (v_7 : Int) : Nat → Int → St → Option (St)
  | 0, _, _ => none
  | f + 1, v_17, S_18 => gd ((inI v_17) ∧ (inI (S_18 2 4))) <| if (S_18 2 4) ≤ v_17 then (some (S_18)) else (gd (0 ≤ v_17 ∧ v_17 < 54) <| nx (S_18 11 v_17) fun x_28 => gd (inI (x_28 - 6)) <| nx (Int.tdiv (x_28 - 6) 2) fun x_30 => gd (inI x_28) <| if 6 ≤ x_28 then (gd (inI (Int.tmod (x_28 - 6) 2)) <| if (Int.tmod (x_28 - 6) 2) = 1 then (bd1 (mX0_countPart_40 S_18 x_30 v_7) fun S_38 => mX0_take_40_59 v_7 f (v_17 + 1) S_38) else (bd1 (mX0_countTail_40 S_18 x_30 v_7) fun S_36 => mX0_take_40_59 v_7 f (v_17 + 1) S_36)) else (bd1 (mX0_sumTerms_40_43 S_18 x_28 v_7 ((x_28 * 64) + (v_7 * 8))) fun S_40 => mX0_take_40_59 v_7 f (v_17 + 1) S_40))
def mX0_take_40_46  : Nat → Int → St → Option (St)
  | 0, _, _ => none
  | f + 1, v_7, S_8 => gd ((inI v_7) ∧ (inI (S_8 2 0))) <| if (S_8 2 0) < v_7 then (some (S_8)) else (bd1 (mX0_take_40_59 v_7 FU 0 S_8) fun S_19 => mX0_take_40_46 f (v_7 + 1) S_19)
def mX0_take_40_7  : Nat → Int → St → Option (St)
  | 0, _, _ => none
  | f + 1, v_2, S_3 => gd ((inI v_2) ∧ (inI (S_3 2 3))) <| if (S_3 2 3) ≤ v_2 then (some (S_3)) else (gd (0 ≤ (v_2 * 64) ∧ (v_2 * 64) < 1536) <| nx (up S_3 41 (v_2 * 64) 0) fun S_47 => nx (up S_47 42 (v_2 * 64) 0) fun S_48 => mX0_take_40_7 f (v_2 + 1) S_48)
def mX0_take_40 (S0 : St) (a1 : Int) : Option (St) := nx (up S0 40 1 a1) fun S_1 => bd1 (mX0_take_40_7 FU 0 S_1) fun S_4 => bd1 (mX0_take_40_46 FU 0 S_4) fun S_9 => some (S_9)
set_option maxHeartbeats 4000000 in
set_option maxRecDepth 100000 in
theorem vX0_take_40 (l : Launch) {D : va_G} {cy : Nat → ClassId} {b n : Nat} (hn : 102 ≤ n) {X : Nat → va_E} {S0 : St} (a1 : Int) {o1 : St} (hM : mX0_take_40 S0 a1 = some o1) : gV l yX0_take cX0_take 6 5 0 0 D cy b n (enc b cy X S0) [.ref (b + 40), .int (iI a1)] (fun u => u = (n, enc b cy X o1)) := by
  refine gV_of (by decide) (Nat.le_of_ble_eq_true rfl) ?_
  intro p e s m args below meth c S hr hlk hin hsz ls hl hG
  have hx := S.1
  have hb := S.2.1
  have hl : lv_has ls 6 [(0, .ref (b + 40)), (1, .int (iI a1))] := hl
  replace hG : gW D cy b n s s.heap [] (enc b cy X S0) := hG
  obtain ⟨H, eH⟩ : ∃ H, H = s.heap := ⟨_, rfl⟩
  obtain ⟨locs, elocs⟩ : ∃ locs : List Loc, locs = [] := ⟨_, rfl⟩
  rw [← eH, ← elocs] at hG
  rw [← eH, ← elocs]
  clear eH elocs
  unfold mX0_take_40 at hM
  refine lv_aload_n hx hb dX0_take_0 rfl (lv_at hl 0 rfl) ?_
  refine lv_iload_n hx hb dX0_take_1 rfl (lv_at hl 1 rfl) ?_
  refine m_put S hG 40 40 1 rfl 1 a1 ec_40 cpX0 wm_404 dX0_take_2 (pf_40_1) (Nat.lt_of_lt_of_le (Nat.le_of_ble_eq_true rfl) hn) (by decide) (Nat.le_of_ble_eq_true rfl) rfl rfl rfl (fun H locs S_1 eS_1 hG => ?_)
  replace hM := nx_at hM eS_1
  clear eS_1
  refine lv_iconst (v := iI 0) hx hb dX0_take_5 (by decide) ?_
  refine lv_istore_n (lv' := [(2, .int (iI 0)), (0, .ref (b + 40)), (1, .int (iI a1))]) hx hb dX0_take_6 rfl hl (by decide) rfl (fun ls hl => ?_)
  obtain ⟨S_4, hc_5, hM⟩ := bd1_some hM
  have hK_6 : ∀ (H : Heap) (locs : List Loc) (ls : Array Slot), gW D cy b n s H locs (enc b cy X S_4) → lv_has ls 6 [(0, .ref (b + 40))] → W p l e (gRm 5 0 0) s m args below meth c H locs 0 0 (gQV D cy b s args below 0 0 (fun u => u = (n, enc b cy X o1))) (F0 m 44 ls []) := by
    intro H locs ls hG hl
    refine lv_iconst (v := iI 0) hx hb dX0_take_44 (by decide) ?_
    refine lv_istore_n (lv' := [(2, .int (iI 0)), (0, .ref (b + 40))]) hx hb dX0_take_45 rfl hl (by decide) rfl (fun ls hl => ?_)
    obtain ⟨S_9, hc_10, hM⟩ := bd1_some hM
    have hK_11 : ∀ (H : Heap) (locs : List Loc) (ls : Array Slot), gW D cy b n s H locs (enc b cy X S_9) → lv_has ls 6 [] → W p l e (gRm 5 0 0) s m args below meth c H locs 0 0 (gQV D cy b s args below 0 0 (fun u => u = (n, enc b cy X o1))) (F0 m 161 ls []) := by
      intro H locs ls hG hl
      cases hM
      exact g_vret S hr hlk hG hsz dX0_take_161 ⟨Nat.le_of_ble_eq_true rfl, Nat.le_of_ble_eq_true rfl⟩ rfl
    have loop_12 : ∀ (f : Nat) (v_7 : Int) (S_8 : St) (H : Heap) (locs : List Loc) (ls : Array Slot), mX0_take_40_46 f v_7 S_8 = some S_9 → gW D cy b n s H locs (enc b cy X S_8) → lv_has ls 6 [(2, .int (iI v_7)), (0, .ref (b + 40))] → W p l e (gRm 5 0 0) s m args below meth c H locs 0 0 (gQV D cy b s args below 0 0 (fun u => u = (n, enc b cy X o1))) (F0 m 46 ls []) := by
      clear hM
      intro f
      induction f with
      | zero => intro v_7 S_8 H locs ls hM; rw [mX0_take_40_46] at hM; cases hM
      | succ f_14 ih_13 =>
        intro v_7 S_8 H locs ls hM hG hl
        rw [mX0_take_40_46] at hM
        refine lv_iload_n hx hb dX0_take_46 rfl (lv_at hl 0 rfl) ?_
        refine lv_aload_n hx hb dX0_take_47 rfl (lv_at hl 1 rfl) ?_
        refine m_get S hG 40 40 0 rfl ec_40 cpX0 wm_403 dX0_take_48 rfl (Nat.lt_of_lt_of_le (Nat.le_of_ble_eq_true rfl) hn) (by decide) ?_
        refine m_get S hG 2 2 0 rfl ec_2 cpX2 wm_213 dX0_take_51 rfl (Nat.lt_of_lt_of_le (Nat.le_of_ble_eq_true rfl) hn) (by decide) ?_
        obtain ⟨hg_15, hM⟩ := gd_some hM
        refine gi_icmp_gt (tgt := 161) hx hb dX0_take_54 (by decide) hg_15.1 hg_15.2 (fun c_16 => ?_) (fun c_16 => ?_)
        · replace hM := ifp hM c_16
          cases hM
          exact hK_11 H locs ls hG (lv_sub hl [] rfl)
        · replace hM := ifn hM c_16
          refine lv_iconst (v := iI 0) hx hb dX0_take_57 (by decide) ?_
          refine lv_istore_n (lv' := [(3, .int (iI 0)), (2, .int (iI v_7)), (0, .ref (b + 40))]) hx hb dX0_take_58 rfl hl (by decide) rfl (fun ls hl => ?_)
          obtain ⟨S_19, hc_20, hM⟩ := bd1_some hM
          have hK_21 : ∀ (H : Heap) (locs : List Loc) (ls : Array Slot), gW D cy b n s H locs (enc b cy X S_19) → lv_has ls 6 [(2, .int (iI v_7)), (0, .ref (b + 40))] → W p l e (gRm 5 0 0) s m args below meth c H locs 0 0 (gQV D cy b s args below 0 0 (fun u => u = (n, enc b cy X o1))) (F0 m 155 ls []) := by
            intro H locs ls hG hl
            refine lv_iinc (v := iI (v_7 + 1)) (lv' := [(2, .int (iI (v_7 + 1))), (0, .ref (b + 40))]) hx hb dX0_take_155 hl (k := 0) rfl ((iI_add v_7 (1)).trans (congrArg iI (by omega))) (by decide) rfl (fun ls hl => ?_)
            refine lv_goto (tgt := 46) hx hb dX0_take_158 (by decide) ?_
            exact ih_13 (v_7 + 1) S_19 H locs ls hM hG (lv_sub hl [0, 1] rfl)
          have loop_22 : ∀ (f : Nat) (v_17 : Int) (S_18 : St) (H : Heap) (locs : List Loc) (ls : Array Slot), mX0_take_40_59 v_7 f v_17 S_18 = some S_19 → gW D cy b n s H locs (enc b cy X S_18) → lv_has ls 6 [(3, .int (iI v_17)), (2, .int (iI v_7)), (0, .ref (b + 40))] → W p l e (gRm 5 0 0) s m args below meth c H locs 0 0 (gQV D cy b s args below 0 0 (fun u => u = (n, enc b cy X o1))) (F0 m 59 ls []) := by
            clear hM
            intro f
            induction f with
            | zero => intro v_17 S_18 H locs ls hM; rw [mX0_take_40_59] at hM; cases hM
            | succ f_24 ih_23 =>
              intro v_17 S_18 H locs ls hM hG hl
              rw [mX0_take_40_59] at hM
              refine lv_iload_n hx hb dX0_take_59 rfl (lv_at hl 0 rfl) ?_
              refine lv_aload_n hx hb dX0_take_60 rfl (lv_at hl 2 rfl) ?_
              refine m_get S hG 40 40 0 rfl ec_40 cpX0 wm_403 dX0_take_61 rfl (Nat.lt_of_lt_of_le (Nat.le_of_ble_eq_true rfl) hn) (by decide) ?_
              refine m_get S hG 2 2 4 rfl ec_2 cpX2 wm_232 dX0_take_64 rfl (Nat.lt_of_lt_of_le (Nat.le_of_ble_eq_true rfl) hn) (by decide) ?_
              obtain ⟨hg_25, hM⟩ := gd_some hM
              refine gi_icmp_ge (tgt := 155) hx hb dX0_take_67 (by decide) hg_25.1 hg_25.2 (fun c_26 => ?_) (fun c_26 => ?_)
              · replace hM := ifp hM c_26
                cases hM
                exact hK_21 H locs ls hG (lv_sub hl [1, 2] rfl)
              · replace hM := ifn hM c_26
                refine lv_aload_n hx hb dX0_take_70 rfl (lv_at hl 2 rfl) ?_
                refine m_get S hG 40 40 0 rfl ec_40 cpX0 wm_403 dX0_take_71 rfl (Nat.lt_of_lt_of_le (Nat.le_of_ble_eq_true rfl) hn) (by decide) ?_
                refine m_get S hG 2 2 13 rfl ec_2 cpX2 wm_274 dX0_take_74 rfl (Nat.lt_of_lt_of_le (Nat.le_of_ble_eq_true rfl) hn) (by decide) ?_
                refine lv_iload_n hx hb dX0_take_77 rfl (lv_at hl 0 rfl) ?_
                obtain ⟨hg_27, hM⟩ := gd_some hM
                refine mi_ald S hG 11 11 rfl ec_11 (Nat.lt_of_lt_of_le (Nat.le_of_ble_eq_true rfl) hn) dX0_take_78 hg_27 (by decide) ?_
                refine gi_nm (fun x_28 ex_28 => ?_)
                replace hM := nx_at hM ex_28
                clear ex_28
                refine lv_istore (lv' := [(4, .int (iI x_28)), (3, .int (iI v_17)), (2, .int (iI v_7)), (0, .ref (b + 40))]) hx hb dX0_take_79 hl (by decide) rfl (fun ls hl => ?_)
                refine lv_iload hx hb dX0_take_81 (lv_at hl 0 rfl) ?_
                refine lv_bipush (v := iI 6) hx hb dX0_take_83 (by decide) ?_
                refine gi_sub hx hb dX0_take_85 ?_
                refine lv_iconst (v := iI 2) hx hb dX0_take_86 (by decide) ?_
                obtain ⟨hg_29, hM⟩ := gd_some hM
                refine gi_divT hx hb dX0_take_87 hg_29 (by decide) ?_
                refine gi_nm (fun x_30 ex_30 => ?_)
                replace hM := nx_at hM ex_30
                clear ex_30
                refine lv_istore (lv' := [(5, .int (iI x_30)), (4, .int (iI x_28)), (3, .int (iI v_17)), (2, .int (iI v_7)), (0, .ref (b + 40))]) hx hb dX0_take_88 hl (by decide) rfl (fun ls hl => ?_)
                refine lv_iload hx hb dX0_take_90 (lv_at hl 1 rfl) ?_
                refine lv_bipush (v := iI 6) hx hb dX0_take_92 (by decide) ?_
                obtain ⟨hg_31, hM⟩ := gd_some hM
                refine gi_icmp_ge (tgt := 121) hx hb dX0_take_94 (by decide) hg_31 (by decide) (fun c_32 => ?_) (fun c_32 => ?_)
                · replace hM := ifp hM c_32
                  refine lv_iload hx hb dX0_take_121 (lv_at hl 1 rfl) ?_
                  refine lv_bipush (v := iI 6) hx hb dX0_take_123 (by decide) ?_
                  refine gi_sub hx hb dX0_take_125 ?_
                  refine lv_iconst (v := iI 2) hx hb dX0_take_126 (by decide) ?_
                  refine gi_remT hx hb dX0_take_127 hg_29 (by decide) ?_
                  refine lv_iconst (v := iI 1) hx hb dX0_take_128 (by decide) ?_
                  obtain ⟨hg_33, hM⟩ := gd_some hM
                  refine gi_icmp_ne (tgt := 142) hx hb dX0_take_129 (by decide) hg_33 (by decide) (fun c_34 => ?_) (fun c_34 => ?_)
                  · replace hM := ifn hM c_34
                    refine lv_aload_n hx hb dX0_take_142 rfl (lv_at hl 4 rfl) ?_
                    refine lv_iload hx hb dX0_take_143 (lv_at hl 0 rfl) ?_
                    refine lv_iload_n hx hb dX0_take_145 rfl (lv_at hl 3 rfl) ?_
                    obtain ⟨S_36, hc_35, hM⟩ := bd1_some hM
                    refine g_vv (As := [.int (iI x_30), .int (iI v_7)]) (rest := []) S hG hsz (vX0_countTail_40 l hn x_30 v_7 hc_35) wV_0_61 (ec_40 _) cpX0 (Nat.lt_of_lt_of_le (Nat.le_of_ble_eq_true rfl) hn) dX0_take_146 rfl hl.1 (ar := 2) (by decide +kernel) rfl ⟨Nat.le_of_ble_eq_true rfl, Nat.le_of_ble_eq_true rfl, Nat.le_of_ble_eq_true rfl, Nat.le_of_ble_eq_true rfl⟩ (Nat.le_of_ble_eq_true rfl) (fun uu H locs hp hG => ?_)
                    obtain rfl := hp
                    replace hG : gW D cy b n s H locs (enc b cy X S_36) := hG
                    refine lv_iinc (v := iI (v_17 + 1)) (lv' := [(3, .int (iI (v_17 + 1))), (5, .int (iI x_30)), (4, .int (iI x_28)), (2, .int (iI v_7)), (0, .ref (b + 40))]) hx hb dX0_take_149 hl (k := 2) rfl ((iI_add v_17 (1)).trans (congrArg iI (by omega))) (by decide) rfl (fun ls hl => ?_)
                    refine lv_goto (tgt := 59) hx hb dX0_take_152 (by decide) ?_
                    exact ih_23 (v_17 + 1) S_36 H locs ls hM hG (lv_sub hl [0, 3, 4] rfl)
                  · replace hM := ifp hM c_34
                    refine lv_aload_n hx hb dX0_take_132 rfl (lv_at hl 4 rfl) ?_
                    refine lv_iload hx hb dX0_take_133 (lv_at hl 0 rfl) ?_
                    refine lv_iload_n hx hb dX0_take_135 rfl (lv_at hl 3 rfl) ?_
                    obtain ⟨S_38, hc_37, hM⟩ := bd1_some hM
                    refine g_vv (As := [.int (iI x_30), .int (iI v_7)]) (rest := []) S hG hsz (vX0_countPart_40 l hn x_30 v_7 hc_37) wV_0_57 (ec_40 _) cpX0 (Nat.lt_of_lt_of_le (Nat.le_of_ble_eq_true rfl) hn) dX0_take_136 rfl hl.1 (ar := 2) (by decide +kernel) rfl ⟨Nat.le_of_ble_eq_true rfl, Nat.le_of_ble_eq_true rfl, Nat.le_of_ble_eq_true rfl, Nat.le_of_ble_eq_true rfl⟩ (Nat.le_of_ble_eq_true rfl) (fun uu H locs hp hG => ?_)
                    obtain rfl := hp
                    replace hG : gW D cy b n s H locs (enc b cy X S_38) := hG
                    refine lv_goto (tgt := 149) hx hb dX0_take_139 (by decide) ?_
                    refine lv_iinc (v := iI (v_17 + 1)) (lv' := [(3, .int (iI (v_17 + 1))), (5, .int (iI x_30)), (4, .int (iI x_28)), (2, .int (iI v_7)), (0, .ref (b + 40))]) hx hb dX0_take_149 hl (k := 2) rfl ((iI_add v_17 (1)).trans (congrArg iI (by omega))) (by decide) rfl (fun ls hl => ?_)
                    refine lv_goto (tgt := 59) hx hb dX0_take_152 (by decide) ?_
                    exact ih_23 (v_17 + 1) S_38 H locs ls hM hG (lv_sub hl [0, 3, 4] rfl)
                · replace hM := ifn hM c_32
                  refine lv_aload_n hx hb dX0_take_97 rfl (lv_at hl 4 rfl) ?_
                  refine lv_iload hx hb dX0_take_98 (lv_at hl 1 rfl) ?_
                  refine lv_iload_n hx hb dX0_take_100 rfl (lv_at hl 3 rfl) ?_
                  refine lv_aload_n hx hb dX0_take_101 rfl (lv_at hl 4 rfl) ?_
                  refine m_get S hG 40 40 4 rfl ec_40 cpX0 wm_407 dX0_take_102 rfl (Nat.lt_of_lt_of_le (Nat.le_of_ble_eq_true rfl) hn) (by decide) ?_
                  refine lv_iload hx hb dX0_take_105 (lv_at hl 1 rfl) ?_
                  refine lv_bipush (v := iI 64) hx hb dX0_take_107 (by decide) ?_
                  refine gi_mul hx hb dX0_take_109 ?_
                  refine lv_iload_n hx hb dX0_take_110 rfl (lv_at hl 3 rfl) ?_
                  refine lv_bipush (v := iI 8) hx hb dX0_take_111 (by decide) ?_
                  refine gi_mul hx hb dX0_take_113 ?_
                  refine gi_add hx hb dX0_take_114 ?_
                  obtain ⟨S_40, hc_39, hM⟩ := bd1_some hM
                  refine g_vv (As := [.int (iI x_28), .int (iI v_7), .ref (b + 43), .int (iI ((x_28 * 64) + (v_7 * 8)))]) (rest := []) S hG hsz (vX0_sumTerms_40_43 l hn x_28 v_7 ((x_28 * 64) + (v_7 * 8)) hc_39) wV_0_53 (ec_40 _) cpX0 (Nat.lt_of_lt_of_le (Nat.le_of_ble_eq_true rfl) hn) dX0_take_115 rfl hl.1 (ar := 4) (by decide +kernel) rfl ⟨Nat.le_of_ble_eq_true rfl, Nat.le_of_ble_eq_true rfl, Nat.le_of_ble_eq_true rfl, Nat.le_of_ble_eq_true rfl⟩ (Nat.le_of_ble_eq_true rfl) (fun uu H locs hp hG => ?_)
                  obtain rfl := hp
                  replace hG : gW D cy b n s H locs (enc b cy X S_40) := hG
                  refine lv_goto (tgt := 149) hx hb dX0_take_118 (by decide) ?_
                  refine lv_iinc (v := iI (v_17 + 1)) (lv' := [(3, .int (iI (v_17 + 1))), (5, .int (iI x_30)), (4, .int (iI x_28)), (2, .int (iI v_7)), (0, .ref (b + 40))]) hx hb dX0_take_149 hl (k := 2) rfl ((iI_add v_17 (1)).trans (congrArg iI (by omega))) (by decide) rfl (fun ls hl => ?_)
                  refine lv_goto (tgt := 59) hx hb dX0_take_152 (by decide) ?_
                  exact ih_23 (v_17 + 1) S_40 H locs ls hM hG (lv_sub hl [0, 3, 4] rfl)
          exact loop_22 FU 0 S_8 H locs ls hc_20 hG (lv_sub hl [0, 1, 2] rfl)
    exact loop_12 FU 0 S_4 H locs ls hc_10 hG (lv_sub hl [0, 1] rfl)
  have loop_41 : ∀ (f : Nat) (v_2 : Int) (S_3 : St) (H : Heap) (locs : List Loc) (ls : Array Slot), mX0_take_40_7 f v_2 S_3 = some S_4 → gW D cy b n s H locs (enc b cy X S_3) → lv_has ls 6 [(2, .int (iI v_2)), (0, .ref (b + 40))] → W p l e (gRm 5 0 0) s m args below meth c H locs 0 0 (gQV D cy b s args below 0 0 (fun u => u = (n, enc b cy X o1))) (F0 m 7 ls []) := by
    clear hM
    intro f
    induction f with
    | zero => intro v_2 S_3 H locs ls hM; rw [mX0_take_40_7] at hM; cases hM
    | succ f_43 ih_42 =>
      intro v_2 S_3 H locs ls hM hG hl
      rw [mX0_take_40_7] at hM
      refine lv_iload_n hx hb dX0_take_7 rfl (lv_at hl 0 rfl) ?_
      refine lv_aload_n hx hb dX0_take_8 rfl (lv_at hl 1 rfl) ?_
      refine m_get S hG 40 40 0 rfl ec_40 cpX0 wm_403 dX0_take_9 rfl (Nat.lt_of_lt_of_le (Nat.le_of_ble_eq_true rfl) hn) (by decide) ?_
      refine m_get S hG 2 2 3 rfl ec_2 cpX2 wm_228 dX0_take_12 rfl (Nat.lt_of_lt_of_le (Nat.le_of_ble_eq_true rfl) hn) (by decide) ?_
      obtain ⟨hg_44, hM⟩ := gd_some hM
      refine gi_icmp_ge (tgt := 44) hx hb dX0_take_15 (by decide) hg_44.1 hg_44.2 (fun c_45 => ?_) (fun c_45 => ?_)
      · replace hM := ifp hM c_45
        cases hM
        exact hK_6 H locs ls hG (lv_sub hl [1] rfl)
      · replace hM := ifn hM c_45
        refine lv_aload_n hx hb dX0_take_18 rfl (lv_at hl 1 rfl) ?_
        refine m_get S hG 40 40 2 rfl ec_40 cpX0 wm_405 dX0_take_19 rfl (Nat.lt_of_lt_of_le (Nat.le_of_ble_eq_true rfl) hn) (by decide) ?_
        refine lv_iload_n hx hb dX0_take_22 rfl (lv_at hl 0 rfl) ?_
        refine lv_bipush (v := iI 64) hx hb dX0_take_23 (by decide) ?_
        refine gi_mul hx hb dX0_take_25 ?_
        refine lv_lconst (v := jJ 0) hx hb dX0_take_26 (by decide) ?_
        obtain ⟨hg_46, hM⟩ := gd_some hM
        refine mj_ast S hG 41 41 rfl ec_41 (Nat.lt_of_lt_of_le (Nat.le_of_ble_eq_true rfl) hn) dX0_take_27 hg_46 (by decide) (fun H locs S_47 eS_47 hG => ?_)
        replace hM := nx_at hM eS_47
        clear eS_47
        refine lv_aload_n hx hb dX0_take_28 rfl (lv_at hl 1 rfl) ?_
        refine m_get S hG 40 40 3 rfl ec_40 cpX0 wm_406 dX0_take_29 rfl (Nat.lt_of_lt_of_le (Nat.le_of_ble_eq_true rfl) hn) (by decide) ?_
        refine lv_iload_n hx hb dX0_take_32 rfl (lv_at hl 0 rfl) ?_
        refine lv_bipush (v := iI 64) hx hb dX0_take_33 (by decide) ?_
        refine gi_mul hx hb dX0_take_35 ?_
        refine lv_lconst (v := jJ 0) hx hb dX0_take_36 (by decide) ?_
        refine mj_ast S hG 42 42 rfl ec_42 (Nat.lt_of_lt_of_le (Nat.le_of_ble_eq_true rfl) hn) dX0_take_37 hg_46 (by decide) (fun H locs S_48 eS_48 hG => ?_)
        replace hM := nx_at hM eS_48
        clear eS_48
        refine lv_iinc (v := iI (v_2 + 1)) (lv' := [(2, .int (iI (v_2 + 1))), (0, .ref (b + 40))]) hx hb dX0_take_38 hl (k := 0) rfl ((iI_add v_2 (1)).trans (congrArg iI (by omega))) (by decide) rfl (fun ls hl => ?_)
        refine lv_goto (tgt := 7) hx hb dX0_take_41 (by decide) ?_
        exact ih_42 (v_2 + 1) S_48 H locs ls hM hG (lv_sub hl [0, 1] rfl)
  exact loop_41 FU 0 S_1 H locs ls hc_5 hG (lv_sub hl [0, 1] rfl)
theorem wV_11_152 : gWV "GrownKinds" 152 yX4_forget cX4_forget 1 none := ⟨wm_1081, wm_1082, wm_1083, wm_182, wm_1084, by decide +kernel, by decide +kernel⟩
def mX4_forget (S0 : St)  : Option (St) := nx (up S0 47 2 0) fun S_1 => nx (up S_1 47 3 0) fun S_2 => nx (up S_2 47 4 0) fun S_3 => some (S_3)
set_option maxHeartbeats 4000000 in
set_option maxRecDepth 100000 in
theorem vX4_forget (l : Launch) {D : va_G} {cy : Nat → ClassId} {b n : Nat} (hn : 102 ≤ n) {X : Nat → va_E} {S0 : St}  {o1 : St} (hM : mX4_forget S0  = some o1) : gV l yX4_forget cX4_forget 1 0 0 0 D cy b n (enc b cy X S0) [.ref (b + 47)] (fun u => u = (n, enc b cy X o1)) := by
  refine gV_of (by decide) (Nat.le_of_ble_eq_true rfl) ?_
  intro p e s m args below meth c S hr hlk hin hsz ls hl hG
  have hx := S.1
  have hb := S.2.1
  have hl : lv_has ls 1 [(0, .ref (b + 47))] := hl
  replace hG : gW D cy b n s s.heap [] (enc b cy X S0) := hG
  obtain ⟨H, eH⟩ : ∃ H, H = s.heap := ⟨_, rfl⟩
  obtain ⟨locs, elocs⟩ : ∃ locs : List Loc, locs = [] := ⟨_, rfl⟩
  rw [← eH, ← elocs] at hG
  rw [← eH, ← elocs]
  clear eH elocs
  unfold mX4_forget at hM
  refine lv_aload_n hx hb dX4_forget_0 rfl (lv_at hl 0 rfl) ?_
  refine lv_iconst (v := iI 0) hx hb dX4_forget_1 (by decide) ?_
  refine m_put S hG 47 47 2 rfl 2 0 ec_47 cpX4 wm_437 dX4_forget_2 (pf_47_2) (Nat.lt_of_lt_of_le (Nat.le_of_ble_eq_true rfl) hn) (by decide) (Nat.le_of_ble_eq_true rfl) rfl rfl rfl (fun H locs S_1 eS_1 hG => ?_)
  replace hM := nx_at hM eS_1
  clear eS_1
  refine lv_aload_n hx hb dX4_forget_5 rfl (lv_at hl 0 rfl) ?_
  refine lv_iconst (v := iI 0) hx hb dX4_forget_6 (by decide) ?_
  refine m_put S hG 47 47 3 rfl 3 0 ec_47 cpX4 wm_438 dX4_forget_7 (pf_47_3) (Nat.lt_of_lt_of_le (Nat.le_of_ble_eq_true rfl) hn) (by decide) (Nat.le_of_ble_eq_true rfl) rfl rfl rfl (fun H locs S_2 eS_2 hG => ?_)
  replace hM := nx_at hM eS_2
  clear eS_2
  refine lv_aload_n hx hb dX4_forget_10 rfl (lv_at hl 0 rfl) ?_
  refine lv_lconst (v := jJ 0) hx hb dX4_forget_11 (by decide) ?_
  refine m_put S hG 47 47 4 rfl 4 0 ec_47 cpX4 wm_439 dX4_forget_12 (pf_47_4) (Nat.lt_of_lt_of_le (Nat.le_of_ble_eq_true rfl) hn) (by decide) (Nat.le_of_ble_eq_true rfl) rfl rfl rfl (fun H locs S_3 eS_3 hG => ?_)
  replace hM := nx_at hM eS_3
  clear eS_3
  cases hM
  exact g_vret S hr hlk hG hsz dX4_forget_15 ⟨Nat.le_of_ble_eq_true rfl, Nat.le_of_ble_eq_true rfl⟩ rfl
theorem wV_11_155 : gWV "GrownKinds" 155 yX7_forget cX7_forget 1 none := ⟨wm_1085, wm_1086, wm_1087, wm_186, wm_1088, by decide +kernel, by decide +kernel⟩
def mX7_forget (S0 : St)  : Option (St) := nx (up S0 73 1 0) fun S_1 => some (S_1)
set_option maxHeartbeats 4000000 in
set_option maxRecDepth 100000 in
theorem vX7_forget (l : Launch) {D : va_G} {cy : Nat → ClassId} {b n : Nat} (hn : 102 ≤ n) {X : Nat → va_E} {S0 : St}  {o1 : St} (hM : mX7_forget S0  = some o1) : gV l yX7_forget cX7_forget 1 0 0 0 D cy b n (enc b cy X S0) [.ref (b + 71)] (fun u => u = (n, enc b cy X o1)) := by
  refine gV_of (by decide) (Nat.le_of_ble_eq_true rfl) ?_
  intro p e s m args below meth c S hr hlk hin hsz ls hl hG
  have hx := S.1
  have hb := S.2.1
  have hl : lv_has ls 1 [(0, .ref (b + 71))] := hl
  replace hG : gW D cy b n s s.heap [] (enc b cy X S0) := hG
  obtain ⟨H, eH⟩ : ∃ H, H = s.heap := ⟨_, rfl⟩
  obtain ⟨locs, elocs⟩ : ∃ locs : List Loc, locs = [] := ⟨_, rfl⟩
  rw [← eH, ← elocs] at hG
  rw [← eH, ← elocs]
  clear eH elocs
  unfold mX7_forget at hM
  refine lv_aload_n hx hb dX7_forget_0 rfl (lv_at hl 0 rfl) ?_
  refine lv_lconst (v := jJ 0) hx hb dX7_forget_1 (by decide) ?_
  refine m_put S hG 71 73 1 rfl 1 0 ec_73 cpX7 wm_605 dX7_forget_2 (pf_73_1) (Nat.lt_of_lt_of_le (Nat.le_of_ble_eq_true rfl) hn) (by decide) (Nat.le_of_ble_eq_true rfl) rfl rfl rfl (fun H locs S_1 eS_1 hG => ?_)
  replace hM := nx_at hM eS_1
  clear eS_1
  cases hM
  exact g_vret S hr hlk hG hsz dX7_forget_5 ⟨Nat.le_of_ble_eq_true rfl, Nat.le_of_ble_eq_true rfl⟩ rfl
def mX11_settle (S0 : St)  : Option (St) := nx (up S0 0 16 ((S0 0 16) + 1)) fun S_1 => bd1 (mX1_stop S_1) fun S_3 => bd1 (mX3_study_33 S_3) fun S_5 => bd1 (mX0_take_40 S_5 (-1)) fun S_7 => bd1 (mX4_forget S_7) fun S_9 => bd1 (mX7_forget S_9) fun S_11 => some (S_11)
set_option maxHeartbeats 4000000 in
set_option maxRecDepth 100000 in
theorem vX11_settle (l : Launch) {D : va_G} {cy : Nat → ClassId} {b n : Nat} (hn : 102 ≤ n) {X : Nat → va_E} {S0 : St}  {o1 : St} (hM : mX11_settle S0  = some o1) : gV l yX11_settle cX11_settle 1 6 0 0 D cy b n (enc b cy X S0) [.ref (b + 0)] (fun u => u = (n, enc b cy X o1)) := by
  refine gV_of (by decide) (Nat.le_of_ble_eq_true rfl) ?_
  intro p e s m args below meth c S hr hlk hin hsz ls hl hG
  have hx := S.1
  have hb := S.2.1
  have hl : lv_has ls 1 [(0, .ref (b + 0))] := hl
  replace hG : gW D cy b n s s.heap [] (enc b cy X S0) := hG
  obtain ⟨H, eH⟩ : ∃ H, H = s.heap := ⟨_, rfl⟩
  obtain ⟨locs, elocs⟩ : ∃ locs : List Loc, locs = [] := ⟨_, rfl⟩
  rw [← eH, ← elocs] at hG
  rw [← eH, ← elocs]
  clear eH elocs
  unfold mX11_settle at hM
  refine lv_aload_n hx hb dX11_settle_0 rfl (lv_at hl 0 rfl) ?_
  refine lv_dup hx hb dX11_settle_1 rfl ?_
  refine m_get S hG 0 0 16 rfl ec_0 cpX11 wm_681 dX11_settle_2 rfl (Nat.lt_of_lt_of_le (Nat.le_of_ble_eq_true rfl) hn) (by decide) ?_
  refine lv_iconst (v := iI 1) hx hb dX11_settle_5 (by decide) ?_
  refine gi_add hx hb dX11_settle_6 ?_
  refine m_put S hG 0 0 16 rfl 16 ((S0 0 16) + 1) ec_0 cpX11 wm_681 dX11_settle_7 (pf_0_16) (Nat.lt_of_lt_of_le (Nat.le_of_ble_eq_true rfl) hn) (by decide) (Nat.le_of_ble_eq_true rfl) rfl rfl rfl (fun H locs S_1 eS_1 hG => ?_)
  replace hM := nx_at hM eS_1
  clear eS_1
  refine lv_aload_n hx hb dX11_settle_10 rfl (lv_at hl 0 rfl) ?_
  refine m_get S hG 0 0 12 rfl ec_0 cpX11 wm_677 dX11_settle_11 rfl (Nat.lt_of_lt_of_le (Nat.le_of_ble_eq_true rfl) hn) (by decide) ?_
  obtain ⟨S_3, hc_2, hM⟩ := bd1_some hM
  refine g_vv (As := []) (rest := []) S hG hsz (vX1_stop l hn  hc_2) wV_11_143 (ec_80 _) cpX1 (Nat.lt_of_lt_of_le (Nat.le_of_ble_eq_true rfl) hn) dX11_settle_14 rfl hl.1 (ar := 0) (by decide +kernel) rfl ⟨Nat.le_of_ble_eq_true rfl, Nat.le_of_ble_eq_true rfl, Nat.le_of_ble_eq_true rfl, Nat.le_of_ble_eq_true rfl⟩ (Nat.le_of_ble_eq_true rfl) (fun uu H locs hp hG => ?_)
  obtain rfl := hp
  replace hG : gW D cy b n s H locs (enc b cy X S_3) := hG
  refine lv_aload_n hx hb dX11_settle_17 rfl (lv_at hl 0 rfl) ?_
  refine m_get S hG 0 0 6 rfl ec_0 cpX11 wm_671 dX11_settle_18 rfl (Nat.lt_of_lt_of_le (Nat.le_of_ble_eq_true rfl) hn) (by decide) ?_
  obtain ⟨S_5, hc_4, hM⟩ := bd1_some hM
  refine g_vv (As := []) (rest := []) S hG hsz (vX3_study_33 l hn  hc_4) wV_11_146 (ec_33 _) cpX3 (Nat.lt_of_lt_of_le (Nat.le_of_ble_eq_true rfl) hn) dX11_settle_21 rfl hl.1 (ar := 0) (by decide +kernel) rfl ⟨Nat.le_of_ble_eq_true rfl, Nat.le_of_ble_eq_true rfl, Nat.le_of_ble_eq_true rfl, Nat.le_of_ble_eq_true rfl⟩ (Nat.le_of_ble_eq_true rfl) (fun uu H locs hp hG => ?_)
  obtain rfl := hp
  replace hG : gW D cy b n s H locs (enc b cy X S_5) := hG
  refine lv_aload_n hx hb dX11_settle_24 rfl (lv_at hl 0 rfl) ?_
  refine m_get S hG 0 0 7 rfl ec_0 cpX11 wm_672 dX11_settle_25 rfl (Nat.lt_of_lt_of_le (Nat.le_of_ble_eq_true rfl) hn) (by decide) ?_
  refine lv_iconst (v := iI (-1)) hx hb dX11_settle_28 (by decide) ?_
  obtain ⟨S_7, hc_6, hM⟩ := bd1_some hM
  refine g_vv (As := [.int (iI (-1))]) (rest := []) S hG hsz (vX0_take_40 l hn (-1) hc_6) wV_11_149 (ec_40 _) cpX0 (Nat.lt_of_lt_of_le (Nat.le_of_ble_eq_true rfl) hn) dX11_settle_29 rfl hl.1 (ar := 1) (by decide +kernel) rfl ⟨Nat.le_of_ble_eq_true rfl, Nat.le_of_ble_eq_true rfl, Nat.le_of_ble_eq_true rfl, Nat.le_of_ble_eq_true rfl⟩ (Nat.le_of_ble_eq_true rfl) (fun uu H locs hp hG => ?_)
  obtain rfl := hp
  replace hG : gW D cy b n s H locs (enc b cy X S_7) := hG
  refine lv_aload_n hx hb dX11_settle_32 rfl (lv_at hl 0 rfl) ?_
  refine m_get S hG 0 0 8 rfl ec_0 cpX11 wm_673 dX11_settle_33 rfl (Nat.lt_of_lt_of_le (Nat.le_of_ble_eq_true rfl) hn) (by decide) ?_
  obtain ⟨S_9, hc_8, hM⟩ := bd1_some hM
  refine g_vv (As := []) (rest := []) S hG hsz (vX4_forget l hn  hc_8) wV_11_152 (ec_47 _) cpX4 (Nat.lt_of_lt_of_le (Nat.le_of_ble_eq_true rfl) hn) dX11_settle_36 rfl hl.1 (ar := 0) (by decide +kernel) rfl ⟨Nat.le_of_ble_eq_true rfl, Nat.le_of_ble_eq_true rfl, Nat.le_of_ble_eq_true rfl, Nat.le_of_ble_eq_true rfl⟩ (Nat.le_of_ble_eq_true rfl) (fun uu H locs hp hG => ?_)
  obtain rfl := hp
  replace hG : gW D cy b n s H locs (enc b cy X S_9) := hG
  refine lv_aload_n hx hb dX11_settle_39 rfl (lv_at hl 0 rfl) ?_
  refine m_get S hG 0 0 11 rfl ec_0 cpX11 wm_676 dX11_settle_40 rfl (Nat.lt_of_lt_of_le (Nat.le_of_ble_eq_true rfl) hn) (by decide) ?_
  obtain ⟨S_11, hc_10, hM⟩ := bd1_some hM
  refine g_vv (As := []) (rest := []) S hG hsz (vX7_forget l hn  hc_10) wV_11_155 (ec_73 _) cpX7 (Nat.lt_of_lt_of_le (Nat.le_of_ble_eq_true rfl) hn) dX11_settle_43 rfl hl.1 (ar := 0) (by decide +kernel) rfl ⟨Nat.le_of_ble_eq_true rfl, Nat.le_of_ble_eq_true rfl, Nat.le_of_ble_eq_true rfl, Nat.le_of_ble_eq_true rfl⟩ (Nat.le_of_ble_eq_true rfl) (fun uu H locs hp hG => ?_)
  obtain rfl := hp
  replace hG : gW D cy b n s H locs (enc b cy X S_11) := hG
  cases hM
  exact g_vret S hr hlk hG hsz dX11_settle_46 ⟨Nat.le_of_ble_eq_true rfl, Nat.le_of_ble_eq_true rfl⟩ rfl
theorem wV_11_124 : gWV "GrownKinds" 124 yX5_read cX5_read 4 (some .int) := ⟨wm_739, wm_740, wm_741, wm_179, wm_742, by decide +kernel, by decide +kernel⟩
theorem wV_11_137 : gWV "GrownKinds" 137 yX2_copy cX2_copy 2 none := ⟨wm_966, wm_967, wm_968, wm_178, wm_969, by decide +kernel, by decide +kernel⟩
def mX2_copy_2_13 (S0 : St)  : Option (St) := nx (up S0 2 0 (S0 13 0)) fun S_1 => nx (up S_1 2 1 (S_1 13 1)) fun S_2 => nx (up S_2 2 2 (S_2 13 2)) fun S_3 => nx (up S_3 2 3 (S_3 13 3)) fun S_4 => nx (up S_4 2 4 (S_4 13 4)) fun S_5 => nx (cpyS S_5 14 3 0 0 24) fun S_6 => nx (cpyS S_6 15 4 0 0 24) fun S_7 => nx (cpyS S_7 16 5 0 0 24) fun S_8 => nx (cpyS S_8 17 6 0 0 24) fun S_9 => nx (cpyS S_9 18 7 0 0 24) fun S_10 => nx (cpyS S_10 19 8 0 0 30) fun S_11 => nx (cpyS S_11 20 9 0 0 300) fun S_12 => nx (cpyS S_12 21 10 0 0 30) fun S_13 => nx (cpyS S_13 22 11 0 0 54) fun S_14 => some (S_14)
set_option maxHeartbeats 4000000 in
set_option maxRecDepth 100000 in
theorem vX2_copy_2_13 (l : Launch) {D : va_G} {cy : Nat → ClassId} {b n : Nat} (hn : 102 ≤ n) {X : Nat → va_E} {S0 : St}  {o1 : St} (hM : mX2_copy_2_13 S0  = some o1) : gV l yX2_copy cX2_copy 2 1 0 0 D cy b n (enc b cy X S0) [.ref (b + 2), .ref (b + 13)] (fun u => u = (n, enc b cy X o1)) := by
  refine gV_of (by decide) (Nat.le_of_ble_eq_true rfl) ?_
  intro p e s m args below meth c S hr hlk hin hsz ls hl hG
  have hx := S.1
  have hb := S.2.1
  have hl : lv_has ls 2 [(0, .ref (b + 2)), (1, .ref (b + 13))] := hl
  replace hG : gW D cy b n s s.heap [] (enc b cy X S0) := hG
  obtain ⟨H, eH⟩ : ∃ H, H = s.heap := ⟨_, rfl⟩
  obtain ⟨locs, elocs⟩ : ∃ locs : List Loc, locs = [] := ⟨_, rfl⟩
  rw [← eH, ← elocs] at hG
  rw [← eH, ← elocs]
  clear eH elocs
  unfold mX2_copy_2_13 at hM
  refine lv_aload_n hx hb dX2_copy_0 rfl (lv_at hl 0 rfl) ?_
  refine lv_aload_n hx hb dX2_copy_1 rfl (lv_at hl 1 rfl) ?_
  refine m_get S hG 13 13 0 rfl ec_13 cpX2 wm_212 dX2_copy_2 rfl (Nat.lt_of_lt_of_le (Nat.le_of_ble_eq_true rfl) hn) (by decide) ?_
  refine m_put S hG 2 2 0 rfl 0 (S0 13 0) ec_2 cpX2 wm_212 dX2_copy_5 (pf_2_0) (Nat.lt_of_lt_of_le (Nat.le_of_ble_eq_true rfl) hn) (by decide) (Nat.le_of_ble_eq_true rfl) rfl rfl rfl (fun H locs S_1 eS_1 hG => ?_)
  replace hM := nx_at hM eS_1
  clear eS_1
  refine lv_aload_n hx hb dX2_copy_8 rfl (lv_at hl 0 rfl) ?_
  refine lv_aload_n hx hb dX2_copy_9 rfl (lv_at hl 1 rfl) ?_
  refine m_get S hG 13 13 1 rfl ec_13 cpX2 wm_218 dX2_copy_10 rfl (Nat.lt_of_lt_of_le (Nat.le_of_ble_eq_true rfl) hn) (by decide) ?_
  refine m_put S hG 2 2 1 rfl 1 (S_1 13 1) ec_2 cpX2 wm_218 dX2_copy_13 (pf_2_1) (Nat.lt_of_lt_of_le (Nat.le_of_ble_eq_true rfl) hn) (by decide) (Nat.le_of_ble_eq_true rfl) rfl rfl rfl (fun H locs S_2 eS_2 hG => ?_)
  replace hM := nx_at hM eS_2
  clear eS_2
  refine lv_aload_n hx hb dX2_copy_16 rfl (lv_at hl 0 rfl) ?_
  refine lv_aload_n hx hb dX2_copy_17 rfl (lv_at hl 1 rfl) ?_
  refine m_get S hG 13 13 2 rfl ec_13 cpX2 wm_223 dX2_copy_18 rfl (Nat.lt_of_lt_of_le (Nat.le_of_ble_eq_true rfl) hn) (by decide) ?_
  refine m_put S hG 2 2 2 rfl 2 (S_2 13 2) ec_2 cpX2 wm_223 dX2_copy_21 (pf_2_2) (Nat.lt_of_lt_of_le (Nat.le_of_ble_eq_true rfl) hn) (by decide) (Nat.le_of_ble_eq_true rfl) rfl rfl rfl (fun H locs S_3 eS_3 hG => ?_)
  replace hM := nx_at hM eS_3
  clear eS_3
  refine lv_aload_n hx hb dX2_copy_24 rfl (lv_at hl 0 rfl) ?_
  refine lv_aload_n hx hb dX2_copy_25 rfl (lv_at hl 1 rfl) ?_
  refine m_get S hG 13 13 3 rfl ec_13 cpX2 wm_226 dX2_copy_26 rfl (Nat.lt_of_lt_of_le (Nat.le_of_ble_eq_true rfl) hn) (by decide) ?_
  refine m_put S hG 2 2 3 rfl 3 (S_3 13 3) ec_2 cpX2 wm_226 dX2_copy_29 (pf_2_3) (Nat.lt_of_lt_of_le (Nat.le_of_ble_eq_true rfl) hn) (by decide) (Nat.le_of_ble_eq_true rfl) rfl rfl rfl (fun H locs S_4 eS_4 hG => ?_)
  replace hM := nx_at hM eS_4
  clear eS_4
  refine lv_aload_n hx hb dX2_copy_32 rfl (lv_at hl 0 rfl) ?_
  refine lv_aload_n hx hb dX2_copy_33 rfl (lv_at hl 1 rfl) ?_
  refine m_get S hG 13 13 4 rfl ec_13 cpX2 wm_231 dX2_copy_34 rfl (Nat.lt_of_lt_of_le (Nat.le_of_ble_eq_true rfl) hn) (by decide) ?_
  refine m_put S hG 2 2 4 rfl 4 (S_4 13 4) ec_2 cpX2 wm_231 dX2_copy_37 (pf_2_4) (Nat.lt_of_lt_of_le (Nat.le_of_ble_eq_true rfl) hn) (by decide) (Nat.le_of_ble_eq_true rfl) rfl rfl rfl (fun H locs S_5 eS_5 hG => ?_)
  replace hM := nx_at hM eS_5
  clear eS_5
  refine lv_aload_n hx hb dX2_copy_40 rfl (lv_at hl 1 rfl) ?_
  refine m_get S hG 13 13 5 rfl ec_13 cpX2 wm_234 dX2_copy_41 rfl (Nat.lt_of_lt_of_le (Nat.le_of_ble_eq_true rfl) hn) (by decide) ?_
  refine lv_iconst (v := iI 0) hx hb dX2_copy_44 (by decide) ?_
  refine lv_aload_n hx hb dX2_copy_45 rfl (lv_at hl 0 rfl) ?_
  refine m_get S hG 2 2 5 rfl ec_2 cpX2 wm_234 dX2_copy_46 rfl (Nat.lt_of_lt_of_le (Nat.le_of_ble_eq_true rfl) hn) (by decide) ?_
  refine lv_iconst (v := iI 0) hx hb dX2_copy_49 (by decide) ?_
  refine lv_bipush (v := iI 24) hx hb dX2_copy_50 (by decide) ?_
  refine m_copyi (ty := .int) S hG wm_970 wm_972 wm_971 wm_195 hl.1 14 14 3 3 1 rfl rfl ec_14 ec_3 rfl rfl (Nat.lt_of_lt_of_le (Nat.le_of_ble_eq_true rfl) hn) (Nat.lt_of_lt_of_le (Nat.le_of_ble_eq_true rfl) hn) (by decide) (by decide) (fun _ _ => rfl) dX2_copy_52 ⟨Nat.le_of_ble_eq_true rfl, Nat.le_of_ble_eq_true rfl⟩ (fun H locs S_6 eS_6 hG => ?_)
  replace hM := nx_at hM eS_6
  clear eS_6
  refine lv_aload_n hx hb dX2_copy_55 rfl (lv_at hl 1 rfl) ?_
  refine m_get S hG 13 13 6 rfl ec_13 cpX2 wm_240 dX2_copy_56 rfl (Nat.lt_of_lt_of_le (Nat.le_of_ble_eq_true rfl) hn) (by decide) ?_
  refine lv_iconst (v := iI 0) hx hb dX2_copy_59 (by decide) ?_
  refine lv_aload_n hx hb dX2_copy_60 rfl (lv_at hl 0 rfl) ?_
  refine m_get S hG 2 2 6 rfl ec_2 cpX2 wm_240 dX2_copy_61 rfl (Nat.lt_of_lt_of_le (Nat.le_of_ble_eq_true rfl) hn) (by decide) ?_
  refine lv_iconst (v := iI 0) hx hb dX2_copy_64 (by decide) ?_
  refine lv_bipush (v := iI 24) hx hb dX2_copy_65 (by decide) ?_
  refine m_copyi (ty := .int) S hG wm_970 wm_972 wm_971 wm_195 hl.1 15 15 4 4 1 rfl rfl ec_15 ec_4 rfl rfl (Nat.lt_of_lt_of_le (Nat.le_of_ble_eq_true rfl) hn) (Nat.lt_of_lt_of_le (Nat.le_of_ble_eq_true rfl) hn) (by decide) (by decide) (fun _ _ => rfl) dX2_copy_67 ⟨Nat.le_of_ble_eq_true rfl, Nat.le_of_ble_eq_true rfl⟩ (fun H locs S_7 eS_7 hG => ?_)
  replace hM := nx_at hM eS_7
  clear eS_7
  refine lv_aload_n hx hb dX2_copy_70 rfl (lv_at hl 1 rfl) ?_
  refine m_get S hG 13 13 7 rfl ec_13 cpX2 wm_247 dX2_copy_71 rfl (Nat.lt_of_lt_of_le (Nat.le_of_ble_eq_true rfl) hn) (by decide) ?_
  refine lv_iconst (v := iI 0) hx hb dX2_copy_74 (by decide) ?_
  refine lv_aload_n hx hb dX2_copy_75 rfl (lv_at hl 0 rfl) ?_
  refine m_get S hG 2 2 7 rfl ec_2 cpX2 wm_247 dX2_copy_76 rfl (Nat.lt_of_lt_of_le (Nat.le_of_ble_eq_true rfl) hn) (by decide) ?_
  refine lv_iconst (v := iI 0) hx hb dX2_copy_79 (by decide) ?_
  refine lv_bipush (v := iI 24) hx hb dX2_copy_80 (by decide) ?_
  refine m_copyi (ty := .int) S hG wm_970 wm_972 wm_971 wm_195 hl.1 16 16 5 5 1 rfl rfl ec_16 ec_5 rfl rfl (Nat.lt_of_lt_of_le (Nat.le_of_ble_eq_true rfl) hn) (Nat.lt_of_lt_of_le (Nat.le_of_ble_eq_true rfl) hn) (by decide) (by decide) (fun _ _ => rfl) dX2_copy_82 ⟨Nat.le_of_ble_eq_true rfl, Nat.le_of_ble_eq_true rfl⟩ (fun H locs S_8 eS_8 hG => ?_)
  replace hM := nx_at hM eS_8
  clear eS_8
  refine lv_aload_n hx hb dX2_copy_85 rfl (lv_at hl 1 rfl) ?_
  refine m_get S hG 13 13 8 rfl ec_13 cpX2 wm_254 dX2_copy_86 rfl (Nat.lt_of_lt_of_le (Nat.le_of_ble_eq_true rfl) hn) (by decide) ?_
  refine lv_iconst (v := iI 0) hx hb dX2_copy_89 (by decide) ?_
  refine lv_aload_n hx hb dX2_copy_90 rfl (lv_at hl 0 rfl) ?_
  refine m_get S hG 2 2 8 rfl ec_2 cpX2 wm_254 dX2_copy_91 rfl (Nat.lt_of_lt_of_le (Nat.le_of_ble_eq_true rfl) hn) (by decide) ?_
  refine lv_iconst (v := iI 0) hx hb dX2_copy_94 (by decide) ?_
  refine lv_bipush (v := iI 24) hx hb dX2_copy_95 (by decide) ?_
  refine m_copyi (ty := .int) S hG wm_970 wm_972 wm_971 wm_195 hl.1 17 17 6 6 1 rfl rfl ec_17 ec_6 rfl rfl (Nat.lt_of_lt_of_le (Nat.le_of_ble_eq_true rfl) hn) (Nat.lt_of_lt_of_le (Nat.le_of_ble_eq_true rfl) hn) (by decide) (by decide) (fun _ _ => rfl) dX2_copy_97 ⟨Nat.le_of_ble_eq_true rfl, Nat.le_of_ble_eq_true rfl⟩ (fun H locs S_9 eS_9 hG => ?_)
  replace hM := nx_at hM eS_9
  clear eS_9
  refine lv_aload_n hx hb dX2_copy_100 rfl (lv_at hl 1 rfl) ?_
  refine m_get S hG 13 13 9 rfl ec_13 cpX2 wm_260 dX2_copy_101 rfl (Nat.lt_of_lt_of_le (Nat.le_of_ble_eq_true rfl) hn) (by decide) ?_
  refine lv_iconst (v := iI 0) hx hb dX2_copy_104 (by decide) ?_
  refine lv_aload_n hx hb dX2_copy_105 rfl (lv_at hl 0 rfl) ?_
  refine m_get S hG 2 2 9 rfl ec_2 cpX2 wm_260 dX2_copy_106 rfl (Nat.lt_of_lt_of_le (Nat.le_of_ble_eq_true rfl) hn) (by decide) ?_
  refine lv_iconst (v := iI 0) hx hb dX2_copy_109 (by decide) ?_
  refine lv_bipush (v := iI 24) hx hb dX2_copy_110 (by decide) ?_
  refine m_copyi (ty := .int) S hG wm_970 wm_972 wm_971 wm_195 hl.1 18 18 7 7 1 rfl rfl ec_18 ec_7 rfl rfl (Nat.lt_of_lt_of_le (Nat.le_of_ble_eq_true rfl) hn) (Nat.lt_of_lt_of_le (Nat.le_of_ble_eq_true rfl) hn) (by decide) (by decide) (fun _ _ => rfl) dX2_copy_112 ⟨Nat.le_of_ble_eq_true rfl, Nat.le_of_ble_eq_true rfl⟩ (fun H locs S_10 eS_10 hG => ?_)
  replace hM := nx_at hM eS_10
  clear eS_10
  refine lv_aload_n hx hb dX2_copy_115 rfl (lv_at hl 1 rfl) ?_
  refine m_get S hG 13 13 10 rfl ec_13 cpX2 wm_262 dX2_copy_116 rfl (Nat.lt_of_lt_of_le (Nat.le_of_ble_eq_true rfl) hn) (by decide) ?_
  refine lv_iconst (v := iI 0) hx hb dX2_copy_119 (by decide) ?_
  refine lv_aload_n hx hb dX2_copy_120 rfl (lv_at hl 0 rfl) ?_
  refine m_get S hG 2 2 10 rfl ec_2 cpX2 wm_262 dX2_copy_121 rfl (Nat.lt_of_lt_of_le (Nat.le_of_ble_eq_true rfl) hn) (by decide) ?_
  refine lv_iconst (v := iI 0) hx hb dX2_copy_124 (by decide) ?_
  refine lv_bipush (v := iI 30) hx hb dX2_copy_125 (by decide) ?_
  refine m_copyi (ty := .int) S hG wm_970 wm_972 wm_971 wm_195 hl.1 19 19 8 8 1 rfl rfl ec_19 ec_8 rfl rfl (Nat.lt_of_lt_of_le (Nat.le_of_ble_eq_true rfl) hn) (Nat.lt_of_lt_of_le (Nat.le_of_ble_eq_true rfl) hn) (by decide) (by decide) (fun _ _ => rfl) dX2_copy_127 ⟨Nat.le_of_ble_eq_true rfl, Nat.le_of_ble_eq_true rfl⟩ (fun H locs S_11 eS_11 hG => ?_)
  replace hM := nx_at hM eS_11
  clear eS_11
  refine lv_aload_n hx hb dX2_copy_130 rfl (lv_at hl 1 rfl) ?_
  refine m_get S hG 13 13 11 rfl ec_13 cpX2 wm_269 dX2_copy_131 rfl (Nat.lt_of_lt_of_le (Nat.le_of_ble_eq_true rfl) hn) (by decide) ?_
  refine lv_iconst (v := iI 0) hx hb dX2_copy_134 (by decide) ?_
  refine lv_aload_n hx hb dX2_copy_135 rfl (lv_at hl 0 rfl) ?_
  refine m_get S hG 2 2 11 rfl ec_2 cpX2 wm_269 dX2_copy_136 rfl (Nat.lt_of_lt_of_le (Nat.le_of_ble_eq_true rfl) hn) (by decide) ?_
  refine lv_iconst (v := iI 0) hx hb dX2_copy_139 (by decide) ?_
  refine lv_sipush (v := iI 300) hx hb dX2_copy_140 (by decide) ?_
  refine m_copyi (ty := .int) S hG wm_970 wm_972 wm_971 wm_195 hl.1 20 20 9 9 1 rfl rfl ec_20 ec_9 rfl rfl (Nat.lt_of_lt_of_le (Nat.le_of_ble_eq_true rfl) hn) (Nat.lt_of_lt_of_le (Nat.le_of_ble_eq_true rfl) hn) (by decide) (by decide) (fun _ _ => rfl) dX2_copy_143 ⟨Nat.le_of_ble_eq_true rfl, Nat.le_of_ble_eq_true rfl⟩ (fun H locs S_12 eS_12 hG => ?_)
  replace hM := nx_at hM eS_12
  clear eS_12
  refine lv_aload_n hx hb dX2_copy_146 rfl (lv_at hl 1 rfl) ?_
  refine m_get S hG 13 13 12 rfl ec_13 cpX2 wm_271 dX2_copy_147 rfl (Nat.lt_of_lt_of_le (Nat.le_of_ble_eq_true rfl) hn) (by decide) ?_
  refine lv_iconst (v := iI 0) hx hb dX2_copy_150 (by decide) ?_
  refine lv_aload_n hx hb dX2_copy_151 rfl (lv_at hl 0 rfl) ?_
  refine m_get S hG 2 2 12 rfl ec_2 cpX2 wm_271 dX2_copy_152 rfl (Nat.lt_of_lt_of_le (Nat.le_of_ble_eq_true rfl) hn) (by decide) ?_
  refine lv_iconst (v := iI 0) hx hb dX2_copy_155 (by decide) ?_
  refine lv_bipush (v := iI 30) hx hb dX2_copy_156 (by decide) ?_
  refine m_copyi (ty := .int) S hG wm_970 wm_972 wm_971 wm_195 hl.1 21 21 10 10 1 rfl rfl ec_21 ec_10 rfl rfl (Nat.lt_of_lt_of_le (Nat.le_of_ble_eq_true rfl) hn) (Nat.lt_of_lt_of_le (Nat.le_of_ble_eq_true rfl) hn) (by decide) (by decide) (fun _ _ => rfl) dX2_copy_158 ⟨Nat.le_of_ble_eq_true rfl, Nat.le_of_ble_eq_true rfl⟩ (fun H locs S_13 eS_13 hG => ?_)
  replace hM := nx_at hM eS_13
  clear eS_13
  refine lv_aload_n hx hb dX2_copy_161 rfl (lv_at hl 1 rfl) ?_
  refine m_get S hG 13 13 13 rfl ec_13 cpX2 wm_273 dX2_copy_162 rfl (Nat.lt_of_lt_of_le (Nat.le_of_ble_eq_true rfl) hn) (by decide) ?_
  refine lv_iconst (v := iI 0) hx hb dX2_copy_165 (by decide) ?_
  refine lv_aload_n hx hb dX2_copy_166 rfl (lv_at hl 0 rfl) ?_
  refine m_get S hG 2 2 13 rfl ec_2 cpX2 wm_273 dX2_copy_167 rfl (Nat.lt_of_lt_of_le (Nat.le_of_ble_eq_true rfl) hn) (by decide) ?_
  refine lv_iconst (v := iI 0) hx hb dX2_copy_170 (by decide) ?_
  refine lv_bipush (v := iI 54) hx hb dX2_copy_171 (by decide) ?_
  refine m_copyi (ty := .int) S hG wm_970 wm_972 wm_971 wm_195 hl.1 22 22 11 11 1 rfl rfl ec_22 ec_11 rfl rfl (Nat.lt_of_lt_of_le (Nat.le_of_ble_eq_true rfl) hn) (Nat.lt_of_lt_of_le (Nat.le_of_ble_eq_true rfl) hn) (by decide) (by decide) (fun _ _ => rfl) dX2_copy_173 ⟨Nat.le_of_ble_eq_true rfl, Nat.le_of_ble_eq_true rfl⟩ (fun H locs S_14 eS_14 hG => ?_)
  replace hM := nx_at hM eS_14
  clear eS_14
  cases hM
  exact g_vret S hr hlk hG hsz dX2_copy_176 ⟨Nat.le_of_ble_eq_true rfl, Nat.le_of_ble_eq_true rfl⟩ rfl
theorem wV_11_140 : gWV "GrownKinds" 140 yX11_settle cX11_settle 1 none := ⟨wm_973, wm_975, wm_29, wm_177, wm_976, by decide +kernel, by decide +kernel⟩
def mX11_grammar (S0 : St)  : Option (Int × St) := bd2 (mX5_read_12_1 S0 (S0 0 1)) fun r_2 S_3 => nx (up S_3 0 1 0) fun S_4 => nx (up S_4 0 4 (S_4 12 1)) fun S_5 => nx (up S_5 0 5 (S_5 12 2)) fun S_6 => gd (inI (S_6 0 4)) <| if (S_6 0 4) = 0 then (bd1 (mX2_copy_2_13 S_6) fun S_10 => nx (up S_10 0 15 0) fun S_11 => bd1 (mX11_settle S_11) fun S_13 => some (r_2, S_13)) else (some ((-4), S_6))
set_option maxHeartbeats 4000000 in
set_option maxRecDepth 100000 in
theorem vX11_grammar (l : Launch) {D : va_G} {cy : Nat → ClassId} {b n : Nat} (hn : 102 ≤ n) {X : Nat → va_E} {S0 : St}  {o1 : Int} {o2 : St} (hM : mX11_grammar S0  = some (o1, o2)) : gI l yX11_grammar cX11_grammar 2 (some .int) 49 0 0 D cy b n (enc b cy X S0) [.ref (b + 0)] (fun r u => r = iI o1 ∧ u = (n, enc b cy X o2)) := by
  refine gI_of (by decide) (Nat.le_of_ble_eq_true rfl) ?_
  intro p e s m args below meth c S hr hlk hin hsz ls hl hG
  have hx := S.1
  have hb := S.2.1
  have hl : lv_has ls 2 [(0, .ref (b + 0))] := hl
  replace hG : gW D cy b n s s.heap [] (enc b cy X S0) := hG
  obtain ⟨H, eH⟩ : ∃ H, H = s.heap := ⟨_, rfl⟩
  obtain ⟨locs, elocs⟩ : ∃ locs : List Loc, locs = [] := ⟨_, rfl⟩
  rw [← eH, ← elocs] at hG
  rw [← eH, ← elocs]
  clear eH elocs
  unfold mX11_grammar at hM
  refine lv_aload_n hx hb dX11_grammar_0 rfl (lv_at hl 0 rfl) ?_
  refine m_get S hG 0 0 3 rfl ec_0 cpX11 wm_668 dX11_grammar_1 rfl (Nat.lt_of_lt_of_le (Nat.le_of_ble_eq_true rfl) hn) (by decide) ?_
  refine lv_aload_n hx hb dX11_grammar_4 rfl (lv_at hl 0 rfl) ?_
  refine m_get S hG 0 0 0 rfl ec_0 cpX11 wm_665 dX11_grammar_5 rfl (Nat.lt_of_lt_of_le (Nat.le_of_ble_eq_true rfl) hn) (by decide) ?_
  refine lv_aload_n hx hb dX11_grammar_8 rfl (lv_at hl 0 rfl) ?_
  refine m_get S hG 0 0 1 rfl ec_0 cpX11 wm_666 dX11_grammar_9 rfl (Nat.lt_of_lt_of_le (Nat.le_of_ble_eq_true rfl) hn) (by decide) ?_
  obtain ⟨r_2, S_3, hc_1, hM⟩ := bd2_some hM
  refine g_vi (As := [.ref (b + 1), .int (iI (S0 0 1))]) (rest := []) S hG hsz (vX5_read_12_1 l hn (S0 0 1) hc_1) wV_11_124 (ec_12 _) cpX5 (Nat.lt_of_lt_of_le (Nat.le_of_ble_eq_true rfl) hn) dX11_grammar_12 rfl hl.1 (ar := 2) (by decide +kernel) rfl ⟨Nat.le_of_ble_eq_true rfl, Nat.le_of_ble_eq_true rfl, Nat.le_of_ble_eq_true rfl, Nat.le_of_ble_eq_true rfl⟩ (Nat.le_of_ble_eq_true rfl) (fun rv uu H locs hp hG => ?_)
  obtain ⟨rfl, rfl⟩ := hp
  replace hG : gW D cy b n s H locs (enc b cy X S_3) := hG
  refine lv_istore_n (lv' := [(1, .int (iI r_2)), (0, .ref (b + 0))]) hx hb dX11_grammar_15 rfl hl (by decide) rfl (fun ls hl => ?_)
  refine lv_aload_n hx hb dX11_grammar_16 rfl (lv_at hl 1 rfl) ?_
  refine lv_iconst (v := iI 0) hx hb dX11_grammar_17 (by decide) ?_
  refine m_put S hG 0 0 1 rfl 1 0 ec_0 cpX11 wm_666 dX11_grammar_18 (pf_0_1) (Nat.lt_of_lt_of_le (Nat.le_of_ble_eq_true rfl) hn) (by decide) (Nat.le_of_ble_eq_true rfl) rfl rfl rfl (fun H locs S_4 eS_4 hG => ?_)
  replace hM := nx_at hM eS_4
  clear eS_4
  refine lv_aload_n hx hb dX11_grammar_21 rfl (lv_at hl 1 rfl) ?_
  refine lv_aload_n hx hb dX11_grammar_22 rfl (lv_at hl 1 rfl) ?_
  refine m_get S hG 0 0 3 rfl ec_0 cpX11 wm_668 dX11_grammar_23 rfl (Nat.lt_of_lt_of_le (Nat.le_of_ble_eq_true rfl) hn) (by decide) ?_
  refine m_get S hG 12 12 1 rfl ec_12 cpX5 wm_355 dX11_grammar_26 rfl (Nat.lt_of_lt_of_le (Nat.le_of_ble_eq_true rfl) hn) (by decide) ?_
  refine m_put S hG 0 0 4 rfl 4 (S_4 12 1) ec_0 cpX11 wm_669 dX11_grammar_29 (pf_0_4) (Nat.lt_of_lt_of_le (Nat.le_of_ble_eq_true rfl) hn) (by decide) (Nat.le_of_ble_eq_true rfl) rfl rfl rfl (fun H locs S_5 eS_5 hG => ?_)
  replace hM := nx_at hM eS_5
  clear eS_5
  refine lv_aload_n hx hb dX11_grammar_32 rfl (lv_at hl 1 rfl) ?_
  refine lv_aload_n hx hb dX11_grammar_33 rfl (lv_at hl 1 rfl) ?_
  refine m_get S hG 0 0 3 rfl ec_0 cpX11 wm_668 dX11_grammar_34 rfl (Nat.lt_of_lt_of_le (Nat.le_of_ble_eq_true rfl) hn) (by decide) ?_
  refine m_get S hG 12 12 2 rfl ec_12 cpX5 wm_357 dX11_grammar_37 rfl (Nat.lt_of_lt_of_le (Nat.le_of_ble_eq_true rfl) hn) (by decide) ?_
  refine m_put S hG 0 0 5 rfl 5 (S_5 12 2) ec_0 cpX11 wm_670 dX11_grammar_40 (pf_0_5) (Nat.lt_of_lt_of_le (Nat.le_of_ble_eq_true rfl) hn) (by decide) (Nat.le_of_ble_eq_true rfl) rfl rfl rfl (fun H locs S_6 eS_6 hG => ?_)
  replace hM := nx_at hM eS_6
  clear eS_6
  refine lv_aload_n hx hb dX11_grammar_43 rfl (lv_at hl 1 rfl) ?_
  refine m_get S hG 0 0 4 rfl ec_0 cpX11 wm_669 dX11_grammar_44 rfl (Nat.lt_of_lt_of_le (Nat.le_of_ble_eq_true rfl) hn) (by decide) ?_
  obtain ⟨hg_7, hM⟩ := gd_some hM
  refine gi_if_eq (tgt := 53) hx hb dX11_grammar_47 (by decide) hg_7 (fun c_8 => ?_) (fun c_8 => ?_)
  · replace hM := ifp hM c_8
    refine lv_aload_n hx hb dX11_grammar_53 rfl (lv_at hl 1 rfl) ?_
    refine m_get S hG 0 0 2 rfl ec_0 cpX11 wm_667 dX11_grammar_54 rfl (Nat.lt_of_lt_of_le (Nat.le_of_ble_eq_true rfl) hn) (by decide) ?_
    refine lv_aload_n hx hb dX11_grammar_57 rfl (lv_at hl 1 rfl) ?_
    refine m_get S hG 0 0 3 rfl ec_0 cpX11 wm_668 dX11_grammar_58 rfl (Nat.lt_of_lt_of_le (Nat.le_of_ble_eq_true rfl) hn) (by decide) ?_
    refine m_get S hG 12 12 0 rfl ec_12 cpX5 wm_353 dX11_grammar_61 rfl (Nat.lt_of_lt_of_le (Nat.le_of_ble_eq_true rfl) hn) (by decide) ?_
    obtain ⟨S_10, hc_9, hM⟩ := bd1_some hM
    refine g_vv (As := [.ref (b + 13)]) (rest := []) S hG hsz (vX2_copy_2_13 l hn  hc_9) wV_11_137 (ec_2 _) cpX2 (Nat.lt_of_lt_of_le (Nat.le_of_ble_eq_true rfl) hn) dX11_grammar_64 rfl hl.1 (ar := 1) (by decide +kernel) rfl ⟨Nat.le_of_ble_eq_true rfl, Nat.le_of_ble_eq_true rfl, Nat.le_of_ble_eq_true rfl, Nat.le_of_ble_eq_true rfl⟩ (Nat.le_of_ble_eq_true rfl) (fun uu H locs hp hG => ?_)
    obtain rfl := hp
    replace hG : gW D cy b n s H locs (enc b cy X S_10) := hG
    refine lv_aload_n hx hb dX11_grammar_67 rfl (lv_at hl 1 rfl) ?_
    refine lv_iconst (v := iI 0) hx hb dX11_grammar_68 (by decide) ?_
    refine m_put S hG 0 0 15 rfl 15 0 ec_0 cpX11 wm_680 dX11_grammar_69 (pf_0_15) (Nat.lt_of_lt_of_le (Nat.le_of_ble_eq_true rfl) hn) (by decide) (Nat.le_of_ble_eq_true rfl) rfl rfl rfl (fun H locs S_11 eS_11 hG => ?_)
    replace hM := nx_at hM eS_11
    clear eS_11
    refine lv_aload_n hx hb dX11_grammar_72 rfl (lv_at hl 1 rfl) ?_
    obtain ⟨S_13, hc_12, hM⟩ := bd1_some hM
    refine g_vv (As := []) (rest := []) S hG hsz (vX11_settle l hn  hc_12) wV_11_140 (ec_0 _) cpX11 (Nat.lt_of_lt_of_le (Nat.le_of_ble_eq_true rfl) hn) dX11_grammar_73 rfl hl.1 (ar := 0) (by decide +kernel) rfl ⟨Nat.le_of_ble_eq_true rfl, Nat.le_of_ble_eq_true rfl, Nat.le_of_ble_eq_true rfl, Nat.le_of_ble_eq_true rfl⟩ (Nat.le_of_ble_eq_true rfl) (fun uu H locs hp hG => ?_)
    obtain rfl := hp
    replace hG : gW D cy b n s H locs (enc b cy X S_13) := hG
    refine lv_iload_n hx hb dX11_grammar_76 rfl (lv_at hl 0 rfl) ?_
    cases hM
    exact g_iret S hr hlk hG hsz dX11_grammar_77 ⟨Nat.le_of_ble_eq_true rfl, Nat.le_of_ble_eq_true rfl⟩ ⟨rfl, rfl⟩
  · replace hM := ifn hM c_8
    refine lv_bipush (v := iI (-4)) hx hb dX11_grammar_50 (by decide) ?_
    cases hM
    exact g_iret S hr hlk hG hsz dX11_grammar_52 ⟨Nat.le_of_ble_eq_true rfl, Nat.le_of_ble_eq_true rfl⟩ ⟨rfl, rfl⟩
