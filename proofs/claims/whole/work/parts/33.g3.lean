theorem dX11_spelling_0 : decode cX11_spelling 0 = .ok (.aload_n 0, 1) := by decide +kernel
theorem dX11_spelling_1 : decode cX11_spelling 1 = .ok (.iload_n 1, 1) := by decide +kernel
theorem dX11_spelling_2 : decode cX11_spelling 2 = .ok (.iload_n 2, 1) := by decide +kernel
theorem dX11_spelling_3 : decode cX11_spelling 3 = .ok (.invokevirtual 251, 3) := by decide +kernel
theorem dX11_spelling_6 : decode cX11_spelling 6 = .ok (.istore 4, 2) := by decide +kernel
theorem dX11_spelling_8 : decode cX11_spelling 8 = .ok (.iload 4, 2) := by decide +kernel
theorem dX11_spelling_10 : decode cX11_spelling 10 = .ok (.ifCond .eq 6, 3) := by decide +kernel
theorem dX11_spelling_16 : decode cX11_spelling 16 = .ok (.iload_n 3, 1) := by decide +kernel
theorem dX11_spelling_17 : decode cX11_spelling 17 = .ok (.ifCond .lt 18, 3) := by decide +kernel
theorem dX11_spelling_35 : decode cX11_spelling 35 = .ok (.bipush (-2), 2) := by decide +kernel
theorem dX11_spelling_37 : decode cX11_spelling 37 = .ok (.ireturn, 1) := by decide +kernel
theorem dX11_spelling_20 : decode cX11_spelling 20 = .ok (.iload_n 3, 1) := by decide +kernel
theorem dX11_spelling_21 : decode cX11_spelling 21 = .ok (.i2l, 1) := by decide +kernel
theorem dX11_spelling_22 : decode cX11_spelling 22 = .ok (.aload_n 0, 1) := by decide +kernel
theorem dX11_spelling_23 : decode cX11_spelling 23 = .ok (.getfield 51, 3) := by decide +kernel
theorem dX11_spelling_26 : decode cX11_spelling 26 = .ok (.iload_n 1, 1) := by decide +kernel
theorem dX11_spelling_27 : decode cX11_spelling 27 = .ok (.iload_n 2, 1) := by decide +kernel
theorem dX11_spelling_28 : decode cX11_spelling 28 = .ok (.invokevirtual 206, 3) := by decide +kernel
theorem dX11_spelling_31 : decode cX11_spelling 31 = .ok (.lcmp, 1) := by decide +kernel
theorem dX11_spelling_32 : decode cX11_spelling 32 = .ok (.ifCond .lt 6, 3) := by decide +kernel
theorem dX11_spelling_38 : decode cX11_spelling 38 = .ok (.aload_n 0, 1) := by decide +kernel
theorem dX11_spelling_39 : decode cX11_spelling 39 = .ok (.getfield 72, 3) := by decide +kernel
theorem dX11_spelling_42 : decode cX11_spelling 42 = .ok (.iload_n 1, 1) := by decide +kernel
theorem dX11_spelling_43 : decode cX11_spelling 43 = .ok (.iload_n 2, 1) := by decide +kernel
theorem dX11_spelling_44 : decode cX11_spelling 44 = .ok (.iload_n 3, 1) := by decide +kernel
theorem dX11_spelling_45 : decode cX11_spelling 45 = .ok (.aload_n 0, 1) := by decide +kernel
theorem dX11_spelling_46 : decode cX11_spelling 46 = .ok (.getfield 111, 3) := by decide +kernel
theorem dX11_spelling_49 : decode cX11_spelling 49 = .ok (.invokevirtual 255, 3) := by decide +kernel
theorem wm_1274 : (Jvm.Cond.methodLink "GrownKinds" (255 : Nat) ({ cls := "GrownKinds$Speller", name := "spell", desc := "(IIII)V" } : Jvm.MethodName)) ∈ gT := gT_in (List.mem_of_getElem? (i := 1274) (by decide +kernel)) (by decide +kernel)
theorem wm_1275 : (Jvm.Cond.instanceMethod ({ cls := "GrownKinds$Speller", name := "spell", desc := "(IIII)V" } : Jvm.MethodName)) ∈ gT := gT_in (List.mem_of_getElem? (i := 1275) (by decide +kernel)) (by decide +kernel)
theorem wm_1276 : (Jvm.Cond.selects "GrownKinds$Speller" ({ cls := "GrownKinds$Speller", name := "spell", desc := "(IIII)V" } : Jvm.MethodName) ({ cls := "GrownKinds$Speller", name := "spell", desc := "(IIII)V" } : Jvm.MethodName)) ∈ gT := gT_in (List.mem_of_getElem? (i := 1276) (by decide +kernel)) (by decide +kernel)
theorem wm_1277 : (Jvm.Cond.code ({ cls := "GrownKinds$Speller", name := "spell", desc := "(IIII)V" } : Jvm.MethodName) prog_11_method_4_code (8 : Nat) (Option.none : Option Jvm.ClassFile.FieldType)) ∈ gT := gT_in (List.mem_of_getElem? (i := 1277) (by decide +kernel)) (by decide +kernel)
theorem dX11_spelling_52 : decode cX11_spelling 52 = .ok (.iconst 0, 1) := by decide +kernel
theorem dX11_spelling_53 : decode cX11_spelling 53 = .ok (.ireturn, 1) := by decide +kernel
theorem dX11_spelling_13 : decode cX11_spelling 13 = .ok (.iload 4, 2) := by decide +kernel
theorem dX11_spelling_15 : decode cX11_spelling 15 = .ok (.ireturn, 1) := by decide +kernel
theorem dX11_length_0 : decode cX11_length 0 = .ok (.aload_n 0, 1) := by decide +kernel
theorem dX11_length_1 : decode cX11_length 1 = .ok (.iload_n 1, 1) := by decide +kernel
theorem dX11_length_2 : decode cX11_length 2 = .ok (.iload_n 2, 1) := by decide +kernel
theorem dX11_length_3 : decode cX11_length 3 = .ok (.iload_n 3, 1) := by decide +kernel
theorem dX11_length_4 : decode cX11_length 4 = .ok (.invokevirtual 259, 3) := by decide +kernel
theorem wm_1265 : (Jvm.Cond.methodLink "GrownKinds" (259 : Nat) ({ cls := "GrownKinds", name := "spelling", desc := "(III)I" } : Jvm.MethodName)) ∈ gT := gT_in (List.mem_of_getElem? (i := 1265) (by decide +kernel)) (by decide +kernel)
theorem wm_1267 : (Jvm.Cond.instanceMethod ({ cls := "GrownKinds", name := "spelling", desc := "(III)I" } : Jvm.MethodName)) ∈ gT := gT_in (List.mem_of_getElem? (i := 1267) (by decide +kernel)) (by decide +kernel)
theorem wm_54 : Cond.selects "GrownKinds" ⟨"GrownKinds", "spelling", "(III)I"⟩ ⟨"GrownKinds", "spelling", "(III)I"⟩ ∈ gT := gT_in (List.mem_of_getElem? (i := 54) (by decide +kernel)) (by decide +kernel)
theorem wm_1268 : (Jvm.Cond.code ({ cls := "GrownKinds", name := "spelling", desc := "(III)I" } : Jvm.MethodName) prog_1_method_33_code (5 : Nat) (Option.some Jvm.ClassFile.FieldType.int)) ∈ gT := gT_in (List.mem_of_getElem? (i := 1268) (by decide +kernel)) (by decide +kernel)
theorem dX11_length_7 : decode cX11_length 7 = .ok (.istore 4, 2) := by decide +kernel
theorem dX11_length_9 : decode cX11_length 9 = .ok (.iload 4, 2) := by decide +kernel
theorem dX11_length_11 : decode cX11_length 11 = .ok (.ifCond .eq 8, 3) := by decide +kernel
theorem dX11_length_19 : decode cX11_length 19 = .ok (.aload_n 0, 1) := by decide +kernel
theorem dX11_length_20 : decode cX11_length 20 = .ok (.getfield 72, 3) := by decide +kernel
theorem dX11_length_23 : decode cX11_length 23 = .ok (.getfield 263, 3) := by decide +kernel
theorem wm_501 : (Jvm.Cond.fieldLink "GrownKinds" (263 : Nat) "GrownKinds$Speller" "signs" "I") ∈ gT := gT_in (List.mem_of_getElem? (i := 501) (by decide +kernel)) (by decide +kernel)
theorem dX11_length_26 : decode cX11_length 26 = .ok (.ireturn, 1) := by decide +kernel
theorem dX11_length_14 : decode cX11_length 14 = .ok (.iload 4, 2) := by decide +kernel
theorem dX11_length_16 : decode cX11_length 16 = .ok (.goto 10, 3) := by decide +kernel
theorem dX11_sign_0 : decode cX11_sign 0 = .ok (.iload 4, 2) := by decide +kernel
theorem dX11_sign_2 : decode cX11_sign 2 = .ok (.ifCond .ge 6, 3) := by decide +kernel
theorem dX11_sign_8 : decode cX11_sign 8 = .ok (.aload_n 0, 1) := by decide +kernel
theorem dX11_sign_9 : decode cX11_sign 9 = .ok (.iload_n 1, 1) := by decide +kernel
theorem dX11_sign_10 : decode cX11_sign 10 = .ok (.iload_n 2, 1) := by decide +kernel
theorem dX11_sign_11 : decode cX11_sign 11 = .ok (.iload_n 3, 1) := by decide +kernel
theorem dX11_sign_12 : decode cX11_sign 12 = .ok (.invokevirtual 259, 3) := by decide +kernel
theorem dX11_sign_15 : decode cX11_sign 15 = .ok (.istore 5, 2) := by decide +kernel
theorem dX11_sign_17 : decode cX11_sign 17 = .ok (.iload 5, 2) := by decide +kernel
theorem dX11_sign_19 : decode cX11_sign 19 = .ok (.ifCond .eq 8, 3) := by decide +kernel
theorem dX11_sign_27 : decode cX11_sign 27 = .ok (.aload_n 0, 1) := by decide +kernel
theorem dX11_sign_28 : decode cX11_sign 28 = .ok (.getfield 72, 3) := by decide +kernel
theorem dX11_sign_31 : decode cX11_sign 31 = .ok (.iload 4, 2) := by decide +kernel
theorem dX11_sign_33 : decode cX11_sign 33 = .ok (.invokevirtual 266, 3) := by decide +kernel
theorem wm_1429 : (Jvm.Cond.methodLink "GrownKinds" (266 : Nat) ({ cls := "GrownKinds$Speller", name := "signAt", desc := "(I)I" } : Jvm.MethodName)) ∈ gT := gT_in (List.mem_of_getElem? (i := 1429) (by decide +kernel)) (by decide +kernel)
theorem wm_1430 : (Jvm.Cond.instanceMethod ({ cls := "GrownKinds$Speller", name := "signAt", desc := "(I)I" } : Jvm.MethodName)) ∈ gT := gT_in (List.mem_of_getElem? (i := 1430) (by decide +kernel)) (by decide +kernel)
theorem wm_1431 : (Jvm.Cond.selects "GrownKinds$Speller" ({ cls := "GrownKinds$Speller", name := "signAt", desc := "(I)I" } : Jvm.MethodName) ({ cls := "GrownKinds$Speller", name := "signAt", desc := "(I)I" } : Jvm.MethodName)) ∈ gT := gT_in (List.mem_of_getElem? (i := 1431) (by decide +kernel)) (by decide +kernel)
theorem wm_1432 : (Jvm.Cond.code ({ cls := "GrownKinds$Speller", name := "signAt", desc := "(I)I" } : Jvm.MethodName) prog_11_method_3_code (2 : Nat) (Option.some Jvm.ClassFile.FieldType.int)) ∈ gT := gT_in (List.mem_of_getElem? (i := 1432) (by decide +kernel)) (by decide +kernel)
theorem dX11_sign_36 : decode cX11_sign 36 = .ok (.ireturn, 1) := by decide +kernel
theorem dX11_sign_22 : decode cX11_sign 22 = .ok (.iload 5, 2) := by decide +kernel
theorem dX11_sign_24 : decode cX11_sign 24 = .ok (.goto 12, 3) := by decide +kernel
theorem dX11_sign_5 : decode cX11_sign 5 = .ok (.bipush (-2), 2) := by decide +kernel
theorem dX11_sign_7 : decode cX11_sign 7 = .ok (.ireturn, 1) := by decide +kernel
theorem dX11_deep_0 : decode cX11_deep 0 = .ok (.aload_n 0, 1) := by decide +kernel
theorem dX11_deep_1 : decode cX11_deep 1 = .ok (.iload_n 1, 1) := by decide +kernel
theorem dX11_deep_2 : decode cX11_deep 2 = .ok (.iload_n 2, 1) := by decide +kernel
theorem dX11_deep_3 : decode cX11_deep 3 = .ok (.iload_n 3, 1) := by decide +kernel
theorem dX11_deep_4 : decode cX11_deep 4 = .ok (.invokevirtual 259, 3) := by decide +kernel
theorem dX11_deep_7 : decode cX11_deep 7 = .ok (.istore 4, 2) := by decide +kernel
theorem dX11_deep_9 : decode cX11_deep 9 = .ok (.iload 4, 2) := by decide +kernel
theorem dX11_deep_11 : decode cX11_deep 11 = .ok (.ifCond .eq 8, 3) := by decide +kernel
theorem dX11_deep_19 : decode cX11_deep 19 = .ok (.aload_n 0, 1) := by decide +kernel
theorem dX11_deep_20 : decode cX11_deep 20 = .ok (.getfield 72, 3) := by decide +kernel
theorem dX11_deep_23 : decode cX11_deep 23 = .ok (.getfield 269, 3) := by decide +kernel
theorem wm_504 : (Jvm.Cond.fieldLink "GrownKinds" (269 : Nat) "GrownKinds$Speller" "depth" "I") ∈ gT := gT_in (List.mem_of_getElem? (i := 504) (by decide +kernel)) (by decide +kernel)
theorem dX11_deep_26 : decode cX11_deep 26 = .ok (.ireturn, 1) := by decide +kernel
theorem dX11_deep_14 : decode cX11_deep 14 = .ok (.iload 4, 2) := by decide +kernel
theorem dX11_deep_16 : decode cX11_deep 16 = .ok (.goto 10, 3) := by decide +kernel
theorem dX11_atoms_0 : decode cX11_atoms 0 = .ok (.iload 4, 2) := by decide +kernel
theorem dX11_atoms_2 : decode cX11_atoms 2 = .ok (.invokestatic 221, 3) := by decide +kernel
theorem dX11_atoms_5 : decode cX11_atoms 5 = .ok (.ifCond .ne 6, 3) := by decide +kernel
theorem dX11_atoms_11 : decode cX11_atoms 11 = .ok (.aload_n 0, 1) := by decide +kernel
theorem dX11_atoms_12 : decode cX11_atoms 12 = .ok (.iload_n 1, 1) := by decide +kernel
theorem dX11_atoms_13 : decode cX11_atoms 13 = .ok (.iload_n 2, 1) := by decide +kernel
theorem dX11_atoms_14 : decode cX11_atoms 14 = .ok (.iload_n 3, 1) := by decide +kernel
theorem dX11_atoms_15 : decode cX11_atoms 15 = .ok (.invokevirtual 259, 3) := by decide +kernel
theorem dX11_atoms_18 : decode cX11_atoms 18 = .ok (.istore 5, 2) := by decide +kernel
theorem dX11_atoms_20 : decode cX11_atoms 20 = .ok (.iload 5, 2) := by decide +kernel
theorem dX11_atoms_22 : decode cX11_atoms 22 = .ok (.ifCond .eq 8, 3) := by decide +kernel
theorem dX11_atoms_30 : decode cX11_atoms 30 = .ok (.aload_n 0, 1) := by decide +kernel
theorem dX11_atoms_31 : decode cX11_atoms 31 = .ok (.getfield 72, 3) := by decide +kernel
theorem dX11_atoms_34 : decode cX11_atoms 34 = .ok (.getfield 272, 3) := by decide +kernel
theorem wm_514 : (Jvm.Cond.fieldLink "GrownKinds" (272 : Nat) "GrownKinds$Speller" "atomCounts" "[I") ∈ gT := gT_in (List.mem_of_getElem? (i := 514) (by decide +kernel)) (by decide +kernel)
theorem dX11_atoms_37 : decode cX11_atoms 37 = .ok (.iload 4, 2) := by decide +kernel
theorem dX11_atoms_39 : decode cX11_atoms 39 = .ok (.iaload, 1) := by decide +kernel
theorem dX11_atoms_40 : decode cX11_atoms 40 = .ok (.ireturn, 1) := by decide +kernel
theorem dX11_atoms_25 : decode cX11_atoms 25 = .ok (.iload 5, 2) := by decide +kernel
theorem dX11_atoms_27 : decode cX11_atoms 27 = .ok (.goto 13, 3) := by decide +kernel
theorem dX11_atoms_8 : decode cX11_atoms 8 = .ok (.bipush (-2), 2) := by decide +kernel
theorem dX11_atoms_10 : decode cX11_atoms 10 = .ok (.ireturn, 1) := by decide +kernel
theorem dX11_term_0 : decode cX11_term 0 = .ok (.aload_n 0, 1) := by decide +kernel
theorem dX11_term_1 : decode cX11_term 1 = .ok (.iload_n 1, 1) := by decide +kernel
theorem dX11_term_2 : decode cX11_term 2 = .ok (.iload_n 2, 1) := by decide +kernel
theorem dX11_term_3 : decode cX11_term 3 = .ok (.iload_n 3, 1) := by decide +kernel
theorem dX11_term_4 : decode cX11_term 4 = .ok (.invokevirtual 259, 3) := by decide +kernel
theorem dX11_term_7 : decode cX11_term 7 = .ok (.istore 4, 2) := by decide +kernel
theorem dX11_term_9 : decode cX11_term 9 = .ok (.iload 4, 2) := by decide +kernel
theorem dX11_term_11 : decode cX11_term 11 = .ok (.ifCond .eq 8, 3) := by decide +kernel
theorem dX11_term_19 : decode cX11_term 19 = .ok (.aload_n 0, 1) := by decide +kernel
theorem dX11_term_20 : decode cX11_term 20 = .ok (.getfield 72, 3) := by decide +kernel
theorem dX11_term_23 : decode cX11_term 23 = .ok (.getfield 275, 3) := by decide +kernel
theorem wm_509 : (Jvm.Cond.fieldLink "GrownKinds" (275 : Nat) "GrownKinds$Speller" "topTerm" "I") ∈ gT := gT_in (List.mem_of_getElem? (i := 509) (by decide +kernel)) (by decide +kernel)
theorem dX11_term_26 : decode cX11_term 26 = .ok (.ireturn, 1) := by decide +kernel
theorem dX11_term_14 : decode cX11_term 14 = .ok (.iload 4, 2) := by decide +kernel
theorem dX11_term_16 : decode cX11_term 16 = .ok (.goto 10, 3) := by decide +kernel
theorem dX11_symmetries_0 : decode cX11_symmetries 0 = .ok (.aload_n 0, 1) := by decide +kernel
theorem dX11_symmetries_1 : decode cX11_symmetries 1 = .ok (.iload_n 1, 1) := by decide +kernel
theorem dX11_symmetries_2 : decode cX11_symmetries 2 = .ok (.iload_n 2, 1) := by decide +kernel
theorem dX11_symmetries_3 : decode cX11_symmetries 3 = .ok (.iload_n 3, 1) := by decide +kernel
theorem dX11_symmetries_4 : decode cX11_symmetries 4 = .ok (.invokevirtual 259, 3) := by decide +kernel
theorem dX11_symmetries_7 : decode cX11_symmetries 7 = .ok (.istore 4, 2) := by decide +kernel
theorem dX11_symmetries_9 : decode cX11_symmetries 9 = .ok (.iload 4, 2) := by decide +kernel
theorem dX11_symmetries_11 : decode cX11_symmetries 11 = .ok (.ifCond .eq 8, 3) := by decide +kernel
theorem dX11_symmetries_19 : decode cX11_symmetries 19 = .ok (.aload_n 0, 1) := by decide +kernel
theorem dX11_symmetries_20 : decode cX11_symmetries 20 = .ok (.getfield 72, 3) := by decide +kernel
theorem dX11_symmetries_23 : decode cX11_symmetries 23 = .ok (.getfield 278, 3) := by decide +kernel
theorem wm_507 : (Jvm.Cond.fieldLink "GrownKinds" (278 : Nat) "GrownKinds$Speller" "turns" "I") ∈ gT := gT_in (List.mem_of_getElem? (i := 507) (by decide +kernel)) (by decide +kernel)
theorem dX11_symmetries_26 : decode cX11_symmetries 26 = .ok (.ireturn, 1) := by decide +kernel
theorem dX11_symmetries_14 : decode cX11_symmetries 14 = .ok (.iload 4, 2) := by decide +kernel
theorem dX11_symmetries_16 : decode cX11_symmetries 16 = .ok (.goto 10, 3) := by decide +kernel
theorem dX11_labels_0 : decode cX11_labels 0 = .ok (.aload_n 0, 1) := by decide +kernel
theorem dX11_labels_1 : decode cX11_labels 1 = .ok (.iload_n 1, 1) := by decide +kernel
theorem dX11_labels_2 : decode cX11_labels 2 = .ok (.iload_n 2, 1) := by decide +kernel
theorem dX11_labels_3 : decode cX11_labels 3 = .ok (.iload_n 3, 1) := by decide +kernel
theorem dX11_labels_4 : decode cX11_labels 4 = .ok (.invokevirtual 259, 3) := by decide +kernel
theorem dX11_labels_7 : decode cX11_labels 7 = .ok (.istore 4, 2) := by decide +kernel
theorem dX11_labels_9 : decode cX11_labels 9 = .ok (.iload 4, 2) := by decide +kernel
theorem dX11_labels_11 : decode cX11_labels 11 = .ok (.ifCond .eq 6, 3) := by decide +kernel
theorem dX11_labels_17 : decode cX11_labels 17 = .ok (.aload_n 0, 1) := by decide +kernel
theorem dX11_labels_18 : decode cX11_labels 18 = .ok (.getfield 72, 3) := by decide +kernel
theorem dX11_labels_21 : decode cX11_labels 21 = .ok (.getfield 278, 3) := by decide +kernel
theorem dX11_labels_24 : decode cX11_labels 24 = .ok (.iconst 1, 1) := by decide +kernel
theorem dX11_labels_25 : decode cX11_labels 25 = .ok (.if_icmp .ge 11, 3) := by decide +kernel
theorem dX11_labels_36 : decode cX11_labels 36 = .ok (.getstatic 281, 3) := by decide +kernel
theorem wm_1453 : (Jvm.Cond.fieldLink "GrownKinds" (281 : Nat) "GrownKinds" "FACTORIAL" "[I") ∈ gT := gT_in (List.mem_of_getElem? (i := 1453) (by decide +kernel)) (by decide +kernel)
theorem dX11_labels_39 : decode cX11_labels 39 = .ok (.iload_n 2, 1) := by decide +kernel
theorem dX11_labels_40 : decode cX11_labels 40 = .ok (.iaload, 1) := by decide +kernel
theorem dX11_labels_41 : decode cX11_labels 41 = .ok (.aload_n 0, 1) := by decide +kernel
theorem dX11_labels_42 : decode cX11_labels 42 = .ok (.getfield 72, 3) := by decide +kernel
theorem dX11_labels_45 : decode cX11_labels 45 = .ok (.getfield 278, 3) := by decide +kernel
theorem dX11_labels_48 : decode cX11_labels 48 = .ok (.idiv, 1) := by decide +kernel
theorem dX11_labels_49 : decode cX11_labels 49 = .ok (.ireturn, 1) := by decide +kernel
theorem dX11_labels_28 : decode cX11_labels 28 = .ok (.getstatic 281, 3) := by decide +kernel
theorem dX11_labels_31 : decode cX11_labels 31 = .ok (.iload_n 2, 1) := by decide +kernel
theorem dX11_labels_32 : decode cX11_labels 32 = .ok (.iaload, 1) := by decide +kernel
theorem dX11_labels_33 : decode cX11_labels 33 = .ok (.goto 16, 3) := by decide +kernel
theorem dX11_labels_14 : decode cX11_labels 14 = .ok (.iload 4, 2) := by decide +kernel
theorem dX11_labels_16 : decode cX11_labels 16 = .ok (.ireturn, 1) := by decide +kernel
theorem dX11_rolling_0 : decode cX11_rolling 0 = .ok (.aload_n 0, 1) := by decide +kernel
theorem dX11_rolling_1 : decode cX11_rolling 1 = .ok (.iload_n 1, 1) := by decide +kernel
theorem dX11_rolling_2 : decode cX11_rolling 2 = .ok (.iload_n 2, 1) := by decide +kernel
theorem dX11_rolling_3 : decode cX11_rolling 3 = .ok (.invokevirtual 251, 3) := by decide +kernel
theorem dX11_rolling_6 : decode cX11_rolling 6 = .ok (.istore_n 3, 1) := by decide +kernel
theorem dX11_rolling_7 : decode cX11_rolling 7 = .ok (.iload_n 3, 1) := by decide +kernel
theorem dX11_rolling_8 : decode cX11_rolling 8 = .ok (.ifCond .eq 5, 3) := by decide +kernel
theorem dX11_rolling_13 : decode cX11_rolling 13 = .ok (.aload_n 0, 1) := by decide +kernel
theorem dX11_rolling_14 : decode cX11_rolling 14 = .ok (.getfield 51, 3) := by decide +kernel
theorem dX11_rolling_17 : decode cX11_rolling 17 = .ok (.iload_n 1, 1) := by decide +kernel
theorem dX11_rolling_18 : decode cX11_rolling 18 = .ok (.iload_n 2, 1) := by decide +kernel
theorem dX11_rolling_19 : decode cX11_rolling 19 = .ok (.invokevirtual 206, 3) := by decide +kernel
theorem dX11_rolling_22 : decode cX11_rolling 22 = .ok (.l2i, 1) := by decide +kernel
theorem dX11_rolling_23 : decode cX11_rolling 23 = .ok (.istore 4, 2) := by decide +kernel
theorem dX11_rolling_25 : decode cX11_rolling 25 = .ok (.iload 4, 2) := by decide +kernel
theorem dX11_rolling_27 : decode cX11_rolling 27 = .ok (.ifCond .ne 5, 3) := by decide +kernel
theorem dX11_rolling_32 : decode cX11_rolling 32 = .ok (.iload_n 1, 1) := by decide +kernel
theorem dX11_rolling_33 : decode cX11_rolling 33 = .ok (.bipush 8, 2) := by decide +kernel
theorem dX11_rolling_35 : decode cX11_rolling 35 = .ok (.imul, 1) := by decide +kernel
theorem dX11_rolling_36 : decode cX11_rolling 36 = .ok (.iload_n 2, 1) := by decide +kernel
theorem dX11_rolling_37 : decode cX11_rolling 37 = .ok (.iadd, 1) := by decide +kernel
theorem dX11_rolling_38 : decode cX11_rolling 38 = .ok (.istore 5, 2) := by decide +kernel
theorem dX11_rolling_40 : decode cX11_rolling 40 = .ok (.aload_n 0, 1) := by decide +kernel
theorem dX11_rolling_41 : decode cX11_rolling 41 = .ok (.getfield 88, 3) := by decide +kernel
theorem dX11_rolling_44 : decode cX11_rolling 44 = .ok (.getfield 304, 3) := by decide +kernel
theorem wm_606 : (Jvm.Cond.fieldLink "GrownKinds" (304 : Nat) "GrownKinds$Roll" "called" "[Z") ∈ gT := gT_in (List.mem_of_getElem? (i := 606) (by decide +kernel)) (by decide +kernel)
theorem dX11_rolling_47 : decode cX11_rolling 47 = .ok (.iload 5, 2) := by decide +kernel
theorem dX11_rolling_49 : decode cX11_rolling 49 = .ok (.baload, 1) := by decide +kernel
theorem dX11_rolling_50 : decode cX11_rolling 50 = .ok (.ifCond .ne 54, 3) := by decide +kernel
theorem dX11_rolling_104 : decode cX11_rolling 104 = .ok (.iconst 0, 1) := by decide +kernel
theorem dX11_rolling_105 : decode cX11_rolling 105 = .ok (.ireturn, 1) := by decide +kernel
theorem dX11_rolling_53 : decode cX11_rolling 53 = .ok (.aload_n 0, 1) := by decide +kernel
theorem dX11_rolling_54 : decode cX11_rolling 54 = .ok (.getfield 88, 3) := by decide +kernel
theorem dX11_rolling_57 : decode cX11_rolling 57 = .ok (.iload 5, 2) := by decide +kernel
theorem dX11_rolling_59 : decode cX11_rolling 59 = .ok (.invokevirtual 308, 3) := by decide +kernel
theorem wm_1547 : (Jvm.Cond.methodLink "GrownKinds" (308 : Nat) ({ cls := "GrownKinds$Roll", name := "begin", desc := "(I)V" } : Jvm.MethodName)) ∈ gT := gT_in (List.mem_of_getElem? (i := 1547) (by decide +kernel)) (by decide +kernel)
theorem wm_1548 : (Jvm.Cond.instanceMethod ({ cls := "GrownKinds$Roll", name := "begin", desc := "(I)V" } : Jvm.MethodName)) ∈ gT := gT_in (List.mem_of_getElem? (i := 1548) (by decide +kernel)) (by decide +kernel)
theorem wm_1549 : (Jvm.Cond.selects "GrownKinds$Roll" ({ cls := "GrownKinds$Roll", name := "begin", desc := "(I)V" } : Jvm.MethodName) ({ cls := "GrownKinds$Roll", name := "begin", desc := "(I)V" } : Jvm.MethodName)) ∈ gT := gT_in (List.mem_of_getElem? (i := 1549) (by decide +kernel)) (by decide +kernel)
theorem wm_1550 : (Jvm.Cond.code ({ cls := "GrownKinds$Roll", name := "begin", desc := "(I)V" } : Jvm.MethodName) prog_9_method_3_code (2 : Nat) (Option.none : Option Jvm.ClassFile.FieldType)) ∈ gT := gT_in (List.mem_of_getElem? (i := 1550) (by decide +kernel)) (by decide +kernel)
theorem dX11_rolling_62 : decode cX11_rolling 62 = .ok (.iconst 0, 1) := by decide +kernel
theorem dX11_rolling_63 : decode cX11_rolling 63 = .ok (.istore 6, 2) := by decide +kernel
theorem dX11_rolling_65 : decode cX11_rolling 65 = .ok (.iload 6, 2) := by decide +kernel
theorem dX11_rolling_67 : decode cX11_rolling 67 = .ok (.iload 4, 2) := by decide +kernel
theorem dX11_rolling_69 : decode cX11_rolling 69 = .ok (.if_icmp .ge 35, 3) := by decide +kernel
theorem dX11_rolling_72 : decode cX11_rolling 72 = .ok (.aload_n 0, 1) := by decide +kernel
theorem dX11_rolling_73 : decode cX11_rolling 73 = .ok (.getfield 72, 3) := by decide +kernel
theorem dX11_rolling_76 : decode cX11_rolling 76 = .ok (.iload_n 1, 1) := by decide +kernel
theorem dX11_rolling_77 : decode cX11_rolling 77 = .ok (.iload_n 2, 1) := by decide +kernel
theorem dX11_rolling_78 : decode cX11_rolling 78 = .ok (.iload 6, 2) := by decide +kernel
theorem dX11_rolling_80 : decode cX11_rolling 80 = .ok (.aload_n 0, 1) := by decide +kernel
theorem dX11_rolling_81 : decode cX11_rolling 81 = .ok (.getfield 111, 3) := by decide +kernel
theorem dX11_rolling_84 : decode cX11_rolling 84 = .ok (.invokevirtual 255, 3) := by decide +kernel
theorem dX11_rolling_87 : decode cX11_rolling 87 = .ok (.aload_n 0, 1) := by decide +kernel
theorem dX11_rolling_88 : decode cX11_rolling 88 = .ok (.getfield 88, 3) := by decide +kernel
theorem dX11_rolling_91 : decode cX11_rolling 91 = .ok (.iload 5, 2) := by decide +kernel
theorem dX11_rolling_93 : decode cX11_rolling 93 = .ok (.iload 6, 2) := by decide +kernel
theorem dX11_rolling_95 : decode cX11_rolling 95 = .ok (.invokevirtual 311, 3) := by decide +kernel
theorem wm_1558 : (Jvm.Cond.methodLink "GrownKinds" (311 : Nat) ({ cls := "GrownKinds$Roll", name := "note", desc := "(II)V" } : Jvm.MethodName)) ∈ gT := gT_in (List.mem_of_getElem? (i := 1558) (by decide +kernel)) (by decide +kernel)
theorem wm_1559 : (Jvm.Cond.instanceMethod ({ cls := "GrownKinds$Roll", name := "note", desc := "(II)V" } : Jvm.MethodName)) ∈ gT := gT_in (List.mem_of_getElem? (i := 1559) (by decide +kernel)) (by decide +kernel)
theorem wm_1560 : (Jvm.Cond.selects "GrownKinds$Roll" ({ cls := "GrownKinds$Roll", name := "note", desc := "(II)V" } : Jvm.MethodName) ({ cls := "GrownKinds$Roll", name := "note", desc := "(II)V" } : Jvm.MethodName)) ∈ gT := gT_in (List.mem_of_getElem? (i := 1560) (by decide +kernel)) (by decide +kernel)
theorem wm_1561 : (Jvm.Cond.code ({ cls := "GrownKinds$Roll", name := "note", desc := "(II)V" } : Jvm.MethodName) prog_9_method_4_code (3 : Nat) (Option.none : Option Jvm.ClassFile.FieldType)) ∈ gT := gT_in (List.mem_of_getElem? (i := 1561) (by decide +kernel)) (by decide +kernel)
theorem dX11_rolling_98 : decode cX11_rolling 98 = .ok (.iinc 6 1, 3) := by decide +kernel
theorem dX11_rolling_101 : decode cX11_rolling 101 = .ok (.goto (-36), 3) := by decide +kernel
theorem dX11_rolling_30 : decode cX11_rolling 30 = .ok (.iconst (-1), 1) := by decide +kernel
theorem dX11_rolling_31 : decode cX11_rolling 31 = .ok (.ireturn, 1) := by decide +kernel
theorem dX11_rolling_11 : decode cX11_rolling 11 = .ok (.iload_n 3, 1) := by decide +kernel
theorem dX11_rolling_12 : decode cX11_rolling 12 = .ok (.ireturn, 1) := by decide +kernel
theorem dX11_deepest_0 : decode cX11_deepest 0 = .ok (.aload_n 0, 1) := by decide +kernel
theorem dX11_deepest_1 : decode cX11_deepest 1 = .ok (.iload_n 1, 1) := by decide +kernel
theorem dX11_deepest_2 : decode cX11_deepest 2 = .ok (.iload_n 2, 1) := by decide +kernel
theorem dX11_deepest_3 : decode cX11_deepest 3 = .ok (.invokevirtual 315, 3) := by decide +kernel
theorem wm_1543 : (Jvm.Cond.methodLink "GrownKinds" (315 : Nat) ({ cls := "GrownKinds", name := "rolling", desc := "(II)I" } : Jvm.MethodName)) ∈ gT := gT_in (List.mem_of_getElem? (i := 1543) (by decide +kernel)) (by decide +kernel)
theorem wm_1545 : (Jvm.Cond.instanceMethod ({ cls := "GrownKinds", name := "rolling", desc := "(II)I" } : Jvm.MethodName)) ∈ gT := gT_in (List.mem_of_getElem? (i := 1545) (by decide +kernel)) (by decide +kernel)
theorem wm_82 : Cond.selects "GrownKinds" ⟨"GrownKinds", "rolling", "(II)I"⟩ ⟨"GrownKinds", "rolling", "(II)I"⟩ ∈ gT := gT_in (List.mem_of_getElem? (i := 82) (by decide +kernel)) (by decide +kernel)
theorem wm_1546 : (Jvm.Cond.code ({ cls := "GrownKinds", name := "rolling", desc := "(II)I" } : Jvm.MethodName) prog_1_method_45_code (7 : Nat) (Option.some Jvm.ClassFile.FieldType.int)) ∈ gT := gT_in (List.mem_of_getElem? (i := 1546) (by decide +kernel)) (by decide +kernel)
theorem dX11_deepest_6 : decode cX11_deepest 6 = .ok (.istore_n 3, 1) := by decide +kernel
theorem dX11_deepest_7 : decode cX11_deepest 7 = .ok (.iload_n 3, 1) := by decide +kernel
theorem dX11_deepest_8 : decode cX11_deepest 8 = .ok (.ifCond .eq 7, 3) := by decide +kernel
theorem dX11_deepest_15 : decode cX11_deepest 15 = .ok (.aload_n 0, 1) := by decide +kernel
theorem dX11_deepest_16 : decode cX11_deepest 16 = .ok (.getfield 88, 3) := by decide +kernel
theorem dX11_deepest_19 : decode cX11_deepest 19 = .ok (.getfield 318, 3) := by decide +kernel
theorem wm_608 : (Jvm.Cond.fieldLink "GrownKinds" (318 : Nat) "GrownKinds$Roll" "deepestRank" "[I") ∈ gT := gT_in (List.mem_of_getElem? (i := 608) (by decide +kernel)) (by decide +kernel)
theorem dX11_deepest_22 : decode cX11_deepest 22 = .ok (.iload_n 1, 1) := by decide +kernel
theorem dX11_deepest_23 : decode cX11_deepest 23 = .ok (.bipush 8, 2) := by decide +kernel
theorem dX11_deepest_25 : decode cX11_deepest 25 = .ok (.imul, 1) := by decide +kernel
theorem dX11_deepest_26 : decode cX11_deepest 26 = .ok (.iload_n 2, 1) := by decide +kernel
theorem dX11_deepest_27 : decode cX11_deepest 27 = .ok (.iadd, 1) := by decide +kernel
theorem dX11_deepest_28 : decode cX11_deepest 28 = .ok (.iaload, 1) := by decide +kernel
theorem dX11_deepest_29 : decode cX11_deepest 29 = .ok (.ireturn, 1) := by decide +kernel
theorem dX11_deepest_11 : decode cX11_deepest 11 = .ok (.iload_n 3, 1) := by decide +kernel
theorem dX11_deepest_12 : decode cX11_deepest 12 = .ok (.goto 17, 3) := by decide +kernel
theorem dX11_fullest_0 : decode cX11_fullest 0 = .ok (.iload_n 3, 1) := by decide +kernel
theorem dX11_fullest_1 : decode cX11_fullest 1 = .ok (.invokestatic 221, 3) := by decide +kernel
theorem dX11_fullest_4 : decode cX11_fullest 4 = .ok (.ifCond .ne 6, 3) := by decide +kernel
theorem dX11_fullest_10 : decode cX11_fullest 10 = .ok (.aload_n 0, 1) := by decide +kernel
theorem dX11_fullest_11 : decode cX11_fullest 11 = .ok (.iload_n 1, 1) := by decide +kernel
theorem dX11_fullest_12 : decode cX11_fullest 12 = .ok (.iload_n 2, 1) := by decide +kernel
theorem dX11_fullest_13 : decode cX11_fullest 13 = .ok (.invokevirtual 315, 3) := by decide +kernel
theorem dX11_fullest_16 : decode cX11_fullest 16 = .ok (.istore 4, 2) := by decide +kernel
theorem dX11_fullest_18 : decode cX11_fullest 18 = .ok (.iload 4, 2) := by decide +kernel
theorem dX11_fullest_20 : decode cX11_fullest 20 = .ok (.ifCond .eq 8, 3) := by decide +kernel
theorem dX11_fullest_28 : decode cX11_fullest 28 = .ok (.aload_n 0, 1) := by decide +kernel
theorem dX11_fullest_29 : decode cX11_fullest 29 = .ok (.getfield 88, 3) := by decide +kernel
theorem dX11_fullest_32 : decode cX11_fullest 32 = .ok (.getfield 321, 3) := by decide +kernel
theorem wm_612 : (Jvm.Cond.fieldLink "GrownKinds" (321 : Nat) "GrownKinds$Roll" "fullestRank" "[I") ∈ gT := gT_in (List.mem_of_getElem? (i := 612) (by decide +kernel)) (by decide +kernel)
theorem dX11_fullest_35 : decode cX11_fullest 35 = .ok (.iload_n 1, 1) := by decide +kernel
theorem dX11_fullest_36 : decode cX11_fullest 36 = .ok (.bipush 8, 2) := by decide +kernel
theorem dX11_fullest_38 : decode cX11_fullest 38 = .ok (.imul, 1) := by decide +kernel
theorem dX11_fullest_39 : decode cX11_fullest 39 = .ok (.iload_n 2, 1) := by decide +kernel
theorem dX11_fullest_40 : decode cX11_fullest 40 = .ok (.iadd, 1) := by decide +kernel
theorem dX11_fullest_41 : decode cX11_fullest 41 = .ok (.bipush 26, 2) := by decide +kernel
theorem dX11_fullest_43 : decode cX11_fullest 43 = .ok (.imul, 1) := by decide +kernel
theorem dX11_fullest_44 : decode cX11_fullest 44 = .ok (.iload_n 3, 1) := by decide +kernel
theorem dX11_fullest_45 : decode cX11_fullest 45 = .ok (.iadd, 1) := by decide +kernel
theorem dX11_fullest_46 : decode cX11_fullest 46 = .ok (.iaload, 1) := by decide +kernel
theorem dX11_fullest_47 : decode cX11_fullest 47 = .ok (.ireturn, 1) := by decide +kernel
theorem dX11_fullest_23 : decode cX11_fullest 23 = .ok (.iload 4, 2) := by decide +kernel
theorem dX11_fullest_25 : decode cX11_fullest 25 = .ok (.goto 22, 3) := by decide +kernel
theorem dX11_fullest_7 : decode cX11_fullest 7 = .ok (.bipush (-2), 2) := by decide +kernel
theorem dX11_fullest_9 : decode cX11_fullest 9 = .ok (.ireturn, 1) := by decide +kernel
theorem dX11_stiffest_0 : decode cX11_stiffest 0 = .ok (.aload_n 0, 1) := by decide +kernel
theorem dX11_stiffest_1 : decode cX11_stiffest 1 = .ok (.iload_n 1, 1) := by decide +kernel
theorem dX11_stiffest_2 : decode cX11_stiffest 2 = .ok (.iload_n 2, 1) := by decide +kernel
theorem dX11_stiffest_3 : decode cX11_stiffest 3 = .ok (.invokevirtual 315, 3) := by decide +kernel
theorem dX11_stiffest_6 : decode cX11_stiffest 6 = .ok (.istore_n 3, 1) := by decide +kernel
theorem dX11_stiffest_7 : decode cX11_stiffest 7 = .ok (.iload_n 3, 1) := by decide +kernel
theorem dX11_stiffest_8 : decode cX11_stiffest 8 = .ok (.ifCond .eq 7, 3) := by decide +kernel
theorem dX11_stiffest_15 : decode cX11_stiffest 15 = .ok (.aload_n 0, 1) := by decide +kernel
theorem dX11_stiffest_16 : decode cX11_stiffest 16 = .ok (.getfield 88, 3) := by decide +kernel
theorem dX11_stiffest_19 : decode cX11_stiffest 19 = .ok (.getfield 324, 3) := by decide +kernel
theorem wm_610 : (Jvm.Cond.fieldLink "GrownKinds" (324 : Nat) "GrownKinds$Roll" "stiffestRank" "[I") ∈ gT := gT_in (List.mem_of_getElem? (i := 610) (by decide +kernel)) (by decide +kernel)
theorem dX11_stiffest_22 : decode cX11_stiffest 22 = .ok (.iload_n 1, 1) := by decide +kernel
theorem dX11_stiffest_23 : decode cX11_stiffest 23 = .ok (.bipush 8, 2) := by decide +kernel
theorem dX11_stiffest_25 : decode cX11_stiffest 25 = .ok (.imul, 1) := by decide +kernel
theorem dX11_stiffest_26 : decode cX11_stiffest 26 = .ok (.iload_n 2, 1) := by decide +kernel
theorem dX11_stiffest_27 : decode cX11_stiffest 27 = .ok (.iadd, 1) := by decide +kernel
theorem dX11_stiffest_28 : decode cX11_stiffest 28 = .ok (.iaload, 1) := by decide +kernel
theorem dX11_stiffest_29 : decode cX11_stiffest 29 = .ok (.ireturn, 1) := by decide +kernel
theorem dX11_stiffest_11 : decode cX11_stiffest 11 = .ok (.iload_n 3, 1) := by decide +kernel
theorem dX11_stiffest_12 : decode cX11_stiffest 12 = .ok (.goto 17, 3) := by decide +kernel
theorem dX11_mean_0 : decode cX11_mean 0 = .ok (.iload_n 3, 1) := by decide +kernel
theorem dX11_mean_1 : decode cX11_mean 1 = .ok (.invokestatic 221, 3) := by decide +kernel
theorem dX11_mean_4 : decode cX11_mean 4 = .ok (.ifCond .eq 14, 3) := by decide +kernel
theorem dX11_mean_18 : decode cX11_mean 18 = .ok (.bipush (-2), 2) := by decide +kernel
theorem dX11_mean_20 : decode cX11_mean 20 = .ok (.ireturn, 1) := by decide +kernel
theorem dX11_mean_7 : decode cX11_mean 7 = .ok (.iload 4, 2) := by decide +kernel
theorem dX11_mean_9 : decode cX11_mean 9 = .ok (.ifCond .lt 9, 3) := by decide +kernel
theorem dX11_mean_12 : decode cX11_mean 12 = .ok (.iload 4, 2) := by decide +kernel
theorem dX11_mean_14 : decode cX11_mean 14 = .ok (.iconst 1, 1) := by decide +kernel
theorem dX11_mean_15 : decode cX11_mean 15 = .ok (.if_icmp .le 6, 3) := by decide +kernel
theorem dX11_mean_21 : decode cX11_mean 21 = .ok (.aload_n 0, 1) := by decide +kernel
theorem dX11_mean_22 : decode cX11_mean 22 = .ok (.iload_n 1, 1) := by decide +kernel
theorem dX11_mean_23 : decode cX11_mean 23 = .ok (.iload_n 2, 1) := by decide +kernel
theorem dX11_mean_24 : decode cX11_mean 24 = .ok (.invokevirtual 315, 3) := by decide +kernel
theorem dX11_mean_27 : decode cX11_mean 27 = .ok (.istore 5, 2) := by decide +kernel
theorem dX11_mean_29 : decode cX11_mean 29 = .ok (.iload 5, 2) := by decide +kernel
theorem dX11_mean_31 : decode cX11_mean 31 = .ok (.ifCond .eq 6, 3) := by decide +kernel
theorem dX11_mean_37 : decode cX11_mean 37 = .ok (.aload_n 0, 1) := by decide +kernel
theorem dX11_mean_38 : decode cX11_mean 38 = .ok (.getfield 88, 3) := by decide +kernel
theorem dX11_mean_41 : decode cX11_mean 41 = .ok (.getfield 330, 3) := by decide +kernel
theorem wm_614 : (Jvm.Cond.fieldLink "GrownKinds" (330 : Nat) "GrownKinds$Roll" "atomSums" "[I") ∈ gT := gT_in (List.mem_of_getElem? (i := 614) (by decide +kernel)) (by decide +kernel)
theorem dX11_mean_44 : decode cX11_mean 44 = .ok (.iload_n 1, 1) := by decide +kernel
theorem dX11_mean_45 : decode cX11_mean 45 = .ok (.bipush 8, 2) := by decide +kernel
theorem dX11_mean_47 : decode cX11_mean 47 = .ok (.imul, 1) := by decide +kernel
theorem dX11_mean_48 : decode cX11_mean 48 = .ok (.iload_n 2, 1) := by decide +kernel
theorem dX11_mean_49 : decode cX11_mean 49 = .ok (.iadd, 1) := by decide +kernel
theorem dX11_mean_50 : decode cX11_mean 50 = .ok (.bipush 26, 2) := by decide +kernel
theorem dX11_mean_52 : decode cX11_mean 52 = .ok (.imul, 1) := by decide +kernel
theorem dX11_mean_53 : decode cX11_mean 53 = .ok (.iload_n 3, 1) := by decide +kernel
theorem dX11_mean_54 : decode cX11_mean 54 = .ok (.iadd, 1) := by decide +kernel
theorem dX11_mean_55 : decode cX11_mean 55 = .ok (.iaload, 1) := by decide +kernel
theorem dX11_mean_56 : decode cX11_mean 56 = .ok (.aload_n 0, 1) := by decide +kernel
theorem dX11_mean_57 : decode cX11_mean 57 = .ok (.getfield 51, 3) := by decide +kernel
theorem dX11_mean_60 : decode cX11_mean 60 = .ok (.iload_n 1, 1) := by decide +kernel
theorem dX11_mean_61 : decode cX11_mean 61 = .ok (.iload_n 2, 1) := by decide +kernel
theorem dX11_mean_62 : decode cX11_mean 62 = .ok (.invokevirtual 206, 3) := by decide +kernel
theorem dX11_mean_65 : decode cX11_mean 65 = .ok (.l2i, 1) := by decide +kernel
theorem dX11_mean_66 : decode cX11_mean 66 = .ok (.iload 4, 2) := by decide +kernel
theorem dX11_mean_68 : decode cX11_mean 68 = .ok (.invokestatic 327, 3) := by decide +kernel
theorem dX11_mean_71 : decode cX11_mean 71 = .ok (.ireturn, 1) := by decide +kernel
theorem dX11_mean_34 : decode cX11_mean 34 = .ok (.iload 5, 2) := by decide +kernel
theorem dX11_mean_36 : decode cX11_mean 36 = .ok (.ireturn, 1) := by decide +kernel
theorem wV_11_255 : gWV "GrownKinds" 255 yX9_spell cX9_spell 8 none := ⟨wm_1274, wm_1275, wm_1276, wm_182, wm_1277, by decide +kernel, by decide +kernel⟩
def mX11_spelling (S0 : St) (a1 : Int) (a2 : Int) (a3 : Int) : Option (Int × St) := entG S0 (fun o : Int × St => o.2) (bd1 (mX11_listing S0 a1 a2) fun r_2 => gd (inI r_2) <| if r_2 = 0 then (gd (inI a3) <| if a3 < 0 then (some ((-2), S0)) else (bd1 (mX0_thingsAt_40 S0 a1 a2) fun r_8 => gd ((inL a3) ∧ (inL r_8)) <| if a3 < r_8 then (bdG1 S0 (fun o : Int × St => o.2) (mX9_spell S0 a1 a2 a3 (S0 0 16)) fun S_12 => some (0, S_12)) else (some ((-2), S0)))) else (some (r_2, S0)))
set_option maxHeartbeats 4000000 in
set_option maxRecDepth 100000 in
theorem vX11_spelling (l : Launch) {D : va_G} {cy : Nat → ClassId} {b : Nat} {S0 : St} (hn : 105 ≤ nn S0) (a1 : Int) (a2 : Int) (a3 : Int) {o1 : Int} {o2 : St} (hM : mX11_spelling S0 a1 a2 a3 = some (o1, o2)) : gI l yX11_spelling cX11_spelling 5 (some .int) 19 (nn o2 - nn S0) (zz o2 - zz S0) D cy b (nn S0) (eG b cy S0) [.ref (b + 0), .int (iI a1), .int (iI a2), .int (iI a3)] (fun r u => r = iI o1 ∧ u = (nn o2, eG b cy o2)) := by
  refine gI_of (by decide) (Nat.le_of_ble_eq_true rfl) ?_
  intro p e s m args below meth c S hr hlk hin hsz ls hl hG
  have hx := S.1
  have hb := S.2.1
  have hl : lv_has ls 5 [(0, .ref (b + 0)), (1, .int (iI a1)), (2, .int (iI a2)), (3, .int (iI a3))] := hl
  replace hG : gW D cy b (nn S0) s s.heap [] (eG b cy S0) := hG
  obtain ⟨H, eH⟩ : ∃ H, H = s.heap := ⟨_, rfl⟩
  obtain ⟨locs, elocs⟩ : ∃ locs : List Loc, locs = [] := ⟨_, rfl⟩
  rw [← eH, ← elocs] at hG
  rw [← eH, ← elocs]
  clear eH elocs
  unfold mX11_spelling at hM
  obtain ⟨hge, hM⟩ := entG_some hM
  replace hG : gX D cy b s H locs S0 0 0 S0 o2 := gX.start hG hsz hn hge
  refine lv_aload_n hx hb dX11_spelling_0 rfl (lv_at hl 0 rfl) ?_
  refine lv_iload_n hx hb dX11_spelling_1 rfl (lv_at hl 1 rfl) ?_
  refine lv_iload_n hx hb dX11_spelling_2 rfl (lv_at hl 2 rfl) ?_
  obtain ⟨r_2, hc_1, hM⟩ := bd1_some hM
  refine g_vi (As := [.int (iI a1), .int (iI a2)]) (rest := []) S hG.1 hG.2.1 (vX11_listing l hG.2.2.2.1 a1 a2 hc_1) wV_11_251 (ec_0 (b := b) (cy := cy) (X := XD b cy S0) _) cpX11 (Nat.lt_of_lt_of_le (Nat.le_of_ble_eq_true rfl) hG.2.2.2.1) dX11_spelling_3 rfl hl.1 (ar := 2) (by decide +kernel) rfl ⟨Nat.le_of_ble_eq_true rfl, Nat.le_of_ble_eq_true rfl, hG.rc, hG.rs⟩ (Nat.le_of_ble_eq_true rfl) (fun rv uu H locs hp hGc => ?_)
  obtain ⟨rfl, rfl⟩ := hp
  refine wz ?_
  replace hG := hG.same hGc
  clear hGc
  refine lv_istore (lv' := [(4, .int (iI r_2)), (0, .ref (b + 0)), (1, .int (iI a1)), (2, .int (iI a2)), (3, .int (iI a3))]) hx hb dX11_spelling_6 hl (by decide) rfl (fun ls hl => ?_)
  refine lv_iload hx hb dX11_spelling_8 (lv_at hl 0 rfl) ?_
  obtain ⟨hg_3, hM⟩ := gd_some hM
  refine gi_if_eq (tgt := 16) hx hb dX11_spelling_10 (by decide) hg_3 (fun c_4 => ?_) (fun c_4 => ?_)
  · replace hM := ifp hM c_4
    refine lv_iload_n hx hb dX11_spelling_16 rfl (lv_at hl 4 rfl) ?_
    obtain ⟨hg_5, hM⟩ := gd_some hM
    refine gi_if_lt (tgt := 35) hx hb dX11_spelling_17 (by decide) hg_5 (fun c_6 => ?_) (fun c_6 => ?_)
    · replace hM := ifp hM c_6
      refine lv_bipush (v := iI (-2)) hx hb dX11_spelling_35 (by decide) ?_
      cases hM
      exact g_iret S hr hlk hG.1 hG.2.1 dX11_spelling_37 ⟨hG.rc, hG.rs⟩ ⟨rfl, rfl⟩
    · replace hM := ifn hM c_6
      refine lv_iload_n hx hb dX11_spelling_20 rfl (lv_at hl 4 rfl) ?_
      refine gi_i2l hx hb dX11_spelling_21 hg_5 ?_
      refine lv_aload_n hx hb dX11_spelling_22 rfl (lv_at hl 1 rfl) ?_
      refine m_get S hG.1 0 7 ec_0 cpX11 wm_673 dX11_spelling_23 rfl (Nat.lt_of_lt_of_le (Nat.le_of_ble_eq_true rfl) hG.2.2.2.1) (by decide) ?_
      refine lv_iload_n hx hb dX11_spelling_26 rfl (lv_at hl 2 rfl) ?_
      refine lv_iload_n hx hb dX11_spelling_27 rfl (lv_at hl 3 rfl) ?_
      obtain ⟨r_8, hc_7, hM⟩ := bd1_some hM
      refine g_vl (As := [.int (iI a1), .int (iI a2)]) (rest := [.long (jJ a3)]) S hG.1 hG.2.1 (vX0_thingsAt_40 l hG.2.2.2.1 a1 a2 hc_7) wV_11_206 (ec_40 (b := b) (cy := cy) (X := XD b cy S0) _) cpX0 (Nat.lt_of_lt_of_le (Nat.le_of_ble_eq_true rfl) hG.2.2.2.1) dX11_spelling_28 rfl hl.1 (ar := 2) (by decide +kernel) rfl ⟨Nat.le_of_ble_eq_true rfl, Nat.le_of_ble_eq_true rfl, hG.rc, hG.rs⟩ (Nat.le_of_ble_eq_true rfl) (fun rv uu H locs hp hGc => ?_)
      obtain ⟨rfl, rfl⟩ := hp
      refine wz ?_
      replace hG := hG.same hGc
      clear hGc
      obtain ⟨hg_9, hM⟩ := gd_some hM
      refine gj_cmp_lt (tgt := 38) hx hb dX11_spelling_31 dX11_spelling_32 (by decide) hg_9.1 hg_9.2 (fun c_10 => ?_) (fun c_10 => ?_)
      · replace hM := ifp hM c_10
        refine lv_aload_n hx hb dX11_spelling_38 rfl (lv_at hl 1 rfl) ?_
        refine m_get S hG.1 0 9 ec_0 cpX11 wm_675 dX11_spelling_39 rfl (Nat.lt_of_lt_of_le (Nat.le_of_ble_eq_true rfl) hG.2.2.2.1) (by decide) ?_
        refine lv_iload_n hx hb dX11_spelling_42 rfl (lv_at hl 2 rfl) ?_
        refine lv_iload_n hx hb dX11_spelling_43 rfl (lv_at hl 3 rfl) ?_
        refine lv_iload_n hx hb dX11_spelling_44 rfl (lv_at hl 4 rfl) ?_
        refine lv_aload_n hx hb dX11_spelling_45 rfl (lv_at hl 1 rfl) ?_
        refine m_get S hG.1 0 16 ec_0 cpX11 wm_682 dX11_spelling_46 rfl (Nat.lt_of_lt_of_le (Nat.le_of_ble_eq_true rfl) hG.2.2.2.1) (by decide) ?_
        obtain ⟨S_12, hc_11, hg_13, hg_14, hM⟩ := bdG1_some hM
        have hg_15 : gle S_12 o2 := ⟨Nat.le_trans hg_14.1 gle_rfl.1, Nat.le_trans hg_14.2 gle_rfl.2⟩
        refine g_vv (As := [.int (iI a1), .int (iI a2), .int (iI a3), .int (iI (S0 0 16))]) (rest := []) S hG.1 hG.2.1 (vX9_spell l hG.2.2.2.1 a1 a2 a3 (S0 0 16) hc_11) wV_11_255 (ec_60 (b := b) (cy := cy) (X := XD b cy S0) _) cpX9 (Nat.lt_of_lt_of_le (Nat.le_of_ble_eq_true rfl) hG.2.2.2.1) dX11_spelling_49 rfl hl.1 (ar := 4) (by decide +kernel) rfl ⟨Nat.le_of_ble_eq_true rfl, Nat.le_of_ble_eq_true rfl, hG.gc hg_13 hg_15, hG.gs hg_13 hg_15⟩ (Nat.le_of_ble_eq_true rfl) (fun uu H locs hp hGc => ?_)
        obtain rfl := hp
        replace hG := hG.grow hg_13 hg_15 hGc
        clear hGc
        refine lv_iconst (v := iI 0) hx hb dX11_spelling_52 (by decide) ?_
        cases hM
        exact g_iret S hr hlk hG.1 hG.2.1 dX11_spelling_53 ⟨hG.rc, hG.rs⟩ ⟨rfl, rfl⟩
      · replace hM := ifn hM c_10
        refine lv_bipush (v := iI (-2)) hx hb dX11_spelling_35 (by decide) ?_
        cases hM
        exact g_iret S hr hlk hG.1 hG.2.1 dX11_spelling_37 ⟨hG.rc, hG.rs⟩ ⟨rfl, rfl⟩
  · replace hM := ifn hM c_4
    refine lv_iload hx hb dX11_spelling_13 (lv_at hl 0 rfl) ?_
    cases hM
    exact g_iret S hr hlk hG.1 hG.2.1 dX11_spelling_15 ⟨hG.rc, hG.rs⟩ ⟨rfl, rfl⟩
theorem wV_11_259 : gWV "GrownKinds" 259 yX11_spelling cX11_spelling 5 (some .int) := ⟨wm_1265, wm_1267, wm_54, wm_176, wm_1268, by decide +kernel, by decide +kernel⟩
def mX11_length (S0 : St) (a1 : Int) (a2 : Int) (a3 : Int) : Option (Int × St) := entG S0 (fun o : Int × St => o.2) (bdG2 S0 (fun o : Int × St => o.2) (mX11_spelling S0 a1 a2 a3) fun r_2 S_3 => gd (inI r_2) <| if r_2 = 0 then (some ((S_3 60 4), S_3)) else (some (r_2, S_3)))
set_option maxHeartbeats 4000000 in
set_option maxRecDepth 100000 in
theorem vX11_length (l : Launch) {D : va_G} {cy : Nat → ClassId} {b : Nat} {S0 : St} (hn : 105 ≤ nn S0) (a1 : Int) (a2 : Int) (a3 : Int) {o1 : Int} {o2 : St} (hM : mX11_length S0 a1 a2 a3 = some (o1, o2)) : gI l yX11_length cX11_length 5 (some .int) 20 (nn o2 - nn S0) (zz o2 - zz S0) D cy b (nn S0) (eG b cy S0) [.ref (b + 0), .int (iI a1), .int (iI a2), .int (iI a3)] (fun r u => r = iI o1 ∧ u = (nn o2, eG b cy o2)) := by
  refine gI_of (by decide) (Nat.le_of_ble_eq_true rfl) ?_
  intro p e s m args below meth c S hr hlk hin hsz ls hl hG
  have hx := S.1
  have hb := S.2.1
  have hl : lv_has ls 5 [(0, .ref (b + 0)), (1, .int (iI a1)), (2, .int (iI a2)), (3, .int (iI a3))] := hl
  replace hG : gW D cy b (nn S0) s s.heap [] (eG b cy S0) := hG
  obtain ⟨H, eH⟩ : ∃ H, H = s.heap := ⟨_, rfl⟩
  obtain ⟨locs, elocs⟩ : ∃ locs : List Loc, locs = [] := ⟨_, rfl⟩
  rw [← eH, ← elocs] at hG
  rw [← eH, ← elocs]
  clear eH elocs
  unfold mX11_length at hM
  obtain ⟨hge, hM⟩ := entG_some hM
  replace hG : gX D cy b s H locs S0 0 0 S0 o2 := gX.start hG hsz hn hge
  refine lv_aload_n hx hb dX11_length_0 rfl (lv_at hl 0 rfl) ?_
  refine lv_iload_n hx hb dX11_length_1 rfl (lv_at hl 1 rfl) ?_
  refine lv_iload_n hx hb dX11_length_2 rfl (lv_at hl 2 rfl) ?_
  refine lv_iload_n hx hb dX11_length_3 rfl (lv_at hl 3 rfl) ?_
  obtain ⟨r_2, S_3, hc_1, hg_4, hg_5, hM⟩ := bdG2_some hM
  have hg_6 : gle S_3 o2 := ⟨Nat.le_trans hg_5.1 gle_rfl.1, Nat.le_trans hg_5.2 gle_rfl.2⟩
  refine g_vi (As := [.int (iI a1), .int (iI a2), .int (iI a3)]) (rest := []) S hG.1 hG.2.1 (vX11_spelling l hG.2.2.2.1 a1 a2 a3 hc_1) wV_11_259 (ec_0 (b := b) (cy := cy) (X := XD b cy S0) _) cpX11 (Nat.lt_of_lt_of_le (Nat.le_of_ble_eq_true rfl) hG.2.2.2.1) dX11_length_4 rfl hl.1 (ar := 3) (by decide +kernel) rfl ⟨Nat.le_of_ble_eq_true rfl, Nat.le_of_ble_eq_true rfl, hG.gc hg_4 hg_6, hG.gs hg_4 hg_6⟩ (Nat.le_of_ble_eq_true rfl) (fun rv uu H locs hp hGc => ?_)
  obtain ⟨rfl, rfl⟩ := hp
  replace hG := hG.grow hg_4 hg_6 hGc
  clear hGc
  refine lv_istore (lv' := [(4, .int (iI r_2)), (0, .ref (b + 0)), (1, .int (iI a1)), (2, .int (iI a2)), (3, .int (iI a3))]) hx hb dX11_length_7 hl (by decide) rfl (fun ls hl => ?_)
  refine lv_iload hx hb dX11_length_9 (lv_at hl 0 rfl) ?_
  obtain ⟨hg_7, hM⟩ := gd_some hM
  refine gi_if_eq (tgt := 19) hx hb dX11_length_11 (by decide) hg_7 (fun c_8 => ?_) (fun c_8 => ?_)
  · replace hM := ifp hM c_8
    refine lv_aload_n hx hb dX11_length_19 rfl (lv_at hl 1 rfl) ?_
    refine m_get S hG.1 0 9 ec_0 cpX11 wm_675 dX11_length_20 rfl (Nat.lt_of_lt_of_le (Nat.le_of_ble_eq_true rfl) hG.2.2.2.1) (by decide) ?_
    refine m_get S hG.1 60 4 ec_60 cpX9 wm_501 dX11_length_23 rfl (Nat.lt_of_lt_of_le (Nat.le_of_ble_eq_true rfl) hG.2.2.2.1) (by decide) ?_
    cases hM
    exact g_iret S hr hlk hG.1 hG.2.1 dX11_length_26 ⟨hG.rc, hG.rs⟩ ⟨rfl, rfl⟩
  · replace hM := ifn hM c_8
    refine lv_iload hx hb dX11_length_14 (lv_at hl 0 rfl) ?_
    refine lv_goto (tgt := 26) hx hb dX11_length_16 (by decide) ?_
    cases hM
    exact g_iret S hr hlk hG.1 hG.2.1 dX11_length_26 ⟨hG.rc, hG.rs⟩ ⟨rfl, rfl⟩
theorem wV_11_266 : gWV "GrownKinds" 266 yX9_signAt cX9_signAt 2 (some .int) := ⟨wm_1429, wm_1430, wm_1431, wm_182, wm_1432, by decide +kernel, by decide +kernel⟩
def mX11_sign (S0 : St) (a1 : Int) (a2 : Int) (a3 : Int) (a4 : Int) : Option (Int × St) := entG S0 (fun o : Int × St => o.2) (gd (inI a4) <| if 0 ≤ a4 then (bdG2 S0 (fun o : Int × St => o.2) (mX11_spelling S0 a1 a2 a3) fun r_4 S_5 => gd (inI r_4) <| if r_4 = 0 then (bdG2 S_5 (fun o : Int × St => o.2) (mX9_signAt S_5 a4) fun r_12 S_13 => some (r_12, S_13)) else (some (r_4, S_5))) else (some ((-2), S0)))
set_option maxHeartbeats 4000000 in
set_option maxRecDepth 100000 in
theorem vX11_sign (l : Launch) {D : va_G} {cy : Nat → ClassId} {b : Nat} {S0 : St} (hn : 105 ≤ nn S0) (a1 : Int) (a2 : Int) (a3 : Int) (a4 : Int) {o1 : Int} {o2 : St} (hM : mX11_sign S0 a1 a2 a3 a4 = some (o1, o2)) : gI l yX11_sign cX11_sign 6 (some .int) 20 (nn o2 - nn S0) (zz o2 - zz S0) D cy b (nn S0) (eG b cy S0) [.ref (b + 0), .int (iI a1), .int (iI a2), .int (iI a3), .int (iI a4)] (fun r u => r = iI o1 ∧ u = (nn o2, eG b cy o2)) := by
  refine gI_of (by decide) (Nat.le_of_ble_eq_true rfl) ?_
  intro p e s m args below meth c S hr hlk hin hsz ls hl hG
  have hx := S.1
  have hb := S.2.1
  have hl : lv_has ls 6 [(0, .ref (b + 0)), (1, .int (iI a1)), (2, .int (iI a2)), (3, .int (iI a3)), (4, .int (iI a4))] := hl
  replace hG : gW D cy b (nn S0) s s.heap [] (eG b cy S0) := hG
  obtain ⟨H, eH⟩ : ∃ H, H = s.heap := ⟨_, rfl⟩
  obtain ⟨locs, elocs⟩ : ∃ locs : List Loc, locs = [] := ⟨_, rfl⟩
  rw [← eH, ← elocs] at hG
  rw [← eH, ← elocs]
  clear eH elocs
  unfold mX11_sign at hM
  obtain ⟨hge, hM⟩ := entG_some hM
  replace hG : gX D cy b s H locs S0 0 0 S0 o2 := gX.start hG hsz hn hge
  refine lv_iload hx hb dX11_sign_0 (lv_at hl 4 rfl) ?_
  obtain ⟨hg_1, hM⟩ := gd_some hM
  refine gi_if_ge (tgt := 8) hx hb dX11_sign_2 (by decide) hg_1 (fun c_2 => ?_) (fun c_2 => ?_)
  · replace hM := ifp hM c_2
    refine lv_aload_n hx hb dX11_sign_8 rfl (lv_at hl 0 rfl) ?_
    refine lv_iload_n hx hb dX11_sign_9 rfl (lv_at hl 1 rfl) ?_
    refine lv_iload_n hx hb dX11_sign_10 rfl (lv_at hl 2 rfl) ?_
    refine lv_iload_n hx hb dX11_sign_11 rfl (lv_at hl 3 rfl) ?_
    obtain ⟨r_4, S_5, hc_3, hg_6, hg_7, hM⟩ := bdG2_some hM
    have hg_8 : gle S_5 o2 := ⟨Nat.le_trans hg_7.1 gle_rfl.1, Nat.le_trans hg_7.2 gle_rfl.2⟩
    refine g_vi (As := [.int (iI a1), .int (iI a2), .int (iI a3)]) (rest := []) S hG.1 hG.2.1 (vX11_spelling l hG.2.2.2.1 a1 a2 a3 hc_3) wV_11_259 (ec_0 (b := b) (cy := cy) (X := XD b cy S0) _) cpX11 (Nat.lt_of_lt_of_le (Nat.le_of_ble_eq_true rfl) hG.2.2.2.1) dX11_sign_12 rfl hl.1 (ar := 3) (by decide +kernel) rfl ⟨Nat.le_of_ble_eq_true rfl, Nat.le_of_ble_eq_true rfl, hG.gc hg_6 hg_8, hG.gs hg_6 hg_8⟩ (Nat.le_of_ble_eq_true rfl) (fun rv uu H locs hp hGc => ?_)
    obtain ⟨rfl, rfl⟩ := hp
    replace hG := hG.grow hg_6 hg_8 hGc
    clear hGc
    refine lv_istore (lv' := [(5, .int (iI r_4)), (0, .ref (b + 0)), (1, .int (iI a1)), (2, .int (iI a2)), (3, .int (iI a3)), (4, .int (iI a4))]) hx hb dX11_sign_15 hl (by decide) rfl (fun ls hl => ?_)
    refine lv_iload hx hb dX11_sign_17 (lv_at hl 0 rfl) ?_
    obtain ⟨hg_9, hM⟩ := gd_some hM
    refine gi_if_eq (tgt := 27) hx hb dX11_sign_19 (by decide) hg_9 (fun c_10 => ?_) (fun c_10 => ?_)
    · replace hM := ifp hM c_10
      refine lv_aload_n hx hb dX11_sign_27 rfl (lv_at hl 1 rfl) ?_
      refine m_get S hG.1 0 9 ec_0 cpX11 wm_675 dX11_sign_28 rfl (Nat.lt_of_lt_of_le (Nat.le_of_ble_eq_true rfl) hG.2.2.2.1) (by decide) ?_
      refine lv_iload hx hb dX11_sign_31 (lv_at hl 5 rfl) ?_
      obtain ⟨r_12, S_13, hc_11, hg_14, hg_15, hM⟩ := bdG2_some hM
      have hg_16 : gle S_13 o2 := ⟨Nat.le_trans hg_15.1 gle_rfl.1, Nat.le_trans hg_15.2 gle_rfl.2⟩
      refine g_vi (As := [.int (iI a4)]) (rest := []) S hG.1 hG.2.1 (vX9_signAt l hG.2.2.2.1 a4 hc_11) wV_11_266 (ec_60 (b := b) (cy := cy) (X := XD b cy S_5) _) cpX9 (Nat.lt_of_lt_of_le (Nat.le_of_ble_eq_true rfl) hG.2.2.2.1) dX11_sign_33 rfl hl.1 (ar := 1) (by decide +kernel) rfl ⟨Nat.le_of_ble_eq_true rfl, Nat.le_of_ble_eq_true rfl, hG.gc hg_14 hg_16, hG.gs hg_14 hg_16⟩ (Nat.le_of_ble_eq_true rfl) (fun rv uu H locs hp hGc => ?_)
      obtain ⟨rfl, rfl⟩ := hp
      replace hG := hG.grow hg_14 hg_16 hGc
      clear hGc
      cases hM
      exact g_iret S hr hlk hG.1 hG.2.1 dX11_sign_36 ⟨hG.rc, hG.rs⟩ ⟨rfl, rfl⟩
    · replace hM := ifn hM c_10
      refine lv_iload hx hb dX11_sign_22 (lv_at hl 0 rfl) ?_
      refine lv_goto (tgt := 36) hx hb dX11_sign_24 (by decide) ?_
      cases hM
      exact g_iret S hr hlk hG.1 hG.2.1 dX11_sign_36 ⟨hG.rc, hG.rs⟩ ⟨rfl, rfl⟩
  · replace hM := ifn hM c_2
    refine lv_bipush (v := iI (-2)) hx hb dX11_sign_5 (by decide) ?_
    cases hM
    exact g_iret S hr hlk hG.1 hG.2.1 dX11_sign_7 ⟨hG.rc, hG.rs⟩ ⟨rfl, rfl⟩
def mX11_deep (S0 : St) (a1 : Int) (a2 : Int) (a3 : Int) : Option (Int × St) := entG S0 (fun o : Int × St => o.2) (bdG2 S0 (fun o : Int × St => o.2) (mX11_spelling S0 a1 a2 a3) fun r_2 S_3 => gd (inI r_2) <| if r_2 = 0 then (some ((S_3 60 5), S_3)) else (some (r_2, S_3)))
set_option maxHeartbeats 4000000 in
set_option maxRecDepth 100000 in
theorem vX11_deep (l : Launch) {D : va_G} {cy : Nat → ClassId} {b : Nat} {S0 : St} (hn : 105 ≤ nn S0) (a1 : Int) (a2 : Int) (a3 : Int) {o1 : Int} {o2 : St} (hM : mX11_deep S0 a1 a2 a3 = some (o1, o2)) : gI l yX11_deep cX11_deep 5 (some .int) 20 (nn o2 - nn S0) (zz o2 - zz S0) D cy b (nn S0) (eG b cy S0) [.ref (b + 0), .int (iI a1), .int (iI a2), .int (iI a3)] (fun r u => r = iI o1 ∧ u = (nn o2, eG b cy o2)) := by
  refine gI_of (by decide) (Nat.le_of_ble_eq_true rfl) ?_
  intro p e s m args below meth c S hr hlk hin hsz ls hl hG
  have hx := S.1
  have hb := S.2.1
  have hl : lv_has ls 5 [(0, .ref (b + 0)), (1, .int (iI a1)), (2, .int (iI a2)), (3, .int (iI a3))] := hl
  replace hG : gW D cy b (nn S0) s s.heap [] (eG b cy S0) := hG
  obtain ⟨H, eH⟩ : ∃ H, H = s.heap := ⟨_, rfl⟩
  obtain ⟨locs, elocs⟩ : ∃ locs : List Loc, locs = [] := ⟨_, rfl⟩
  rw [← eH, ← elocs] at hG
  rw [← eH, ← elocs]
  clear eH elocs
  unfold mX11_deep at hM
  obtain ⟨hge, hM⟩ := entG_some hM
  replace hG : gX D cy b s H locs S0 0 0 S0 o2 := gX.start hG hsz hn hge
  refine lv_aload_n hx hb dX11_deep_0 rfl (lv_at hl 0 rfl) ?_
  refine lv_iload_n hx hb dX11_deep_1 rfl (lv_at hl 1 rfl) ?_
  refine lv_iload_n hx hb dX11_deep_2 rfl (lv_at hl 2 rfl) ?_
  refine lv_iload_n hx hb dX11_deep_3 rfl (lv_at hl 3 rfl) ?_
  obtain ⟨r_2, S_3, hc_1, hg_4, hg_5, hM⟩ := bdG2_some hM
  have hg_6 : gle S_3 o2 := ⟨Nat.le_trans hg_5.1 gle_rfl.1, Nat.le_trans hg_5.2 gle_rfl.2⟩
  refine g_vi (As := [.int (iI a1), .int (iI a2), .int (iI a3)]) (rest := []) S hG.1 hG.2.1 (vX11_spelling l hG.2.2.2.1 a1 a2 a3 hc_1) wV_11_259 (ec_0 (b := b) (cy := cy) (X := XD b cy S0) _) cpX11 (Nat.lt_of_lt_of_le (Nat.le_of_ble_eq_true rfl) hG.2.2.2.1) dX11_deep_4 rfl hl.1 (ar := 3) (by decide +kernel) rfl ⟨Nat.le_of_ble_eq_true rfl, Nat.le_of_ble_eq_true rfl, hG.gc hg_4 hg_6, hG.gs hg_4 hg_6⟩ (Nat.le_of_ble_eq_true rfl) (fun rv uu H locs hp hGc => ?_)
  obtain ⟨rfl, rfl⟩ := hp
  replace hG := hG.grow hg_4 hg_6 hGc
  clear hGc
  refine lv_istore (lv' := [(4, .int (iI r_2)), (0, .ref (b + 0)), (1, .int (iI a1)), (2, .int (iI a2)), (3, .int (iI a3))]) hx hb dX11_deep_7 hl (by decide) rfl (fun ls hl => ?_)
  refine lv_iload hx hb dX11_deep_9 (lv_at hl 0 rfl) ?_
  obtain ⟨hg_7, hM⟩ := gd_some hM
  refine gi_if_eq (tgt := 19) hx hb dX11_deep_11 (by decide) hg_7 (fun c_8 => ?_) (fun c_8 => ?_)
  · replace hM := ifp hM c_8
    refine lv_aload_n hx hb dX11_deep_19 rfl (lv_at hl 1 rfl) ?_
    refine m_get S hG.1 0 9 ec_0 cpX11 wm_675 dX11_deep_20 rfl (Nat.lt_of_lt_of_le (Nat.le_of_ble_eq_true rfl) hG.2.2.2.1) (by decide) ?_
    refine m_get S hG.1 60 5 ec_60 cpX9 wm_504 dX11_deep_23 rfl (Nat.lt_of_lt_of_le (Nat.le_of_ble_eq_true rfl) hG.2.2.2.1) (by decide) ?_
    cases hM
    exact g_iret S hr hlk hG.1 hG.2.1 dX11_deep_26 ⟨hG.rc, hG.rs⟩ ⟨rfl, rfl⟩
  · replace hM := ifn hM c_8
    refine lv_iload hx hb dX11_deep_14 (lv_at hl 0 rfl) ?_
    refine lv_goto (tgt := 26) hx hb dX11_deep_16 (by decide) ?_
    cases hM
    exact g_iret S hr hlk hG.1 hG.2.1 dX11_deep_26 ⟨hG.rc, hG.rs⟩ ⟨rfl, rfl⟩
def mX11_atoms (S0 : St) (a1 : Int) (a2 : Int) (a3 : Int) (a4 : Int) : Option (Int × St) := entG S0 (fun o : Int × St => o.2) (bd1 (mX11_lettered a4) fun r_2 => gd (inI r_2) <| if r_2 = 0 then (some ((-2), S0)) else (bdG2 S0 (fun o : Int × St => o.2) (mX11_spelling S0 a1 a2 a3) fun r_6 S_7 => gd (inI r_6) <| if r_6 = 0 then (gd (0 ≤ a4 ∧ a4 < 26) <| some ((S_7 65 a4), S_7)) else (some (r_6, S_7))))
set_option maxHeartbeats 4000000 in
set_option maxRecDepth 100000 in
theorem vX11_atoms (l : Launch) {D : va_G} {cy : Nat → ClassId} {b : Nat} {S0 : St} (hn : 105 ≤ nn S0) (a1 : Int) (a2 : Int) (a3 : Int) (a4 : Int) {o1 : Int} {o2 : St} (hM : mX11_atoms S0 a1 a2 a3 a4 = some (o1, o2)) : gI l yX11_atoms cX11_atoms 6 (some .int) 20 (nn o2 - nn S0) (zz o2 - zz S0) D cy b (nn S0) (eG b cy S0) [.ref (b + 0), .int (iI a1), .int (iI a2), .int (iI a3), .int (iI a4)] (fun r u => r = iI o1 ∧ u = (nn o2, eG b cy o2)) := by
  refine gI_of (by decide) (Nat.le_of_ble_eq_true rfl) ?_
  intro p e s m args below meth c S hr hlk hin hsz ls hl hG
  have hx := S.1
  have hb := S.2.1
  have hl : lv_has ls 6 [(0, .ref (b + 0)), (1, .int (iI a1)), (2, .int (iI a2)), (3, .int (iI a3)), (4, .int (iI a4))] := hl
  replace hG : gW D cy b (nn S0) s s.heap [] (eG b cy S0) := hG
  obtain ⟨H, eH⟩ : ∃ H, H = s.heap := ⟨_, rfl⟩
  obtain ⟨locs, elocs⟩ : ∃ locs : List Loc, locs = [] := ⟨_, rfl⟩
  rw [← eH, ← elocs] at hG
  rw [← eH, ← elocs]
  clear eH elocs
  unfold mX11_atoms at hM
  obtain ⟨hge, hM⟩ := entG_some hM
  replace hG : gX D cy b s H locs S0 0 0 S0 o2 := gX.start hG hsz hn hge
  refine lv_iload hx hb dX11_atoms_0 (lv_at hl 4 rfl) ?_
  obtain ⟨r_2, hc_1, hM⟩ := bd1_some hM
  refine g_si (As := [.int (iI a4)]) (rest := []) S hG.1 hG.2.1 (vX11_lettered l hG.2.2.2.1 a4 hc_1) wS_11_221 dX11_atoms_2 rfl hl.1 (ar := 1) (by decide +kernel) rfl ⟨Nat.le_of_ble_eq_true rfl, Nat.le_of_ble_eq_true rfl, hG.rc, hG.rs⟩ (Nat.le_of_ble_eq_true rfl) (fun rv uu H locs hp hGc => ?_)
  obtain ⟨rfl, rfl⟩ := hp
  refine wz ?_
  replace hG := hG.same hGc
  clear hGc
  obtain ⟨hg_3, hM⟩ := gd_some hM
  refine gi_if_ne (tgt := 11) hx hb dX11_atoms_5 (by decide) hg_3 (fun c_4 => ?_) (fun c_4 => ?_)
  · replace hM := ifn hM c_4
    refine lv_aload_n hx hb dX11_atoms_11 rfl (lv_at hl 0 rfl) ?_
    refine lv_iload_n hx hb dX11_atoms_12 rfl (lv_at hl 1 rfl) ?_
    refine lv_iload_n hx hb dX11_atoms_13 rfl (lv_at hl 2 rfl) ?_
    refine lv_iload_n hx hb dX11_atoms_14 rfl (lv_at hl 3 rfl) ?_
    obtain ⟨r_6, S_7, hc_5, hg_8, hg_9, hM⟩ := bdG2_some hM
    have hg_10 : gle S_7 o2 := ⟨Nat.le_trans hg_9.1 gle_rfl.1, Nat.le_trans hg_9.2 gle_rfl.2⟩
    refine g_vi (As := [.int (iI a1), .int (iI a2), .int (iI a3)]) (rest := []) S hG.1 hG.2.1 (vX11_spelling l hG.2.2.2.1 a1 a2 a3 hc_5) wV_11_259 (ec_0 (b := b) (cy := cy) (X := XD b cy S0) _) cpX11 (Nat.lt_of_lt_of_le (Nat.le_of_ble_eq_true rfl) hG.2.2.2.1) dX11_atoms_15 rfl hl.1 (ar := 3) (by decide +kernel) rfl ⟨Nat.le_of_ble_eq_true rfl, Nat.le_of_ble_eq_true rfl, hG.gc hg_8 hg_10, hG.gs hg_8 hg_10⟩ (Nat.le_of_ble_eq_true rfl) (fun rv uu H locs hp hGc => ?_)
    obtain ⟨rfl, rfl⟩ := hp
    replace hG := hG.grow hg_8 hg_10 hGc
    clear hGc
    refine lv_istore (lv' := [(5, .int (iI r_6)), (0, .ref (b + 0)), (1, .int (iI a1)), (2, .int (iI a2)), (3, .int (iI a3)), (4, .int (iI a4))]) hx hb dX11_atoms_18 hl (by decide) rfl (fun ls hl => ?_)
    refine lv_iload hx hb dX11_atoms_20 (lv_at hl 0 rfl) ?_
    obtain ⟨hg_11, hM⟩ := gd_some hM
    refine gi_if_eq (tgt := 30) hx hb dX11_atoms_22 (by decide) hg_11 (fun c_12 => ?_) (fun c_12 => ?_)
    · replace hM := ifp hM c_12
      refine lv_aload_n hx hb dX11_atoms_30 rfl (lv_at hl 1 rfl) ?_
      refine m_get S hG.1 0 9 ec_0 cpX11 wm_675 dX11_atoms_31 rfl (Nat.lt_of_lt_of_le (Nat.le_of_ble_eq_true rfl) hG.2.2.2.1) (by decide) ?_
      refine m_get S hG.1 60 9 ec_60 cpX9 wm_514 dX11_atoms_34 rfl (Nat.lt_of_lt_of_le (Nat.le_of_ble_eq_true rfl) hG.2.2.2.1) (by decide) ?_
      refine lv_iload hx hb dX11_atoms_37 (lv_at hl 5 rfl) ?_
      obtain ⟨hg_13, hM⟩ := gd_some hM
      refine mi_ald S hG.1 65 ec_65 (Nat.lt_of_lt_of_le (Nat.le_of_ble_eq_true rfl) hG.2.2.2.1) dX11_atoms_39 hg_13 (by decide) ?_
      cases hM
      exact g_iret S hr hlk hG.1 hG.2.1 dX11_atoms_40 ⟨hG.rc, hG.rs⟩ ⟨rfl, rfl⟩
    · replace hM := ifn hM c_12
      refine lv_iload hx hb dX11_atoms_25 (lv_at hl 0 rfl) ?_
      refine lv_goto (tgt := 40) hx hb dX11_atoms_27 (by decide) ?_
      cases hM
      exact g_iret S hr hlk hG.1 hG.2.1 dX11_atoms_40 ⟨hG.rc, hG.rs⟩ ⟨rfl, rfl⟩
  · replace hM := ifp hM c_4
    refine lv_bipush (v := iI (-2)) hx hb dX11_atoms_8 (by decide) ?_
    cases hM
    exact g_iret S hr hlk hG.1 hG.2.1 dX11_atoms_10 ⟨hG.rc, hG.rs⟩ ⟨rfl, rfl⟩
def mX11_term (S0 : St) (a1 : Int) (a2 : Int) (a3 : Int) : Option (Int × St) := entG S0 (fun o : Int × St => o.2) (bdG2 S0 (fun o : Int × St => o.2) (mX11_spelling S0 a1 a2 a3) fun r_2 S_3 => gd (inI r_2) <| if r_2 = 0 then (some ((S_3 60 7), S_3)) else (some (r_2, S_3)))
set_option maxHeartbeats 4000000 in
set_option maxRecDepth 100000 in
theorem vX11_term (l : Launch) {D : va_G} {cy : Nat → ClassId} {b : Nat} {S0 : St} (hn : 105 ≤ nn S0) (a1 : Int) (a2 : Int) (a3 : Int) {o1 : Int} {o2 : St} (hM : mX11_term S0 a1 a2 a3 = some (o1, o2)) : gI l yX11_term cX11_term 5 (some .int) 20 (nn o2 - nn S0) (zz o2 - zz S0) D cy b (nn S0) (eG b cy S0) [.ref (b + 0), .int (iI a1), .int (iI a2), .int (iI a3)] (fun r u => r = iI o1 ∧ u = (nn o2, eG b cy o2)) := by
  refine gI_of (by decide) (Nat.le_of_ble_eq_true rfl) ?_
  intro p e s m args below meth c S hr hlk hin hsz ls hl hG
  have hx := S.1
  have hb := S.2.1
  have hl : lv_has ls 5 [(0, .ref (b + 0)), (1, .int (iI a1)), (2, .int (iI a2)), (3, .int (iI a3))] := hl
  replace hG : gW D cy b (nn S0) s s.heap [] (eG b cy S0) := hG
  obtain ⟨H, eH⟩ : ∃ H, H = s.heap := ⟨_, rfl⟩
  obtain ⟨locs, elocs⟩ : ∃ locs : List Loc, locs = [] := ⟨_, rfl⟩
  rw [← eH, ← elocs] at hG
  rw [← eH, ← elocs]
  clear eH elocs
  unfold mX11_term at hM
  obtain ⟨hge, hM⟩ := entG_some hM
  replace hG : gX D cy b s H locs S0 0 0 S0 o2 := gX.start hG hsz hn hge
  refine lv_aload_n hx hb dX11_term_0 rfl (lv_at hl 0 rfl) ?_
  refine lv_iload_n hx hb dX11_term_1 rfl (lv_at hl 1 rfl) ?_
  refine lv_iload_n hx hb dX11_term_2 rfl (lv_at hl 2 rfl) ?_
  refine lv_iload_n hx hb dX11_term_3 rfl (lv_at hl 3 rfl) ?_
  obtain ⟨r_2, S_3, hc_1, hg_4, hg_5, hM⟩ := bdG2_some hM
  have hg_6 : gle S_3 o2 := ⟨Nat.le_trans hg_5.1 gle_rfl.1, Nat.le_trans hg_5.2 gle_rfl.2⟩
  refine g_vi (As := [.int (iI a1), .int (iI a2), .int (iI a3)]) (rest := []) S hG.1 hG.2.1 (vX11_spelling l hG.2.2.2.1 a1 a2 a3 hc_1) wV_11_259 (ec_0 (b := b) (cy := cy) (X := XD b cy S0) _) cpX11 (Nat.lt_of_lt_of_le (Nat.le_of_ble_eq_true rfl) hG.2.2.2.1) dX11_term_4 rfl hl.1 (ar := 3) (by decide +kernel) rfl ⟨Nat.le_of_ble_eq_true rfl, Nat.le_of_ble_eq_true rfl, hG.gc hg_4 hg_6, hG.gs hg_4 hg_6⟩ (Nat.le_of_ble_eq_true rfl) (fun rv uu H locs hp hGc => ?_)
  obtain ⟨rfl, rfl⟩ := hp
  replace hG := hG.grow hg_4 hg_6 hGc
  clear hGc
  refine lv_istore (lv' := [(4, .int (iI r_2)), (0, .ref (b + 0)), (1, .int (iI a1)), (2, .int (iI a2)), (3, .int (iI a3))]) hx hb dX11_term_7 hl (by decide) rfl (fun ls hl => ?_)
  refine lv_iload hx hb dX11_term_9 (lv_at hl 0 rfl) ?_
  obtain ⟨hg_7, hM⟩ := gd_some hM
  refine gi_if_eq (tgt := 19) hx hb dX11_term_11 (by decide) hg_7 (fun c_8 => ?_) (fun c_8 => ?_)
  · replace hM := ifp hM c_8
    refine lv_aload_n hx hb dX11_term_19 rfl (lv_at hl 1 rfl) ?_
    refine m_get S hG.1 0 9 ec_0 cpX11 wm_675 dX11_term_20 rfl (Nat.lt_of_lt_of_le (Nat.le_of_ble_eq_true rfl) hG.2.2.2.1) (by decide) ?_
    refine m_get S hG.1 60 7 ec_60 cpX9 wm_509 dX11_term_23 rfl (Nat.lt_of_lt_of_le (Nat.le_of_ble_eq_true rfl) hG.2.2.2.1) (by decide) ?_
    cases hM
    exact g_iret S hr hlk hG.1 hG.2.1 dX11_term_26 ⟨hG.rc, hG.rs⟩ ⟨rfl, rfl⟩
  · replace hM := ifn hM c_8
    refine lv_iload hx hb dX11_term_14 (lv_at hl 0 rfl) ?_
    refine lv_goto (tgt := 26) hx hb dX11_term_16 (by decide) ?_
    cases hM
    exact g_iret S hr hlk hG.1 hG.2.1 dX11_term_26 ⟨hG.rc, hG.rs⟩ ⟨rfl, rfl⟩
def mX11_symmetries (S0 : St) (a1 : Int) (a2 : Int) (a3 : Int) : Option (Int × St) := entG S0 (fun o : Int × St => o.2) (bdG2 S0 (fun o : Int × St => o.2) (mX11_spelling S0 a1 a2 a3) fun r_2 S_3 => gd (inI r_2) <| if r_2 = 0 then (some ((S_3 60 6), S_3)) else (some (r_2, S_3)))
set_option maxHeartbeats 4000000 in
set_option maxRecDepth 100000 in
theorem vX11_symmetries (l : Launch) {D : va_G} {cy : Nat → ClassId} {b : Nat} {S0 : St} (hn : 105 ≤ nn S0) (a1 : Int) (a2 : Int) (a3 : Int) {o1 : Int} {o2 : St} (hM : mX11_symmetries S0 a1 a2 a3 = some (o1, o2)) : gI l yX11_symmetries cX11_symmetries 5 (some .int) 20 (nn o2 - nn S0) (zz o2 - zz S0) D cy b (nn S0) (eG b cy S0) [.ref (b + 0), .int (iI a1), .int (iI a2), .int (iI a3)] (fun r u => r = iI o1 ∧ u = (nn o2, eG b cy o2)) := by
  refine gI_of (by decide) (Nat.le_of_ble_eq_true rfl) ?_
  intro p e s m args below meth c S hr hlk hin hsz ls hl hG
  have hx := S.1
  have hb := S.2.1
  have hl : lv_has ls 5 [(0, .ref (b + 0)), (1, .int (iI a1)), (2, .int (iI a2)), (3, .int (iI a3))] := hl
  replace hG : gW D cy b (nn S0) s s.heap [] (eG b cy S0) := hG
  obtain ⟨H, eH⟩ : ∃ H, H = s.heap := ⟨_, rfl⟩
  obtain ⟨locs, elocs⟩ : ∃ locs : List Loc, locs = [] := ⟨_, rfl⟩
  rw [← eH, ← elocs] at hG
  rw [← eH, ← elocs]
  clear eH elocs
  unfold mX11_symmetries at hM
  obtain ⟨hge, hM⟩ := entG_some hM
  replace hG : gX D cy b s H locs S0 0 0 S0 o2 := gX.start hG hsz hn hge
  refine lv_aload_n hx hb dX11_symmetries_0 rfl (lv_at hl 0 rfl) ?_
  refine lv_iload_n hx hb dX11_symmetries_1 rfl (lv_at hl 1 rfl) ?_
  refine lv_iload_n hx hb dX11_symmetries_2 rfl (lv_at hl 2 rfl) ?_
  refine lv_iload_n hx hb dX11_symmetries_3 rfl (lv_at hl 3 rfl) ?_
  obtain ⟨r_2, S_3, hc_1, hg_4, hg_5, hM⟩ := bdG2_some hM
  have hg_6 : gle S_3 o2 := ⟨Nat.le_trans hg_5.1 gle_rfl.1, Nat.le_trans hg_5.2 gle_rfl.2⟩
  refine g_vi (As := [.int (iI a1), .int (iI a2), .int (iI a3)]) (rest := []) S hG.1 hG.2.1 (vX11_spelling l hG.2.2.2.1 a1 a2 a3 hc_1) wV_11_259 (ec_0 (b := b) (cy := cy) (X := XD b cy S0) _) cpX11 (Nat.lt_of_lt_of_le (Nat.le_of_ble_eq_true rfl) hG.2.2.2.1) dX11_symmetries_4 rfl hl.1 (ar := 3) (by decide +kernel) rfl ⟨Nat.le_of_ble_eq_true rfl, Nat.le_of_ble_eq_true rfl, hG.gc hg_4 hg_6, hG.gs hg_4 hg_6⟩ (Nat.le_of_ble_eq_true rfl) (fun rv uu H locs hp hGc => ?_)
  obtain ⟨rfl, rfl⟩ := hp
  replace hG := hG.grow hg_4 hg_6 hGc
  clear hGc
  refine lv_istore (lv' := [(4, .int (iI r_2)), (0, .ref (b + 0)), (1, .int (iI a1)), (2, .int (iI a2)), (3, .int (iI a3))]) hx hb dX11_symmetries_7 hl (by decide) rfl (fun ls hl => ?_)
  refine lv_iload hx hb dX11_symmetries_9 (lv_at hl 0 rfl) ?_
  obtain ⟨hg_7, hM⟩ := gd_some hM
  refine gi_if_eq (tgt := 19) hx hb dX11_symmetries_11 (by decide) hg_7 (fun c_8 => ?_) (fun c_8 => ?_)
  · replace hM := ifp hM c_8
    refine lv_aload_n hx hb dX11_symmetries_19 rfl (lv_at hl 1 rfl) ?_
    refine m_get S hG.1 0 9 ec_0 cpX11 wm_675 dX11_symmetries_20 rfl (Nat.lt_of_lt_of_le (Nat.le_of_ble_eq_true rfl) hG.2.2.2.1) (by decide) ?_
    refine m_get S hG.1 60 6 ec_60 cpX9 wm_507 dX11_symmetries_23 rfl (Nat.lt_of_lt_of_le (Nat.le_of_ble_eq_true rfl) hG.2.2.2.1) (by decide) ?_
    cases hM
    exact g_iret S hr hlk hG.1 hG.2.1 dX11_symmetries_26 ⟨hG.rc, hG.rs⟩ ⟨rfl, rfl⟩
  · replace hM := ifn hM c_8
    refine lv_iload hx hb dX11_symmetries_14 (lv_at hl 0 rfl) ?_
    refine lv_goto (tgt := 26) hx hb dX11_symmetries_16 (by decide) ?_
    cases hM
    exact g_iret S hr hlk hG.1 hG.2.1 dX11_symmetries_26 ⟨hG.rc, hG.rs⟩ ⟨rfl, rfl⟩
def mX11_labels (S0 : St) (a1 : Int) (a2 : Int) (a3 : Int) : Option (Int × St) := entG S0 (fun o : Int × St => o.2) (bdG2 S0 (fun o : Int × St => o.2) (mX11_spelling S0 a1 a2 a3) fun r_2 S_3 => gd (inI r_2) <| if r_2 = 0 then (gd (inI (S_3 60 6)) <| if 1 ≤ (S_3 60 6) then (gd (0 ≤ a2 ∧ a2 < 8) <| gd ((0 ≤ (sby lFACTORIAL a2) ∧ (sby lFACTORIAL a2) ≤ 2147483647) ∧ (0 < (S_3 60 6) ∧ (S_3 60 6) ≤ 2147483647)) <| some (((sby lFACTORIAL a2) / (S_3 60 6)), S_3)) else (gd (0 ≤ a2 ∧ a2 < 8) <| some ((sby lFACTORIAL a2), S_3))) else (some (r_2, S_3)))
set_option maxHeartbeats 4000000 in
set_option maxRecDepth 100000 in
theorem vX11_labels (l : Launch) {D : va_G} {cy : Nat → ClassId} {b : Nat} {S0 : St} (hn : 105 ≤ nn S0) (a1 : Int) (a2 : Int) (a3 : Int) {o1 : Int} {o2 : St} (hM : mX11_labels S0 a1 a2 a3 = some (o1, o2)) : gI l yX11_labels cX11_labels 5 (some .int) 20 (nn o2 - nn S0) (zz o2 - zz S0) D cy b (nn S0) (eG b cy S0) [.ref (b + 0), .int (iI a1), .int (iI a2), .int (iI a3)] (fun r u => r = iI o1 ∧ u = (nn o2, eG b cy o2)) := by
  refine gI_of (by decide) (Nat.le_of_ble_eq_true rfl) ?_
  intro p e s m args below meth c S hr hlk hin hsz ls hl hG
  have hx := S.1
  have hb := S.2.1
  have hl : lv_has ls 5 [(0, .ref (b + 0)), (1, .int (iI a1)), (2, .int (iI a2)), (3, .int (iI a3))] := hl
  replace hG : gW D cy b (nn S0) s s.heap [] (eG b cy S0) := hG
  obtain ⟨H, eH⟩ : ∃ H, H = s.heap := ⟨_, rfl⟩
  obtain ⟨locs, elocs⟩ : ∃ locs : List Loc, locs = [] := ⟨_, rfl⟩
  rw [← eH, ← elocs] at hG
  rw [← eH, ← elocs]
  clear eH elocs
  unfold mX11_labels at hM
  obtain ⟨hge, hM⟩ := entG_some hM
  replace hG : gX D cy b s H locs S0 0 0 S0 o2 := gX.start hG hsz hn hge
  refine lv_aload_n hx hb dX11_labels_0 rfl (lv_at hl 0 rfl) ?_
  refine lv_iload_n hx hb dX11_labels_1 rfl (lv_at hl 1 rfl) ?_
  refine lv_iload_n hx hb dX11_labels_2 rfl (lv_at hl 2 rfl) ?_
  refine lv_iload_n hx hb dX11_labels_3 rfl (lv_at hl 3 rfl) ?_
  obtain ⟨r_2, S_3, hc_1, hg_4, hg_5, hM⟩ := bdG2_some hM
  have hg_6 : gle S_3 o2 := ⟨Nat.le_trans hg_5.1 gle_rfl.1, Nat.le_trans hg_5.2 gle_rfl.2⟩
  refine g_vi (As := [.int (iI a1), .int (iI a2), .int (iI a3)]) (rest := []) S hG.1 hG.2.1 (vX11_spelling l hG.2.2.2.1 a1 a2 a3 hc_1) wV_11_259 (ec_0 (b := b) (cy := cy) (X := XD b cy S0) _) cpX11 (Nat.lt_of_lt_of_le (Nat.le_of_ble_eq_true rfl) hG.2.2.2.1) dX11_labels_4 rfl hl.1 (ar := 3) (by decide +kernel) rfl ⟨Nat.le_of_ble_eq_true rfl, Nat.le_of_ble_eq_true rfl, hG.gc hg_4 hg_6, hG.gs hg_4 hg_6⟩ (Nat.le_of_ble_eq_true rfl) (fun rv uu H locs hp hGc => ?_)
  obtain ⟨rfl, rfl⟩ := hp
  replace hG := hG.grow hg_4 hg_6 hGc
  clear hGc
  refine lv_istore (lv' := [(4, .int (iI r_2)), (0, .ref (b + 0)), (1, .int (iI a1)), (2, .int (iI a2)), (3, .int (iI a3))]) hx hb dX11_labels_7 hl (by decide) rfl (fun ls hl => ?_)
  refine lv_iload hx hb dX11_labels_9 (lv_at hl 0 rfl) ?_
  obtain ⟨hg_7, hM⟩ := gd_some hM
  refine gi_if_eq (tgt := 17) hx hb dX11_labels_11 (by decide) hg_7 (fun c_8 => ?_) (fun c_8 => ?_)
  · replace hM := ifp hM c_8
    refine lv_aload_n hx hb dX11_labels_17 rfl (lv_at hl 1 rfl) ?_
    refine m_get S hG.1 0 9 ec_0 cpX11 wm_675 dX11_labels_18 rfl (Nat.lt_of_lt_of_le (Nat.le_of_ble_eq_true rfl) hG.2.2.2.1) (by decide) ?_
    refine m_get S hG.1 60 6 ec_60 cpX9 wm_507 dX11_labels_21 rfl (Nat.lt_of_lt_of_le (Nat.le_of_ble_eq_true rfl) hG.2.2.2.1) (by decide) ?_
    refine lv_iconst (v := iI 1) hx hb dX11_labels_24 (by decide) ?_
    obtain ⟨hg_9, hM⟩ := gd_some hM
    refine gi_icmp_ge (tgt := 36) hx hb dX11_labels_25 (by decide) hg_9 (by decide) (fun c_10 => ?_) (fun c_10 => ?_)
    · replace hM := ifp hM c_10
      refine g_gsa S hG.1 gsa2 wm_1453 dX11_labels_36 ?_
      refine lv_iload_n hx hb dX11_labels_39 rfl (lv_at hl 3 rfl) ?_
      obtain ⟨hg_11, hM⟩ := gd_some hM
      refine g_sald S hG.1 gsa2 dX11_labels_40 hg_11 (by decide) ?_
      refine lv_aload_n hx hb dX11_labels_41 rfl (lv_at hl 1 rfl) ?_
      refine m_get S hG.1 0 9 ec_0 cpX11 wm_675 dX11_labels_42 rfl (Nat.lt_of_lt_of_le (Nat.le_of_ble_eq_true rfl) hG.2.2.2.1) (by decide) ?_
      refine m_get S hG.1 60 6 ec_60 cpX9 wm_507 dX11_labels_45 rfl (Nat.lt_of_lt_of_le (Nat.le_of_ble_eq_true rfl) hG.2.2.2.1) (by decide) ?_
      obtain ⟨hg_12, hM⟩ := gd_some hM
      refine gi_div hx hb dX11_labels_48 hg_12.1 hg_12.2 ?_
      cases hM
      exact g_iret S hr hlk hG.1 hG.2.1 dX11_labels_49 ⟨hG.rc, hG.rs⟩ ⟨rfl, rfl⟩
    · replace hM := ifn hM c_10
      refine g_gsa S hG.1 gsa2 wm_1453 dX11_labels_28 ?_
      refine lv_iload_n hx hb dX11_labels_31 rfl (lv_at hl 3 rfl) ?_
      obtain ⟨hg_13, hM⟩ := gd_some hM
      refine g_sald S hG.1 gsa2 dX11_labels_32 hg_13 (by decide) ?_
      refine lv_goto (tgt := 49) hx hb dX11_labels_33 (by decide) ?_
      cases hM
      exact g_iret S hr hlk hG.1 hG.2.1 dX11_labels_49 ⟨hG.rc, hG.rs⟩ ⟨rfl, rfl⟩
  · replace hM := ifn hM c_8
    refine lv_iload hx hb dX11_labels_14 (lv_at hl 0 rfl) ?_
    cases hM
    exact g_iret S hr hlk hG.1 hG.2.1 dX11_labels_16 ⟨hG.rc, hG.rs⟩ ⟨rfl, rfl⟩
theorem wV_11_308 : gWV "GrownKinds" 308 yX7_begin cX7_begin 2 none := ⟨wm_1547, wm_1548, wm_1549, wm_185, wm_1550, by decide +kernel, by decide +kernel⟩
theorem wV_11_311 : gWV "GrownKinds" 311 yX7_note cX7_note 3 none := ⟨wm_1558, wm_1559, wm_1560, wm_185, wm_1561, by decide +kernel, by decide +kernel⟩
def mX11_rolling_65 (x_9 : Int) (r_6 : Int) (a1 : Int) (a2 : Int) : Nat → Int → St → Option (St)
  | 0, _, _ => none
  | f + 1, v_16, S_17 => gd (inI v_16) <| if r_6 ≤ v_16 then (some (S_17)) else (bdG1 S_17 (fun o : St => o) (mX9_spell S_17 a1 a2 v_16 (S_17 0 16)) fun S_30 => bd1 (mX7_note S_30 x_9 v_16) fun S_35 => nx (msk S_35 S_30) fun S_36 => mX11_rolling_65 x_9 r_6 a1 a2 f (v_16 + 1) S_36)
def mX11_rolling (S0 : St) (a1 : Int) (a2 : Int) : Option (Int × St) := entG S0 (fun o : Int × St => o.2) (bd1 (mX11_listing S0 a1 a2) fun r_2 => gd (inI r_2) <| if r_2 = 0 then (bd1 (mX0_thingsAt_40 S0 a1 a2) fun r_6 => gd (inI r_6) <| if r_6 = 0 then (some ((-1), S0)) else (nx ((a1 * 8) + a2) fun x_9 => gd (0 ≤ x_9 ∧ x_9 < 48) <| gd (inI (S0 74 x_9)) <| if (S0 74 x_9) = 0 then (bd1 (mX7_begin S0 x_9) fun S_14 => nx (msk S_14 S0) fun S_15 => bdG1 S_15 (fun o : Int × St => o.2) (mX11_rolling_65 x_9 r_6 a1 a2 FU 0 S_15) fun S_18 => some (0, S_18)) else (some (0, S0)))) else (some (r_2, S0)))
set_option maxHeartbeats 4000000 in
set_option maxRecDepth 100000 in
theorem vX11_rolling (l : Launch) {D : va_G} {cy : Nat → ClassId} {b : Nat} {S0 : St} (hn : 105 ≤ nn S0) (a1 : Int) (a2 : Int) {o1 : Int} {o2 : St} (hM : mX11_rolling S0 a1 a2 = some (o1, o2)) : gI l yX11_rolling cX11_rolling 7 (some .int) 19 (nn o2 - nn S0) (zz o2 - zz S0) D cy b (nn S0) (eG b cy S0) [.ref (b + 0), .int (iI a1), .int (iI a2)] (fun r u => r = iI o1 ∧ u = (nn o2, eG b cy o2)) := by
  refine gI_of (by decide) (Nat.le_of_ble_eq_true rfl) ?_
  intro p e s m args below meth c S hr hlk hin hsz ls hl hG
  have hx := S.1
  have hb := S.2.1
  have hl : lv_has ls 7 [(0, .ref (b + 0)), (1, .int (iI a1)), (2, .int (iI a2))] := hl
  replace hG : gW D cy b (nn S0) s s.heap [] (eG b cy S0) := hG
  obtain ⟨H, eH⟩ : ∃ H, H = s.heap := ⟨_, rfl⟩
  obtain ⟨locs, elocs⟩ : ∃ locs : List Loc, locs = [] := ⟨_, rfl⟩
  rw [← eH, ← elocs] at hG
  rw [← eH, ← elocs]
  clear eH elocs
  unfold mX11_rolling at hM
  obtain ⟨hge, hM⟩ := entG_some hM
  replace hG : gX D cy b s H locs S0 0 0 S0 o2 := gX.start hG hsz hn hge
  refine lv_aload_n hx hb dX11_rolling_0 rfl (lv_at hl 0 rfl) ?_
  refine lv_iload_n hx hb dX11_rolling_1 rfl (lv_at hl 1 rfl) ?_
  refine lv_iload_n hx hb dX11_rolling_2 rfl (lv_at hl 2 rfl) ?_
  obtain ⟨r_2, hc_1, hM⟩ := bd1_some hM
  refine g_vi (As := [.int (iI a1), .int (iI a2)]) (rest := []) S hG.1 hG.2.1 (vX11_listing l hG.2.2.2.1 a1 a2 hc_1) wV_11_251 (ec_0 (b := b) (cy := cy) (X := XD b cy S0) _) cpX11 (Nat.lt_of_lt_of_le (Nat.le_of_ble_eq_true rfl) hG.2.2.2.1) dX11_rolling_3 rfl hl.1 (ar := 2) (by decide +kernel) rfl ⟨Nat.le_of_ble_eq_true rfl, Nat.le_of_ble_eq_true rfl, hG.rc, hG.rs⟩ (Nat.le_of_ble_eq_true rfl) (fun rv uu H locs hp hGc => ?_)
  obtain ⟨rfl, rfl⟩ := hp
  refine wz ?_
  replace hG := hG.same hGc
  clear hGc
  refine lv_istore_n (lv' := [(3, .int (iI r_2)), (0, .ref (b + 0)), (1, .int (iI a1)), (2, .int (iI a2))]) hx hb dX11_rolling_6 rfl hl (by decide) rfl (fun ls hl => ?_)
  refine lv_iload_n hx hb dX11_rolling_7 rfl (lv_at hl 0 rfl) ?_
  obtain ⟨hg_3, hM⟩ := gd_some hM
  refine gi_if_eq (tgt := 13) hx hb dX11_rolling_8 (by decide) hg_3 (fun c_4 => ?_) (fun c_4 => ?_)
  · replace hM := ifp hM c_4
    refine lv_aload_n hx hb dX11_rolling_13 rfl (lv_at hl 1 rfl) ?_
    refine m_get S hG.1 0 7 ec_0 cpX11 wm_673 dX11_rolling_14 rfl (Nat.lt_of_lt_of_le (Nat.le_of_ble_eq_true rfl) hG.2.2.2.1) (by decide) ?_
    refine lv_iload_n hx hb dX11_rolling_17 rfl (lv_at hl 2 rfl) ?_
    refine lv_iload_n hx hb dX11_rolling_18 rfl (lv_at hl 3 rfl) ?_
    obtain ⟨r_6, hc_5, hM⟩ := bd1_some hM
    refine g_vl (As := [.int (iI a1), .int (iI a2)]) (rest := []) S hG.1 hG.2.1 (vX0_thingsAt_40 l hG.2.2.2.1 a1 a2 hc_5) wV_11_206 (ec_40 (b := b) (cy := cy) (X := XD b cy S0) _) cpX0 (Nat.lt_of_lt_of_le (Nat.le_of_ble_eq_true rfl) hG.2.2.2.1) dX11_rolling_19 rfl hl.1 (ar := 2) (by decide +kernel) rfl ⟨Nat.le_of_ble_eq_true rfl, Nat.le_of_ble_eq_true rfl, hG.rc, hG.rs⟩ (Nat.le_of_ble_eq_true rfl) (fun rv uu H locs hp hGc => ?_)
    obtain ⟨rfl, rfl⟩ := hp
    refine wz ?_
    replace hG := hG.same hGc
    clear hGc
    refine gj_l2i hx hb dX11_rolling_22 ?_
    refine lv_istore (lv' := [(4, .int (iI r_6)), (3, .int (iI r_2)), (0, .ref (b + 0)), (1, .int (iI a1)), (2, .int (iI a2))]) hx hb dX11_rolling_23 hl (by decide) rfl (fun ls hl => ?_)
    refine lv_iload hx hb dX11_rolling_25 (lv_at hl 0 rfl) ?_
    obtain ⟨hg_7, hM⟩ := gd_some hM
    refine gi_if_ne (tgt := 32) hx hb dX11_rolling_27 (by decide) hg_7 (fun c_8 => ?_) (fun c_8 => ?_)
    · replace hM := ifn hM c_8
      refine lv_iload_n hx hb dX11_rolling_32 rfl (lv_at hl 3 rfl) ?_
      refine lv_bipush (v := iI 8) hx hb dX11_rolling_33 (by decide) ?_
      refine gi_mul hx hb dX11_rolling_35 ?_
      refine lv_iload_n hx hb dX11_rolling_36 rfl (lv_at hl 4 rfl) ?_
      refine gi_add hx hb dX11_rolling_37 ?_
      refine gi_nm (fun x_9 ex_9 => ?_)
      replace hM := nx_at hM ex_9
      clear ex_9
      refine lv_istore (lv' := [(5, .int (iI x_9)), (4, .int (iI r_6)), (3, .int (iI r_2)), (0, .ref (b + 0)), (1, .int (iI a1)), (2, .int (iI a2))]) hx hb dX11_rolling_38 hl (by decide) rfl (fun ls hl => ?_)
      refine lv_aload_n hx hb dX11_rolling_40 rfl (lv_at hl 3 rfl) ?_
      refine m_get S hG.1 0 11 ec_0 cpX11 wm_677 dX11_rolling_41 rfl (Nat.lt_of_lt_of_le (Nat.le_of_ble_eq_true rfl) hG.2.2.2.1) (by decide) ?_
      refine m_get S hG.1 73 1 ec_73 cpX7 wm_606 dX11_rolling_44 rfl (Nat.lt_of_lt_of_le (Nat.le_of_ble_eq_true rfl) hG.2.2.2.1) (by decide) ?_
      refine lv_iload hx hb dX11_rolling_47 (lv_at hl 0 rfl) ?_
      obtain ⟨hg_10, hM⟩ := gd_some hM
      refine mz_ald S hG.1 74 ec_74 (Nat.lt_of_lt_of_le (Nat.le_of_ble_eq_true rfl) hG.2.2.2.1) dX11_rolling_49 hg_10 (by decide) ?_
      obtain ⟨hg_11, hM⟩ := gd_some hM
      refine gi_if_ne (tgt := 104) hx hb dX11_rolling_50 (by decide) hg_11 (fun c_12 => ?_) (fun c_12 => ?_)
      · replace hM := ifn hM c_12
        refine lv_iconst (v := iI 0) hx hb dX11_rolling_104 (by decide) ?_
        cases hM
        exact g_iret S hr hlk hG.1 hG.2.1 dX11_rolling_105 ⟨hG.rc, hG.rs⟩ ⟨rfl, rfl⟩
      · replace hM := ifp hM c_12
        refine lv_aload_n hx hb dX11_rolling_53 rfl (lv_at hl 3 rfl) ?_
        refine m_get S hG.1 0 11 ec_0 cpX11 wm_677 dX11_rolling_54 rfl (Nat.lt_of_lt_of_le (Nat.le_of_ble_eq_true rfl) hG.2.2.2.1) (by decide) ?_
        refine lv_iload hx hb dX11_rolling_57 (lv_at hl 0 rfl) ?_
        obtain ⟨S_14, hc_13, hM⟩ := bd1_some hM
        refine g_vv (As := [.int (iI x_9)]) (rest := []) S hG.1 hG.2.1 (vX7_begin l hG.2.2.2.1 x_9 hc_13) wV_11_308 (ec_73 (b := b) (cy := cy) (X := XD b cy S0) _) cpX7 (Nat.lt_of_lt_of_le (Nat.le_of_ble_eq_true rfl) hG.2.2.2.1) dX11_rolling_59 rfl hl.1 (ar := 1) (by decide +kernel) rfl ⟨Nat.le_of_ble_eq_true rfl, Nat.le_of_ble_eq_true rfl, hG.rc, hG.rs⟩ (Nat.le_of_ble_eq_true rfl) (fun uu H locs hp hGc => ?_)
        obtain rfl := hp
        refine wz ?_
        replace hG := hG.back hGc
        clear hGc
        obtain ⟨S_15, eS_15⟩ : ∃ q, q = msk S_14 S0 := ⟨_, rfl⟩
        rw [← eS_15] at hG
        replace hM := nx_at hM eS_15
        clear eS_15
        refine lv_iconst (v := iI 0) hx hb dX11_rolling_62 (by decide) ?_
        refine lv_istore (lv' := [(6, .int (iI 0)), (5, .int (iI x_9)), (4, .int (iI r_6)), (3, .int (iI r_2)), (0, .ref (b + 0)), (1, .int (iI a1)), (2, .int (iI a2))]) hx hb dX11_rolling_63 hl (by decide) rfl (fun ls hl => ?_)
        obtain ⟨S_18, hc_19, hg_20, hg_21, hM⟩ := bdG1_some hM
        have hub_22 : gle S_18 o2 := ⟨Nat.le_trans hg_21.1 gle_rfl.1, Nat.le_trans hg_21.2 gle_rfl.2⟩
        have hK_23 : ∀ (ce sl : Nat) (H : Heap) (locs : List Loc) (ls : Array Slot), gX D cy b s H locs S_18 ce sl S0 o2 → lv_has ls 7 [] → W p l e (gRm 19 (nn o2 - nn S0) (zz o2 - zz S0)) s m args below meth c H locs ce sl (gQI D cy b s args below (nn o2 - nn S0) (zz o2 - zz S0) (fun r u => r = iI o1 ∧ u = (nn o2, eG b cy o2))) (F0 m 104 ls []) := by
          intro ce sl H locs ls hG hl
          refine lv_iconst (v := iI 0) hx hb dX11_rolling_104 (by decide) ?_
          cases hM
          exact g_iret S hr hlk hG.1 hG.2.1 dX11_rolling_105 ⟨hG.rc, hG.rs⟩ ⟨rfl, rfl⟩
        have loop_24 : ∀ (f : Nat) (v_16 : Int) (S_17 : St) (ce sl : Nat) (H : Heap) (locs : List Loc) (ls : Array Slot), mX11_rolling_65 x_9 r_6 a1 a2 f v_16 S_17 = some S_18 → gX D cy b s H locs S_17 ce sl S0 o2 → lv_has ls 7 [(6, .int (iI v_16)), (5, .int (iI x_9)), (4, .int (iI r_6)), (0, .ref (b + 0)), (1, .int (iI a1)), (2, .int (iI a2))] → W p l e (gRm 19 (nn o2 - nn S0) (zz o2 - zz S0)) s m args below meth c H locs ce sl (gQI D cy b s args below (nn o2 - nn S0) (zz o2 - zz S0) (fun r u => r = iI o1 ∧ u = (nn o2, eG b cy o2))) (F0 m 65 ls []) := by
          clear hM
          intro f
          induction f with
          | zero => intro v_16 S_17 ce sl H locs ls hM; rw [mX11_rolling_65] at hM; cases hM
          | succ f_26 ih_25 =>
            intro v_16 S_17 ce sl H locs ls hM hG hl
            rw [mX11_rolling_65] at hM
            refine lv_iload hx hb dX11_rolling_65 (lv_at hl 0 rfl) ?_
            refine lv_iload hx hb dX11_rolling_67 (lv_at hl 2 rfl) ?_
            obtain ⟨hg_27, hM⟩ := gd_some hM
            refine gi_icmp_ge (tgt := 104) hx hb dX11_rolling_69 (by decide) hg_27 hg_7 (fun c_28 => ?_) (fun c_28 => ?_)
            · replace hM := ifp hM c_28
              cases hM
              exact hK_23 _ _ H locs ls hG (lv_sub hl [] rfl)
            · replace hM := ifn hM c_28
              refine lv_aload_n hx hb dX11_rolling_72 rfl (lv_at hl 3 rfl) ?_
              refine m_get S hG.1 0 9 ec_0 cpX11 wm_675 dX11_rolling_73 rfl (Nat.lt_of_lt_of_le (Nat.le_of_ble_eq_true rfl) hG.2.2.2.1) (by decide) ?_
              refine lv_iload_n hx hb dX11_rolling_76 rfl (lv_at hl 4 rfl) ?_
              refine lv_iload_n hx hb dX11_rolling_77 rfl (lv_at hl 5 rfl) ?_
              refine lv_iload hx hb dX11_rolling_78 (lv_at hl 0 rfl) ?_
              refine lv_aload_n hx hb dX11_rolling_80 rfl (lv_at hl 3 rfl) ?_
              refine m_get S hG.1 0 16 ec_0 cpX11 wm_682 dX11_rolling_81 rfl (Nat.lt_of_lt_of_le (Nat.le_of_ble_eq_true rfl) hG.2.2.2.1) (by decide) ?_
              obtain ⟨S_30, hc_29, hg_31, hg_32, hM⟩ := bdG1_some hM
              have hg_33 : gle S_30 o2 := ⟨Nat.le_trans hg_32.1 hub_22.1, Nat.le_trans hg_32.2 hub_22.2⟩
              refine g_vv (As := [.int (iI a1), .int (iI a2), .int (iI v_16), .int (iI (S_17 0 16))]) (rest := []) S hG.1 hG.2.1 (vX9_spell l hG.2.2.2.1 a1 a2 v_16 (S_17 0 16) hc_29) wV_11_255 (ec_60 (b := b) (cy := cy) (X := XD b cy S_17) _) cpX9 (Nat.lt_of_lt_of_le (Nat.le_of_ble_eq_true rfl) hG.2.2.2.1) dX11_rolling_84 rfl hl.1 (ar := 4) (by decide +kernel) rfl ⟨Nat.le_of_ble_eq_true rfl, Nat.le_of_ble_eq_true rfl, hG.gc hg_31 hg_33, hG.gs hg_31 hg_33⟩ (Nat.le_of_ble_eq_true rfl) (fun uu H locs hp hGc => ?_)
              obtain rfl := hp
              replace hG := hG.grow hg_31 hg_33 hGc
              clear hGc
              refine lv_aload_n hx hb dX11_rolling_87 rfl (lv_at hl 3 rfl) ?_
              refine m_get S hG.1 0 11 ec_0 cpX11 wm_677 dX11_rolling_88 rfl (Nat.lt_of_lt_of_le (Nat.le_of_ble_eq_true rfl) hG.2.2.2.1) (by decide) ?_
              refine lv_iload hx hb dX11_rolling_91 (lv_at hl 1 rfl) ?_
              refine lv_iload hx hb dX11_rolling_93 (lv_at hl 0 rfl) ?_
              obtain ⟨S_35, hc_34, hM⟩ := bd1_some hM
              refine g_vv (As := [.int (iI x_9), .int (iI v_16)]) (rest := []) S hG.1 hG.2.1 (vX7_note l hG.2.2.2.1 x_9 v_16 hc_34) wV_11_311 (ec_73 (b := b) (cy := cy) (X := XD b cy S_30) _) cpX7 (Nat.lt_of_lt_of_le (Nat.le_of_ble_eq_true rfl) hG.2.2.2.1) dX11_rolling_95 rfl hl.1 (ar := 2) (by decide +kernel) rfl ⟨Nat.le_of_ble_eq_true rfl, Nat.le_of_ble_eq_true rfl, hG.rc, hG.rs⟩ (Nat.le_of_ble_eq_true rfl) (fun uu H locs hp hGc => ?_)
              obtain rfl := hp
              refine wz ?_
              replace hG := hG.back hGc
              clear hGc
              obtain ⟨S_36, eS_36⟩ : ∃ q, q = msk S_35 S_30 := ⟨_, rfl⟩
              rw [← eS_36] at hG
              replace hM := nx_at hM eS_36
              clear eS_36
              refine lv_iinc (v := iI (v_16 + 1)) (lv' := [(6, .int (iI (v_16 + 1))), (5, .int (iI x_9)), (4, .int (iI r_6)), (0, .ref (b + 0)), (1, .int (iI a1)), (2, .int (iI a2))]) hx hb dX11_rolling_98 hl (k := 0) rfl ((iI_add v_16 (1)).trans (congrArg iI (by omega))) (by decide) rfl (fun ls hl => ?_)
              refine lv_goto (tgt := 65) hx hb dX11_rolling_101 (by decide) ?_
              exact ih_25 (v_16 + 1) S_36 _ _ H locs ls hM hG (lv_sub hl [0, 1, 2, 3, 4, 5] rfl)
        exact loop_24 FU 0 S_15 _ _ H locs ls hc_19 hG (lv_sub hl [0, 1, 2, 4, 5, 6] rfl)
    · replace hM := ifp hM c_8
      refine lv_iconst (v := iI (-1)) hx hb dX11_rolling_30 (by decide) ?_
      cases hM
      exact g_iret S hr hlk hG.1 hG.2.1 dX11_rolling_31 ⟨hG.rc, hG.rs⟩ ⟨rfl, rfl⟩
  · replace hM := ifn hM c_4
    refine lv_iload_n hx hb dX11_rolling_11 rfl (lv_at hl 0 rfl) ?_
    cases hM
    exact g_iret S hr hlk hG.1 hG.2.1 dX11_rolling_12 ⟨hG.rc, hG.rs⟩ ⟨rfl, rfl⟩
theorem wV_11_315 : gWV "GrownKinds" 315 yX11_rolling cX11_rolling 7 (some .int) := ⟨wm_1543, wm_1545, wm_82, wm_176, wm_1546, by decide +kernel, by decide +kernel⟩
def mX11_deepest (S0 : St) (a1 : Int) (a2 : Int) : Option (Int × St) := entG S0 (fun o : Int × St => o.2) (bdG2 S0 (fun o : Int × St => o.2) (mX11_rolling S0 a1 a2) fun r_2 S_3 => gd (inI r_2) <| if r_2 = 0 then (gd (0 ≤ ((a1 * 8) + a2) ∧ ((a1 * 8) + a2) < 48) <| some ((S_3 75 ((a1 * 8) + a2)), S_3)) else (some (r_2, S_3)))
set_option maxHeartbeats 4000000 in
set_option maxRecDepth 100000 in
theorem vX11_deepest (l : Launch) {D : va_G} {cy : Nat → ClassId} {b : Nat} {S0 : St} (hn : 105 ≤ nn S0) (a1 : Int) (a2 : Int) {o1 : Int} {o2 : St} (hM : mX11_deepest S0 a1 a2 = some (o1, o2)) : gI l yX11_deepest cX11_deepest 4 (some .int) 20 (nn o2 - nn S0) (zz o2 - zz S0) D cy b (nn S0) (eG b cy S0) [.ref (b + 0), .int (iI a1), .int (iI a2)] (fun r u => r = iI o1 ∧ u = (nn o2, eG b cy o2)) := by
  refine gI_of (by decide) (Nat.le_of_ble_eq_true rfl) ?_
  intro p e s m args below meth c S hr hlk hin hsz ls hl hG
  have hx := S.1
  have hb := S.2.1
  have hl : lv_has ls 4 [(0, .ref (b + 0)), (1, .int (iI a1)), (2, .int (iI a2))] := hl
  replace hG : gW D cy b (nn S0) s s.heap [] (eG b cy S0) := hG
  obtain ⟨H, eH⟩ : ∃ H, H = s.heap := ⟨_, rfl⟩
  obtain ⟨locs, elocs⟩ : ∃ locs : List Loc, locs = [] := ⟨_, rfl⟩
  rw [← eH, ← elocs] at hG
  rw [← eH, ← elocs]
  clear eH elocs
  unfold mX11_deepest at hM
  obtain ⟨hge, hM⟩ := entG_some hM
  replace hG : gX D cy b s H locs S0 0 0 S0 o2 := gX.start hG hsz hn hge
  refine lv_aload_n hx hb dX11_deepest_0 rfl (lv_at hl 0 rfl) ?_
  refine lv_iload_n hx hb dX11_deepest_1 rfl (lv_at hl 1 rfl) ?_
  refine lv_iload_n hx hb dX11_deepest_2 rfl (lv_at hl 2 rfl) ?_
  obtain ⟨r_2, S_3, hc_1, hg_4, hg_5, hM⟩ := bdG2_some hM
  have hg_6 : gle S_3 o2 := ⟨Nat.le_trans hg_5.1 gle_rfl.1, Nat.le_trans hg_5.2 gle_rfl.2⟩
  refine g_vi (As := [.int (iI a1), .int (iI a2)]) (rest := []) S hG.1 hG.2.1 (vX11_rolling l hG.2.2.2.1 a1 a2 hc_1) wV_11_315 (ec_0 (b := b) (cy := cy) (X := XD b cy S0) _) cpX11 (Nat.lt_of_lt_of_le (Nat.le_of_ble_eq_true rfl) hG.2.2.2.1) dX11_deepest_3 rfl hl.1 (ar := 2) (by decide +kernel) rfl ⟨Nat.le_of_ble_eq_true rfl, Nat.le_of_ble_eq_true rfl, hG.gc hg_4 hg_6, hG.gs hg_4 hg_6⟩ (Nat.le_of_ble_eq_true rfl) (fun rv uu H locs hp hGc => ?_)
  obtain ⟨rfl, rfl⟩ := hp
  replace hG := hG.grow hg_4 hg_6 hGc
  clear hGc
  refine lv_istore_n (lv' := [(3, .int (iI r_2)), (0, .ref (b + 0)), (1, .int (iI a1)), (2, .int (iI a2))]) hx hb dX11_deepest_6 rfl hl (by decide) rfl (fun ls hl => ?_)
  refine lv_iload_n hx hb dX11_deepest_7 rfl (lv_at hl 0 rfl) ?_
  obtain ⟨hg_7, hM⟩ := gd_some hM
  refine gi_if_eq (tgt := 15) hx hb dX11_deepest_8 (by decide) hg_7 (fun c_8 => ?_) (fun c_8 => ?_)
  · replace hM := ifp hM c_8
    refine lv_aload_n hx hb dX11_deepest_15 rfl (lv_at hl 1 rfl) ?_
    refine m_get S hG.1 0 11 ec_0 cpX11 wm_677 dX11_deepest_16 rfl (Nat.lt_of_lt_of_le (Nat.le_of_ble_eq_true rfl) hG.2.2.2.1) (by decide) ?_
    refine m_get S hG.1 73 2 ec_73 cpX7 wm_608 dX11_deepest_19 rfl (Nat.lt_of_lt_of_le (Nat.le_of_ble_eq_true rfl) hG.2.2.2.1) (by decide) ?_
    refine lv_iload_n hx hb dX11_deepest_22 rfl (lv_at hl 2 rfl) ?_
    refine lv_bipush (v := iI 8) hx hb dX11_deepest_23 (by decide) ?_
    refine gi_mul hx hb dX11_deepest_25 ?_
    refine lv_iload_n hx hb dX11_deepest_26 rfl (lv_at hl 3 rfl) ?_
    refine gi_add hx hb dX11_deepest_27 ?_
    obtain ⟨hg_9, hM⟩ := gd_some hM
    refine mi_ald S hG.1 75 ec_75 (Nat.lt_of_lt_of_le (Nat.le_of_ble_eq_true rfl) hG.2.2.2.1) dX11_deepest_28 hg_9 (by decide) ?_
    cases hM
    exact g_iret S hr hlk hG.1 hG.2.1 dX11_deepest_29 ⟨hG.rc, hG.rs⟩ ⟨rfl, rfl⟩
  · replace hM := ifn hM c_8
    refine lv_iload_n hx hb dX11_deepest_11 rfl (lv_at hl 0 rfl) ?_
    refine lv_goto (tgt := 29) hx hb dX11_deepest_12 (by decide) ?_
    cases hM
    exact g_iret S hr hlk hG.1 hG.2.1 dX11_deepest_29 ⟨hG.rc, hG.rs⟩ ⟨rfl, rfl⟩
def mX11_fullest (S0 : St) (a1 : Int) (a2 : Int) (a3 : Int) : Option (Int × St) := entG S0 (fun o : Int × St => o.2) (bd1 (mX11_lettered a3) fun r_2 => gd (inI r_2) <| if r_2 = 0 then (some ((-2), S0)) else (bdG2 S0 (fun o : Int × St => o.2) (mX11_rolling S0 a1 a2) fun r_6 S_7 => gd (inI r_6) <| if r_6 = 0 then (gd (0 ≤ ((((a1 * 8) + a2) * 26) + a3) ∧ ((((a1 * 8) + a2) * 26) + a3) < 1248) <| some ((S_7 77 ((((a1 * 8) + a2) * 26) + a3)), S_7)) else (some (r_6, S_7))))
set_option maxHeartbeats 4000000 in
set_option maxRecDepth 100000 in
theorem vX11_fullest (l : Launch) {D : va_G} {cy : Nat → ClassId} {b : Nat} {S0 : St} (hn : 105 ≤ nn S0) (a1 : Int) (a2 : Int) (a3 : Int) {o1 : Int} {o2 : St} (hM : mX11_fullest S0 a1 a2 a3 = some (o1, o2)) : gI l yX11_fullest cX11_fullest 5 (some .int) 20 (nn o2 - nn S0) (zz o2 - zz S0) D cy b (nn S0) (eG b cy S0) [.ref (b + 0), .int (iI a1), .int (iI a2), .int (iI a3)] (fun r u => r = iI o1 ∧ u = (nn o2, eG b cy o2)) := by
  refine gI_of (by decide) (Nat.le_of_ble_eq_true rfl) ?_
  intro p e s m args below meth c S hr hlk hin hsz ls hl hG
  have hx := S.1
  have hb := S.2.1
  have hl : lv_has ls 5 [(0, .ref (b + 0)), (1, .int (iI a1)), (2, .int (iI a2)), (3, .int (iI a3))] := hl
  replace hG : gW D cy b (nn S0) s s.heap [] (eG b cy S0) := hG
  obtain ⟨H, eH⟩ : ∃ H, H = s.heap := ⟨_, rfl⟩
  obtain ⟨locs, elocs⟩ : ∃ locs : List Loc, locs = [] := ⟨_, rfl⟩
  rw [← eH, ← elocs] at hG
  rw [← eH, ← elocs]
  clear eH elocs
  unfold mX11_fullest at hM
  obtain ⟨hge, hM⟩ := entG_some hM
  replace hG : gX D cy b s H locs S0 0 0 S0 o2 := gX.start hG hsz hn hge
  refine lv_iload_n hx hb dX11_fullest_0 rfl (lv_at hl 3 rfl) ?_
  obtain ⟨r_2, hc_1, hM⟩ := bd1_some hM
  refine g_si (As := [.int (iI a3)]) (rest := []) S hG.1 hG.2.1 (vX11_lettered l hG.2.2.2.1 a3 hc_1) wS_11_221 dX11_fullest_1 rfl hl.1 (ar := 1) (by decide +kernel) rfl ⟨Nat.le_of_ble_eq_true rfl, Nat.le_of_ble_eq_true rfl, hG.rc, hG.rs⟩ (Nat.le_of_ble_eq_true rfl) (fun rv uu H locs hp hGc => ?_)
  obtain ⟨rfl, rfl⟩ := hp
  refine wz ?_
  replace hG := hG.same hGc
  clear hGc
  obtain ⟨hg_3, hM⟩ := gd_some hM
  refine gi_if_ne (tgt := 10) hx hb dX11_fullest_4 (by decide) hg_3 (fun c_4 => ?_) (fun c_4 => ?_)
  · replace hM := ifn hM c_4
    refine lv_aload_n hx hb dX11_fullest_10 rfl (lv_at hl 0 rfl) ?_
    refine lv_iload_n hx hb dX11_fullest_11 rfl (lv_at hl 1 rfl) ?_
    refine lv_iload_n hx hb dX11_fullest_12 rfl (lv_at hl 2 rfl) ?_
    obtain ⟨r_6, S_7, hc_5, hg_8, hg_9, hM⟩ := bdG2_some hM
    have hg_10 : gle S_7 o2 := ⟨Nat.le_trans hg_9.1 gle_rfl.1, Nat.le_trans hg_9.2 gle_rfl.2⟩
    refine g_vi (As := [.int (iI a1), .int (iI a2)]) (rest := []) S hG.1 hG.2.1 (vX11_rolling l hG.2.2.2.1 a1 a2 hc_5) wV_11_315 (ec_0 (b := b) (cy := cy) (X := XD b cy S0) _) cpX11 (Nat.lt_of_lt_of_le (Nat.le_of_ble_eq_true rfl) hG.2.2.2.1) dX11_fullest_13 rfl hl.1 (ar := 2) (by decide +kernel) rfl ⟨Nat.le_of_ble_eq_true rfl, Nat.le_of_ble_eq_true rfl, hG.gc hg_8 hg_10, hG.gs hg_8 hg_10⟩ (Nat.le_of_ble_eq_true rfl) (fun rv uu H locs hp hGc => ?_)
    obtain ⟨rfl, rfl⟩ := hp
    replace hG := hG.grow hg_8 hg_10 hGc
    clear hGc
    refine lv_istore (lv' := [(4, .int (iI r_6)), (0, .ref (b + 0)), (1, .int (iI a1)), (2, .int (iI a2)), (3, .int (iI a3))]) hx hb dX11_fullest_16 hl (by decide) rfl (fun ls hl => ?_)
    refine lv_iload hx hb dX11_fullest_18 (lv_at hl 0 rfl) ?_
    obtain ⟨hg_11, hM⟩ := gd_some hM
    refine gi_if_eq (tgt := 28) hx hb dX11_fullest_20 (by decide) hg_11 (fun c_12 => ?_) (fun c_12 => ?_)
    · replace hM := ifp hM c_12
      refine lv_aload_n hx hb dX11_fullest_28 rfl (lv_at hl 1 rfl) ?_
      refine m_get S hG.1 0 11 ec_0 cpX11 wm_677 dX11_fullest_29 rfl (Nat.lt_of_lt_of_le (Nat.le_of_ble_eq_true rfl) hG.2.2.2.1) (by decide) ?_
      refine m_get S hG.1 73 4 ec_73 cpX7 wm_612 dX11_fullest_32 rfl (Nat.lt_of_lt_of_le (Nat.le_of_ble_eq_true rfl) hG.2.2.2.1) (by decide) ?_
      refine lv_iload_n hx hb dX11_fullest_35 rfl (lv_at hl 2 rfl) ?_
      refine lv_bipush (v := iI 8) hx hb dX11_fullest_36 (by decide) ?_
      refine gi_mul hx hb dX11_fullest_38 ?_
      refine lv_iload_n hx hb dX11_fullest_39 rfl (lv_at hl 3 rfl) ?_
      refine gi_add hx hb dX11_fullest_40 ?_
      refine lv_bipush (v := iI 26) hx hb dX11_fullest_41 (by decide) ?_
      refine gi_mul hx hb dX11_fullest_43 ?_
      refine lv_iload_n hx hb dX11_fullest_44 rfl (lv_at hl 4 rfl) ?_
      refine gi_add hx hb dX11_fullest_45 ?_
      obtain ⟨hg_13, hM⟩ := gd_some hM
      refine mi_ald S hG.1 77 ec_77 (Nat.lt_of_lt_of_le (Nat.le_of_ble_eq_true rfl) hG.2.2.2.1) dX11_fullest_46 hg_13 (by decide) ?_
      cases hM
      exact g_iret S hr hlk hG.1 hG.2.1 dX11_fullest_47 ⟨hG.rc, hG.rs⟩ ⟨rfl, rfl⟩
    · replace hM := ifn hM c_12
      refine lv_iload hx hb dX11_fullest_23 (lv_at hl 0 rfl) ?_
      refine lv_goto (tgt := 47) hx hb dX11_fullest_25 (by decide) ?_
      cases hM
      exact g_iret S hr hlk hG.1 hG.2.1 dX11_fullest_47 ⟨hG.rc, hG.rs⟩ ⟨rfl, rfl⟩
  · replace hM := ifp hM c_4
    refine lv_bipush (v := iI (-2)) hx hb dX11_fullest_7 (by decide) ?_
    cases hM
    exact g_iret S hr hlk hG.1 hG.2.1 dX11_fullest_9 ⟨hG.rc, hG.rs⟩ ⟨rfl, rfl⟩
def mX11_stiffest (S0 : St) (a1 : Int) (a2 : Int) : Option (Int × St) := entG S0 (fun o : Int × St => o.2) (bdG2 S0 (fun o : Int × St => o.2) (mX11_rolling S0 a1 a2) fun r_2 S_3 => gd (inI r_2) <| if r_2 = 0 then (gd (0 ≤ ((a1 * 8) + a2) ∧ ((a1 * 8) + a2) < 48) <| some ((S_3 76 ((a1 * 8) + a2)), S_3)) else (some (r_2, S_3)))
set_option maxHeartbeats 4000000 in
set_option maxRecDepth 100000 in
theorem vX11_stiffest (l : Launch) {D : va_G} {cy : Nat → ClassId} {b : Nat} {S0 : St} (hn : 105 ≤ nn S0) (a1 : Int) (a2 : Int) {o1 : Int} {o2 : St} (hM : mX11_stiffest S0 a1 a2 = some (o1, o2)) : gI l yX11_stiffest cX11_stiffest 4 (some .int) 20 (nn o2 - nn S0) (zz o2 - zz S0) D cy b (nn S0) (eG b cy S0) [.ref (b + 0), .int (iI a1), .int (iI a2)] (fun r u => r = iI o1 ∧ u = (nn o2, eG b cy o2)) := by
  refine gI_of (by decide) (Nat.le_of_ble_eq_true rfl) ?_
  intro p e s m args below meth c S hr hlk hin hsz ls hl hG
  have hx := S.1
  have hb := S.2.1
  have hl : lv_has ls 4 [(0, .ref (b + 0)), (1, .int (iI a1)), (2, .int (iI a2))] := hl
  replace hG : gW D cy b (nn S0) s s.heap [] (eG b cy S0) := hG
  obtain ⟨H, eH⟩ : ∃ H, H = s.heap := ⟨_, rfl⟩
  obtain ⟨locs, elocs⟩ : ∃ locs : List Loc, locs = [] := ⟨_, rfl⟩
  rw [← eH, ← elocs] at hG
  rw [← eH, ← elocs]
  clear eH elocs
  unfold mX11_stiffest at hM
  obtain ⟨hge, hM⟩ := entG_some hM
  replace hG : gX D cy b s H locs S0 0 0 S0 o2 := gX.start hG hsz hn hge
  refine lv_aload_n hx hb dX11_stiffest_0 rfl (lv_at hl 0 rfl) ?_
  refine lv_iload_n hx hb dX11_stiffest_1 rfl (lv_at hl 1 rfl) ?_
  refine lv_iload_n hx hb dX11_stiffest_2 rfl (lv_at hl 2 rfl) ?_
  obtain ⟨r_2, S_3, hc_1, hg_4, hg_5, hM⟩ := bdG2_some hM
  have hg_6 : gle S_3 o2 := ⟨Nat.le_trans hg_5.1 gle_rfl.1, Nat.le_trans hg_5.2 gle_rfl.2⟩
  refine g_vi (As := [.int (iI a1), .int (iI a2)]) (rest := []) S hG.1 hG.2.1 (vX11_rolling l hG.2.2.2.1 a1 a2 hc_1) wV_11_315 (ec_0 (b := b) (cy := cy) (X := XD b cy S0) _) cpX11 (Nat.lt_of_lt_of_le (Nat.le_of_ble_eq_true rfl) hG.2.2.2.1) dX11_stiffest_3 rfl hl.1 (ar := 2) (by decide +kernel) rfl ⟨Nat.le_of_ble_eq_true rfl, Nat.le_of_ble_eq_true rfl, hG.gc hg_4 hg_6, hG.gs hg_4 hg_6⟩ (Nat.le_of_ble_eq_true rfl) (fun rv uu H locs hp hGc => ?_)
  obtain ⟨rfl, rfl⟩ := hp
  replace hG := hG.grow hg_4 hg_6 hGc
  clear hGc
  refine lv_istore_n (lv' := [(3, .int (iI r_2)), (0, .ref (b + 0)), (1, .int (iI a1)), (2, .int (iI a2))]) hx hb dX11_stiffest_6 rfl hl (by decide) rfl (fun ls hl => ?_)
  refine lv_iload_n hx hb dX11_stiffest_7 rfl (lv_at hl 0 rfl) ?_
  obtain ⟨hg_7, hM⟩ := gd_some hM
  refine gi_if_eq (tgt := 15) hx hb dX11_stiffest_8 (by decide) hg_7 (fun c_8 => ?_) (fun c_8 => ?_)
  · replace hM := ifp hM c_8
    refine lv_aload_n hx hb dX11_stiffest_15 rfl (lv_at hl 1 rfl) ?_
    refine m_get S hG.1 0 11 ec_0 cpX11 wm_677 dX11_stiffest_16 rfl (Nat.lt_of_lt_of_le (Nat.le_of_ble_eq_true rfl) hG.2.2.2.1) (by decide) ?_
    refine m_get S hG.1 73 3 ec_73 cpX7 wm_610 dX11_stiffest_19 rfl (Nat.lt_of_lt_of_le (Nat.le_of_ble_eq_true rfl) hG.2.2.2.1) (by decide) ?_
    refine lv_iload_n hx hb dX11_stiffest_22 rfl (lv_at hl 2 rfl) ?_
    refine lv_bipush (v := iI 8) hx hb dX11_stiffest_23 (by decide) ?_
    refine gi_mul hx hb dX11_stiffest_25 ?_
    refine lv_iload_n hx hb dX11_stiffest_26 rfl (lv_at hl 3 rfl) ?_
    refine gi_add hx hb dX11_stiffest_27 ?_
    obtain ⟨hg_9, hM⟩ := gd_some hM
    refine mi_ald S hG.1 76 ec_76 (Nat.lt_of_lt_of_le (Nat.le_of_ble_eq_true rfl) hG.2.2.2.1) dX11_stiffest_28 hg_9 (by decide) ?_
    cases hM
    exact g_iret S hr hlk hG.1 hG.2.1 dX11_stiffest_29 ⟨hG.rc, hG.rs⟩ ⟨rfl, rfl⟩
  · replace hM := ifn hM c_8
    refine lv_iload_n hx hb dX11_stiffest_11 rfl (lv_at hl 0 rfl) ?_
    refine lv_goto (tgt := 29) hx hb dX11_stiffest_12 (by decide) ?_
    cases hM
    exact g_iret S hr hlk hG.1 hG.2.1 dX11_stiffest_29 ⟨hG.rc, hG.rs⟩ ⟨rfl, rfl⟩
def mX11_mean (S0 : St) (a1 : Int) (a2 : Int) (a3 : Int) (a4 : Int) : Option (Int × St) := entG S0 (fun o : Int × St => o.2) (bd1 (mX11_lettered a3) fun r_2 => gd (inI r_2) <| if r_2 = 0 then (some ((-2), S0)) else (gd (inI a4) <| if a4 < 0 then (some ((-2), S0)) else (if a4 ≤ 1 then (bdG2 S0 (fun o : Int × St => o.2) (mX11_rolling S0 a1 a2) fun r_9 S_10 => gd (inI r_9) <| if r_9 = 0 then (gd (0 ≤ ((((a1 * 8) + a2) * 26) + a3) ∧ ((((a1 * 8) + a2) * 26) + a3) < 1248) <| bd1 (mX0_thingsAt_40 S_10 a1 a2) fun r_18 => bd1 (mX11_lowest (S_10 78 ((((a1 * 8) + a2) * 26) + a3)) r_18 a4) fun r_20 => some (r_20, S_10)) else (some (r_9, S_10))) else (some ((-2), S0)))))
set_option maxHeartbeats 4000000 in
set_option maxRecDepth 100000 in
theorem vX11_mean (l : Launch) {D : va_G} {cy : Nat → ClassId} {b : Nat} {S0 : St} (hn : 105 ≤ nn S0) (a1 : Int) (a2 : Int) (a3 : Int) (a4 : Int) {o1 : Int} {o2 : St} (hM : mX11_mean S0 a1 a2 a3 a4 = some (o1, o2)) : gI l yX11_mean cX11_mean 6 (some .int) 20 (nn o2 - nn S0) (zz o2 - zz S0) D cy b (nn S0) (eG b cy S0) [.ref (b + 0), .int (iI a1), .int (iI a2), .int (iI a3), .int (iI a4)] (fun r u => r = iI o1 ∧ u = (nn o2, eG b cy o2)) := by
  refine gI_of (by decide) (Nat.le_of_ble_eq_true rfl) ?_
  intro p e s m args below meth c S hr hlk hin hsz ls hl hG
  have hx := S.1
  have hb := S.2.1
  have hl : lv_has ls 6 [(0, .ref (b + 0)), (1, .int (iI a1)), (2, .int (iI a2)), (3, .int (iI a3)), (4, .int (iI a4))] := hl
  replace hG : gW D cy b (nn S0) s s.heap [] (eG b cy S0) := hG
  obtain ⟨H, eH⟩ : ∃ H, H = s.heap := ⟨_, rfl⟩
  obtain ⟨locs, elocs⟩ : ∃ locs : List Loc, locs = [] := ⟨_, rfl⟩
  rw [← eH, ← elocs] at hG
  rw [← eH, ← elocs]
  clear eH elocs
  unfold mX11_mean at hM
  obtain ⟨hge, hM⟩ := entG_some hM
  replace hG : gX D cy b s H locs S0 0 0 S0 o2 := gX.start hG hsz hn hge
  refine lv_iload_n hx hb dX11_mean_0 rfl (lv_at hl 3 rfl) ?_
  obtain ⟨r_2, hc_1, hM⟩ := bd1_some hM
  refine g_si (As := [.int (iI a3)]) (rest := []) S hG.1 hG.2.1 (vX11_lettered l hG.2.2.2.1 a3 hc_1) wS_11_221 dX11_mean_1 rfl hl.1 (ar := 1) (by decide +kernel) rfl ⟨Nat.le_of_ble_eq_true rfl, Nat.le_of_ble_eq_true rfl, hG.rc, hG.rs⟩ (Nat.le_of_ble_eq_true rfl) (fun rv uu H locs hp hGc => ?_)
  obtain ⟨rfl, rfl⟩ := hp
  refine wz ?_
  replace hG := hG.same hGc
  clear hGc
  obtain ⟨hg_3, hM⟩ := gd_some hM
  refine gi_if_eq (tgt := 18) hx hb dX11_mean_4 (by decide) hg_3 (fun c_4 => ?_) (fun c_4 => ?_)
  · replace hM := ifp hM c_4
    refine lv_bipush (v := iI (-2)) hx hb dX11_mean_18 (by decide) ?_
    cases hM
    exact g_iret S hr hlk hG.1 hG.2.1 dX11_mean_20 ⟨hG.rc, hG.rs⟩ ⟨rfl, rfl⟩
  · replace hM := ifn hM c_4
    refine lv_iload hx hb dX11_mean_7 (lv_at hl 4 rfl) ?_
    obtain ⟨hg_5, hM⟩ := gd_some hM
    refine gi_if_lt (tgt := 18) hx hb dX11_mean_9 (by decide) hg_5 (fun c_6 => ?_) (fun c_6 => ?_)
    · replace hM := ifp hM c_6
      refine lv_bipush (v := iI (-2)) hx hb dX11_mean_18 (by decide) ?_
      cases hM
      exact g_iret S hr hlk hG.1 hG.2.1 dX11_mean_20 ⟨hG.rc, hG.rs⟩ ⟨rfl, rfl⟩
    · replace hM := ifn hM c_6
      refine lv_iload hx hb dX11_mean_12 (lv_at hl 4 rfl) ?_
      refine lv_iconst (v := iI 1) hx hb dX11_mean_14 (by decide) ?_
      refine gi_icmp_le (tgt := 21) hx hb dX11_mean_15 (by decide) hg_5 (by decide) (fun c_7 => ?_) (fun c_7 => ?_)
      · replace hM := ifp hM c_7
        refine lv_aload_n hx hb dX11_mean_21 rfl (lv_at hl 0 rfl) ?_
        refine lv_iload_n hx hb dX11_mean_22 rfl (lv_at hl 1 rfl) ?_
        refine lv_iload_n hx hb dX11_mean_23 rfl (lv_at hl 2 rfl) ?_
        obtain ⟨r_9, S_10, hc_8, hg_11, hg_12, hM⟩ := bdG2_some hM
        have hg_13 : gle S_10 o2 := ⟨Nat.le_trans hg_12.1 gle_rfl.1, Nat.le_trans hg_12.2 gle_rfl.2⟩
        refine g_vi (As := [.int (iI a1), .int (iI a2)]) (rest := []) S hG.1 hG.2.1 (vX11_rolling l hG.2.2.2.1 a1 a2 hc_8) wV_11_315 (ec_0 (b := b) (cy := cy) (X := XD b cy S0) _) cpX11 (Nat.lt_of_lt_of_le (Nat.le_of_ble_eq_true rfl) hG.2.2.2.1) dX11_mean_24 rfl hl.1 (ar := 2) (by decide +kernel) rfl ⟨Nat.le_of_ble_eq_true rfl, Nat.le_of_ble_eq_true rfl, hG.gc hg_11 hg_13, hG.gs hg_11 hg_13⟩ (Nat.le_of_ble_eq_true rfl) (fun rv uu H locs hp hGc => ?_)
        obtain ⟨rfl, rfl⟩ := hp
        replace hG := hG.grow hg_11 hg_13 hGc
        clear hGc
        refine lv_istore (lv' := [(5, .int (iI r_9)), (0, .ref (b + 0)), (1, .int (iI a1)), (2, .int (iI a2)), (3, .int (iI a3)), (4, .int (iI a4))]) hx hb dX11_mean_27 hl (by decide) rfl (fun ls hl => ?_)
        refine lv_iload hx hb dX11_mean_29 (lv_at hl 0 rfl) ?_
        obtain ⟨hg_14, hM⟩ := gd_some hM
        refine gi_if_eq (tgt := 37) hx hb dX11_mean_31 (by decide) hg_14 (fun c_15 => ?_) (fun c_15 => ?_)
        · replace hM := ifp hM c_15
          refine lv_aload_n hx hb dX11_mean_37 rfl (lv_at hl 1 rfl) ?_
          refine m_get S hG.1 0 11 ec_0 cpX11 wm_677 dX11_mean_38 rfl (Nat.lt_of_lt_of_le (Nat.le_of_ble_eq_true rfl) hG.2.2.2.1) (by decide) ?_
          refine m_get S hG.1 73 5 ec_73 cpX7 wm_614 dX11_mean_41 rfl (Nat.lt_of_lt_of_le (Nat.le_of_ble_eq_true rfl) hG.2.2.2.1) (by decide) ?_
          refine lv_iload_n hx hb dX11_mean_44 rfl (lv_at hl 2 rfl) ?_
          refine lv_bipush (v := iI 8) hx hb dX11_mean_45 (by decide) ?_
          refine gi_mul hx hb dX11_mean_47 ?_
          refine lv_iload_n hx hb dX11_mean_48 rfl (lv_at hl 3 rfl) ?_
          refine gi_add hx hb dX11_mean_49 ?_
          refine lv_bipush (v := iI 26) hx hb dX11_mean_50 (by decide) ?_
          refine gi_mul hx hb dX11_mean_52 ?_
          refine lv_iload_n hx hb dX11_mean_53 rfl (lv_at hl 4 rfl) ?_
          refine gi_add hx hb dX11_mean_54 ?_
          obtain ⟨hg_16, hM⟩ := gd_some hM
          refine mi_ald S hG.1 78 ec_78 (Nat.lt_of_lt_of_le (Nat.le_of_ble_eq_true rfl) hG.2.2.2.1) dX11_mean_55 hg_16 (by decide) ?_
          refine lv_aload_n hx hb dX11_mean_56 rfl (lv_at hl 1 rfl) ?_
          refine m_get S hG.1 0 7 ec_0 cpX11 wm_673 dX11_mean_57 rfl (Nat.lt_of_lt_of_le (Nat.le_of_ble_eq_true rfl) hG.2.2.2.1) (by decide) ?_
          refine lv_iload_n hx hb dX11_mean_60 rfl (lv_at hl 2 rfl) ?_
          refine lv_iload_n hx hb dX11_mean_61 rfl (lv_at hl 3 rfl) ?_
          obtain ⟨r_18, hc_17, hM⟩ := bd1_some hM
          refine g_vl (As := [.int (iI a1), .int (iI a2)]) (rest := [.int (iI (S_10 78 ((((a1 * 8) + a2) * 26) + a3)))]) S hG.1 hG.2.1 (vX0_thingsAt_40 l hG.2.2.2.1 a1 a2 hc_17) wV_11_206 (ec_40 (b := b) (cy := cy) (X := XD b cy S_10) _) cpX0 (Nat.lt_of_lt_of_le (Nat.le_of_ble_eq_true rfl) hG.2.2.2.1) dX11_mean_62 rfl hl.1 (ar := 2) (by decide +kernel) rfl ⟨Nat.le_of_ble_eq_true rfl, Nat.le_of_ble_eq_true rfl, hG.rc, hG.rs⟩ (Nat.le_of_ble_eq_true rfl) (fun rv uu H locs hp hGc => ?_)
          obtain ⟨rfl, rfl⟩ := hp
          refine wz ?_
          replace hG := hG.same hGc
          clear hGc
          refine gj_l2i hx hb dX11_mean_65 ?_
          refine lv_iload hx hb dX11_mean_66 (lv_at hl 5 rfl) ?_
          obtain ⟨r_20, hc_19, hM⟩ := bd1_some hM
          refine g_si (As := [.int (iI (S_10 78 ((((a1 * 8) + a2) * 26) + a3))), .int (iI r_18), .int (iI a4)]) (rest := []) S hG.1 hG.2.1 (vX11_lowest l hG.2.2.2.1 (S_10 78 ((((a1 * 8) + a2) * 26) + a3)) r_18 a4 hc_19) wS_11_327 dX11_mean_68 rfl hl.1 (ar := 3) (by decide +kernel) rfl ⟨Nat.le_of_ble_eq_true rfl, Nat.le_of_ble_eq_true rfl, hG.rc, hG.rs⟩ (Nat.le_of_ble_eq_true rfl) (fun rv uu H locs hp hGc => ?_)
          obtain ⟨rfl, rfl⟩ := hp
          refine wz ?_
          replace hG := hG.same hGc
          clear hGc
          cases hM
          exact g_iret S hr hlk hG.1 hG.2.1 dX11_mean_71 ⟨hG.rc, hG.rs⟩ ⟨rfl, rfl⟩
        · replace hM := ifn hM c_15
          refine lv_iload hx hb dX11_mean_34 (lv_at hl 0 rfl) ?_
          cases hM
          exact g_iret S hr hlk hG.1 hG.2.1 dX11_mean_36 ⟨hG.rc, hG.rs⟩ ⟨rfl, rfl⟩
      · replace hM := ifn hM c_7
        refine lv_bipush (v := iI (-2)) hx hb dX11_mean_18 (by decide) ?_
        cases hM
        exact g_iret S hr hlk hG.1 hG.2.1 dX11_mean_20 ⟨hG.rc, hG.rs⟩ ⟨rfl, rfl⟩
