theorem dX11_spelling_0 : decode cX11_spelling 0 = .ok (.aload_n 0, 1) := by decide +kernel
theorem dX11_spelling_1 : decode cX11_spelling 1 = .ok (.iload_n 1, 1) := by decide +kernel
theorem dX11_spelling_2 : decode cX11_spelling 2 = .ok (.iload_n 2, 1) := by decide +kernel
theorem dX11_spelling_3 : decode cX11_spelling 3 = .ok (.invokevirtual 251, 3) := by decide +kernel
theorem dX11_spelling_6 : decode cX11_spelling 6 = .ok (.istore 4, 2) := by decide +kernel
theorem dX11_spelling_8 : decode cX11_spelling 8 = .ok (.iload 4, 2) := by decide +kernel
theorem dX11_spelling_10 : decode cX11_spelling 10 = .ok (.ifCond .eq 6, 3) := by decide +kernel
theorem dX11_spelling_16 : decode cX11_spelling 16 = .ok (.iload_n 3, 1) := by decide +kernel
theorem dX11_spelling_17 : decode cX11_spelling 17 = .ok (.ifCond .lt 18, 3) := by decide +kernel
theorem dX11_spelling_35 : decode cX11_spelling 35 = .ok (.bipush (-2), 2) := by decide +kernel
theorem dX11_spelling_37 : decode cX11_spelling 37 = .ok (.ireturn, 1) := by decide +kernel
theorem dX11_spelling_20 : decode cX11_spelling 20 = .ok (.iload_n 3, 1) := by decide +kernel
theorem dX11_spelling_21 : decode cX11_spelling 21 = .ok (.i2l, 1) := by decide +kernel
theorem dX11_spelling_22 : decode cX11_spelling 22 = .ok (.aload_n 0, 1) := by decide +kernel
theorem dX11_spelling_23 : decode cX11_spelling 23 = .ok (.getfield 51, 3) := by decide +kernel
theorem dX11_spelling_26 : decode cX11_spelling 26 = .ok (.iload_n 1, 1) := by decide +kernel
theorem dX11_spelling_27 : decode cX11_spelling 27 = .ok (.iload_n 2, 1) := by decide +kernel
theorem dX11_spelling_28 : decode cX11_spelling 28 = .ok (.invokevirtual 206, 3) := by decide +kernel
theorem dX11_spelling_31 : decode cX11_spelling 31 = .ok (.lcmp, 1) := by decide +kernel
theorem dX11_spelling_32 : decode cX11_spelling 32 = .ok (.ifCond .lt 6, 3) := by decide +kernel
theorem dX11_spelling_38 : decode cX11_spelling 38 = .ok (.aload_n 0, 1) := by decide +kernel
theorem dX11_spelling_39 : decode cX11_spelling 39 = .ok (.getfield 72, 3) := by decide +kernel
theorem dX11_spelling_42 : decode cX11_spelling 42 = .ok (.iload_n 1, 1) := by decide +kernel
theorem dX11_spelling_43 : decode cX11_spelling 43 = .ok (.iload_n 2, 1) := by decide +kernel
theorem dX11_spelling_44 : decode cX11_spelling 44 = .ok (.iload_n 3, 1) := by decide +kernel
theorem dX11_spelling_45 : decode cX11_spelling 45 = .ok (.aload_n 0, 1) := by decide +kernel
theorem dX11_spelling_46 : decode cX11_spelling 46 = .ok (.getfield 111, 3) := by decide +kernel
theorem dX11_spelling_49 : decode cX11_spelling 49 = .ok (.invokevirtual 255, 3) := by decide +kernel
theorem wm_1269 : (Jvm.Cond.methodLink "GrownKinds" (255 : Nat) ({ cls := "GrownKinds$Speller", name := "spell", desc := "(IIII)V" } : Jvm.MethodName)) ∈ gT := gT_in (List.mem_of_getElem? (i := 1269) (by decide +kernel)) (by decide +kernel)
theorem wm_1270 : (Jvm.Cond.instanceMethod ({ cls := "GrownKinds$Speller", name := "spell", desc := "(IIII)V" } : Jvm.MethodName)) ∈ gT := gT_in (List.mem_of_getElem? (i := 1270) (by decide +kernel)) (by decide +kernel)
theorem wm_1271 : (Jvm.Cond.selects "GrownKinds$Speller" ({ cls := "GrownKinds$Speller", name := "spell", desc := "(IIII)V" } : Jvm.MethodName) ({ cls := "GrownKinds$Speller", name := "spell", desc := "(IIII)V" } : Jvm.MethodName)) ∈ gT := gT_in (List.mem_of_getElem? (i := 1271) (by decide +kernel)) (by decide +kernel)
theorem wm_1272 : (Jvm.Cond.code ({ cls := "GrownKinds$Speller", name := "spell", desc := "(IIII)V" } : Jvm.MethodName) prog_11_method_4_code (8 : Nat) (Option.none : Option Jvm.ClassFile.FieldType)) ∈ gT := gT_in (List.mem_of_getElem? (i := 1272) (by decide +kernel)) (by decide +kernel)
theorem dX11_spelling_52 : decode cX11_spelling 52 = .ok (.iconst 0, 1) := by decide +kernel
theorem dX11_spelling_53 : decode cX11_spelling 53 = .ok (.ireturn, 1) := by decide +kernel
theorem dX11_spelling_13 : decode cX11_spelling 13 = .ok (.iload 4, 2) := by decide +kernel
theorem dX11_spelling_15 : decode cX11_spelling 15 = .ok (.ireturn, 1) := by decide +kernel
theorem dX11_length_0 : decode cX11_length 0 = .ok (.aload_n 0, 1) := by decide +kernel
theorem dX11_length_1 : decode cX11_length 1 = .ok (.iload_n 1, 1) := by decide +kernel
theorem dX11_length_2 : decode cX11_length 2 = .ok (.iload_n 2, 1) := by decide +kernel
theorem dX11_length_3 : decode cX11_length 3 = .ok (.iload_n 3, 1) := by decide +kernel
theorem dX11_length_4 : decode cX11_length 4 = .ok (.invokevirtual 259, 3) := by decide +kernel
theorem wm_1260 : (Jvm.Cond.methodLink "GrownKinds" (259 : Nat) ({ cls := "GrownKinds", name := "spelling", desc := "(III)I" } : Jvm.MethodName)) ∈ gT := gT_in (List.mem_of_getElem? (i := 1260) (by decide +kernel)) (by decide +kernel)
theorem wm_1262 : (Jvm.Cond.instanceMethod ({ cls := "GrownKinds", name := "spelling", desc := "(III)I" } : Jvm.MethodName)) ∈ gT := gT_in (List.mem_of_getElem? (i := 1262) (by decide +kernel)) (by decide +kernel)
theorem wm_54 : Cond.selects "GrownKinds" ⟨"GrownKinds", "spelling", "(III)I"⟩ ⟨"GrownKinds", "spelling", "(III)I"⟩ ∈ gT := gT_in (List.mem_of_getElem? (i := 54) (by decide +kernel)) (by decide +kernel)
theorem wm_1263 : (Jvm.Cond.code ({ cls := "GrownKinds", name := "spelling", desc := "(III)I" } : Jvm.MethodName) prog_1_method_33_code (5 : Nat) (Option.some Jvm.ClassFile.FieldType.int)) ∈ gT := gT_in (List.mem_of_getElem? (i := 1263) (by decide +kernel)) (by decide +kernel)
theorem dX11_length_7 : decode cX11_length 7 = .ok (.istore 4, 2) := by decide +kernel
theorem dX11_length_9 : decode cX11_length 9 = .ok (.iload 4, 2) := by decide +kernel
theorem dX11_length_11 : decode cX11_length 11 = .ok (.ifCond .eq 8, 3) := by decide +kernel
theorem dX11_length_19 : decode cX11_length 19 = .ok (.aload_n 0, 1) := by decide +kernel
theorem dX11_length_20 : decode cX11_length 20 = .ok (.getfield 72, 3) := by decide +kernel
theorem dX11_length_23 : decode cX11_length 23 = .ok (.getfield 263, 3) := by decide +kernel
theorem wm_501 : (Jvm.Cond.fieldLink "GrownKinds" (263 : Nat) "GrownKinds$Speller" "signs" "I") ∈ gT := gT_in (List.mem_of_getElem? (i := 501) (by decide +kernel)) (by decide +kernel)
theorem dX11_length_26 : decode cX11_length 26 = .ok (.ireturn, 1) := by decide +kernel
theorem dX11_length_14 : decode cX11_length 14 = .ok (.iload 4, 2) := by decide +kernel
theorem dX11_length_16 : decode cX11_length 16 = .ok (.goto 10, 3) := by decide +kernel
theorem dX11_sign_0 : decode cX11_sign 0 = .ok (.iload 4, 2) := by decide +kernel
theorem dX11_sign_2 : decode cX11_sign 2 = .ok (.ifCond .ge 6, 3) := by decide +kernel
theorem dX11_sign_8 : decode cX11_sign 8 = .ok (.aload_n 0, 1) := by decide +kernel
theorem dX11_sign_9 : decode cX11_sign 9 = .ok (.iload_n 1, 1) := by decide +kernel
theorem dX11_sign_10 : decode cX11_sign 10 = .ok (.iload_n 2, 1) := by decide +kernel
theorem dX11_sign_11 : decode cX11_sign 11 = .ok (.iload_n 3, 1) := by decide +kernel
theorem dX11_sign_12 : decode cX11_sign 12 = .ok (.invokevirtual 259, 3) := by decide +kernel
theorem dX11_sign_15 : decode cX11_sign 15 = .ok (.istore 5, 2) := by decide +kernel
theorem dX11_sign_17 : decode cX11_sign 17 = .ok (.iload 5, 2) := by decide +kernel
theorem dX11_sign_19 : decode cX11_sign 19 = .ok (.ifCond .eq 8, 3) := by decide +kernel
theorem dX11_sign_27 : decode cX11_sign 27 = .ok (.aload_n 0, 1) := by decide +kernel
theorem dX11_sign_28 : decode cX11_sign 28 = .ok (.getfield 72, 3) := by decide +kernel
theorem dX11_sign_31 : decode cX11_sign 31 = .ok (.iload 4, 2) := by decide +kernel
theorem dX11_sign_33 : decode cX11_sign 33 = .ok (.invokevirtual 266, 3) := by decide +kernel
theorem wm_1425 : (Jvm.Cond.methodLink "GrownKinds" (266 : Nat) ({ cls := "GrownKinds$Speller", name := "signAt", desc := "(I)I" } : Jvm.MethodName)) ∈ gT := gT_in (List.mem_of_getElem? (i := 1425) (by decide +kernel)) (by decide +kernel)
theorem wm_1426 : (Jvm.Cond.instanceMethod ({ cls := "GrownKinds$Speller", name := "signAt", desc := "(I)I" } : Jvm.MethodName)) ∈ gT := gT_in (List.mem_of_getElem? (i := 1426) (by decide +kernel)) (by decide +kernel)
theorem wm_1427 : (Jvm.Cond.selects "GrownKinds$Speller" ({ cls := "GrownKinds$Speller", name := "signAt", desc := "(I)I" } : Jvm.MethodName) ({ cls := "GrownKinds$Speller", name := "signAt", desc := "(I)I" } : Jvm.MethodName)) ∈ gT := gT_in (List.mem_of_getElem? (i := 1427) (by decide +kernel)) (by decide +kernel)
theorem wm_1428 : (Jvm.Cond.code ({ cls := "GrownKinds$Speller", name := "signAt", desc := "(I)I" } : Jvm.MethodName) prog_11_method_3_code (2 : Nat) (Option.some Jvm.ClassFile.FieldType.int)) ∈ gT := gT_in (List.mem_of_getElem? (i := 1428) (by decide +kernel)) (by decide +kernel)
theorem dX11_sign_36 : decode cX11_sign 36 = .ok (.ireturn, 1) := by decide +kernel
theorem dX11_sign_22 : decode cX11_sign 22 = .ok (.iload 5, 2) := by decide +kernel
theorem dX11_sign_24 : decode cX11_sign 24 = .ok (.goto 12, 3) := by decide +kernel
theorem dX11_sign_5 : decode cX11_sign 5 = .ok (.bipush (-2), 2) := by decide +kernel
theorem dX11_sign_7 : decode cX11_sign 7 = .ok (.ireturn, 1) := by decide +kernel
theorem dX11_deep_0 : decode cX11_deep 0 = .ok (.aload_n 0, 1) := by decide +kernel
theorem dX11_deep_1 : decode cX11_deep 1 = .ok (.iload_n 1, 1) := by decide +kernel
theorem dX11_deep_2 : decode cX11_deep 2 = .ok (.iload_n 2, 1) := by decide +kernel
theorem dX11_deep_3 : decode cX11_deep 3 = .ok (.iload_n 3, 1) := by decide +kernel
theorem dX11_deep_4 : decode cX11_deep 4 = .ok (.invokevirtual 259, 3) := by decide +kernel
theorem dX11_deep_7 : decode cX11_deep 7 = .ok (.istore 4, 2) := by decide +kernel
theorem dX11_deep_9 : decode cX11_deep 9 = .ok (.iload 4, 2) := by decide +kernel
theorem dX11_deep_11 : decode cX11_deep 11 = .ok (.ifCond .eq 8, 3) := by decide +kernel
theorem dX11_deep_19 : decode cX11_deep 19 = .ok (.aload_n 0, 1) := by decide +kernel
theorem dX11_deep_20 : decode cX11_deep 20 = .ok (.getfield 72, 3) := by decide +kernel
theorem dX11_deep_23 : decode cX11_deep 23 = .ok (.getfield 269, 3) := by decide +kernel
theorem wm_504 : (Jvm.Cond.fieldLink "GrownKinds" (269 : Nat) "GrownKinds$Speller" "depth" "I") ∈ gT := gT_in (List.mem_of_getElem? (i := 504) (by decide +kernel)) (by decide +kernel)
theorem dX11_deep_26 : decode cX11_deep 26 = .ok (.ireturn, 1) := by decide +kernel
theorem dX11_deep_14 : decode cX11_deep 14 = .ok (.iload 4, 2) := by decide +kernel
theorem dX11_deep_16 : decode cX11_deep 16 = .ok (.goto 10, 3) := by decide +kernel
theorem dX11_atoms_0 : decode cX11_atoms 0 = .ok (.iload 4, 2) := by decide +kernel
theorem dX11_atoms_2 : decode cX11_atoms 2 = .ok (.invokestatic 221, 3) := by decide +kernel
theorem dX11_atoms_5 : decode cX11_atoms 5 = .ok (.ifCond .ne 6, 3) := by decide +kernel
theorem dX11_atoms_11 : decode cX11_atoms 11 = .ok (.aload_n 0, 1) := by decide +kernel
theorem dX11_atoms_12 : decode cX11_atoms 12 = .ok (.iload_n 1, 1) := by decide +kernel
theorem dX11_atoms_13 : decode cX11_atoms 13 = .ok (.iload_n 2, 1) := by decide +kernel
theorem dX11_atoms_14 : decode cX11_atoms 14 = .ok (.iload_n 3, 1) := by decide +kernel
theorem dX11_atoms_15 : decode cX11_atoms 15 = .ok (.invokevirtual 259, 3) := by decide +kernel
theorem dX11_atoms_18 : decode cX11_atoms 18 = .ok (.istore 5, 2) := by decide +kernel
theorem dX11_atoms_20 : decode cX11_atoms 20 = .ok (.iload 5, 2) := by decide +kernel
theorem dX11_atoms_22 : decode cX11_atoms 22 = .ok (.ifCond .eq 8, 3) := by decide +kernel
theorem dX11_atoms_30 : decode cX11_atoms 30 = .ok (.aload_n 0, 1) := by decide +kernel
theorem dX11_atoms_31 : decode cX11_atoms 31 = .ok (.getfield 72, 3) := by decide +kernel
theorem dX11_atoms_34 : decode cX11_atoms 34 = .ok (.getfield 272, 3) := by decide +kernel
theorem wm_514 : (Jvm.Cond.fieldLink "GrownKinds" (272 : Nat) "GrownKinds$Speller" "atomCounts" "[I") ∈ gT := gT_in (List.mem_of_getElem? (i := 514) (by decide +kernel)) (by decide +kernel)
theorem dX11_atoms_37 : decode cX11_atoms 37 = .ok (.iload 4, 2) := by decide +kernel
theorem dX11_atoms_39 : decode cX11_atoms 39 = .ok (.iaload, 1) := by decide +kernel
theorem dX11_atoms_40 : decode cX11_atoms 40 = .ok (.ireturn, 1) := by decide +kernel
theorem dX11_atoms_25 : decode cX11_atoms 25 = .ok (.iload 5, 2) := by decide +kernel
theorem dX11_atoms_27 : decode cX11_atoms 27 = .ok (.goto 13, 3) := by decide +kernel
theorem dX11_atoms_8 : decode cX11_atoms 8 = .ok (.bipush (-2), 2) := by decide +kernel
theorem dX11_atoms_10 : decode cX11_atoms 10 = .ok (.ireturn, 1) := by decide +kernel
theorem dX11_term_0 : decode cX11_term 0 = .ok (.aload_n 0, 1) := by decide +kernel
theorem dX11_term_1 : decode cX11_term 1 = .ok (.iload_n 1, 1) := by decide +kernel
theorem dX11_term_2 : decode cX11_term 2 = .ok (.iload_n 2, 1) := by decide +kernel
theorem dX11_term_3 : decode cX11_term 3 = .ok (.iload_n 3, 1) := by decide +kernel
theorem dX11_term_4 : decode cX11_term 4 = .ok (.invokevirtual 259, 3) := by decide +kernel
theorem dX11_term_7 : decode cX11_term 7 = .ok (.istore 4, 2) := by decide +kernel
theorem dX11_term_9 : decode cX11_term 9 = .ok (.iload 4, 2) := by decide +kernel
theorem dX11_term_11 : decode cX11_term 11 = .ok (.ifCond .eq 8, 3) := by decide +kernel
theorem dX11_term_19 : decode cX11_term 19 = .ok (.aload_n 0, 1) := by decide +kernel
theorem dX11_term_20 : decode cX11_term 20 = .ok (.getfield 72, 3) := by decide +kernel
theorem dX11_term_23 : decode cX11_term 23 = .ok (.getfield 275, 3) := by decide +kernel
theorem wm_509 : (Jvm.Cond.fieldLink "GrownKinds" (275 : Nat) "GrownKinds$Speller" "topTerm" "I") ∈ gT := gT_in (List.mem_of_getElem? (i := 509) (by decide +kernel)) (by decide +kernel)
theorem dX11_term_26 : decode cX11_term 26 = .ok (.ireturn, 1) := by decide +kernel
theorem dX11_term_14 : decode cX11_term 14 = .ok (.iload 4, 2) := by decide +kernel
theorem dX11_term_16 : decode cX11_term 16 = .ok (.goto 10, 3) := by decide +kernel
theorem dX11_symmetries_0 : decode cX11_symmetries 0 = .ok (.aload_n 0, 1) := by decide +kernel
theorem dX11_symmetries_1 : decode cX11_symmetries 1 = .ok (.iload_n 1, 1) := by decide +kernel
theorem dX11_symmetries_2 : decode cX11_symmetries 2 = .ok (.iload_n 2, 1) := by decide +kernel
theorem dX11_symmetries_3 : decode cX11_symmetries 3 = .ok (.iload_n 3, 1) := by decide +kernel
theorem dX11_symmetries_4 : decode cX11_symmetries 4 = .ok (.invokevirtual 259, 3) := by decide +kernel
theorem dX11_symmetries_7 : decode cX11_symmetries 7 = .ok (.istore 4, 2) := by decide +kernel
theorem dX11_symmetries_9 : decode cX11_symmetries 9 = .ok (.iload 4, 2) := by decide +kernel
theorem dX11_symmetries_11 : decode cX11_symmetries 11 = .ok (.ifCond .eq 8, 3) := by decide +kernel
theorem dX11_symmetries_19 : decode cX11_symmetries 19 = .ok (.aload_n 0, 1) := by decide +kernel
theorem dX11_symmetries_20 : decode cX11_symmetries 20 = .ok (.getfield 72, 3) := by decide +kernel
theorem dX11_symmetries_23 : decode cX11_symmetries 23 = .ok (.getfield 278, 3) := by decide +kernel
theorem wm_507 : (Jvm.Cond.fieldLink "GrownKinds" (278 : Nat) "GrownKinds$Speller" "turns" "I") ∈ gT := gT_in (List.mem_of_getElem? (i := 507) (by decide +kernel)) (by decide +kernel)
theorem dX11_symmetries_26 : decode cX11_symmetries 26 = .ok (.ireturn, 1) := by decide +kernel
theorem dX11_symmetries_14 : decode cX11_symmetries 14 = .ok (.iload 4, 2) := by decide +kernel
theorem dX11_symmetries_16 : decode cX11_symmetries 16 = .ok (.goto 10, 3) := by decide +kernel
theorem dX11_labels_0 : decode cX11_labels 0 = .ok (.aload_n 0, 1) := by decide +kernel
theorem dX11_labels_1 : decode cX11_labels 1 = .ok (.iload_n 1, 1) := by decide +kernel
theorem dX11_labels_2 : decode cX11_labels 2 = .ok (.iload_n 2, 1) := by decide +kernel
theorem dX11_labels_3 : decode cX11_labels 3 = .ok (.iload_n 3, 1) := by decide +kernel
theorem dX11_labels_4 : decode cX11_labels 4 = .ok (.invokevirtual 259, 3) := by decide +kernel
theorem dX11_labels_7 : decode cX11_labels 7 = .ok (.istore 4, 2) := by decide +kernel
theorem dX11_labels_9 : decode cX11_labels 9 = .ok (.iload 4, 2) := by decide +kernel
theorem dX11_labels_11 : decode cX11_labels 11 = .ok (.ifCond .eq 6, 3) := by decide +kernel
theorem dX11_labels_17 : decode cX11_labels 17 = .ok (.aload_n 0, 1) := by decide +kernel
theorem dX11_labels_18 : decode cX11_labels 18 = .ok (.getfield 72, 3) := by decide +kernel
theorem dX11_labels_21 : decode cX11_labels 21 = .ok (.getfield 278, 3) := by decide +kernel
theorem dX11_labels_24 : decode cX11_labels 24 = .ok (.iconst 1, 1) := by decide +kernel
theorem dX11_labels_25 : decode cX11_labels 25 = .ok (.if_icmp .ge 11, 3) := by decide +kernel
theorem dX11_labels_36 : decode cX11_labels 36 = .ok (.getstatic 281, 3) := by decide +kernel
theorem wm_1449 : (Jvm.Cond.fieldLink "GrownKinds" (281 : Nat) "GrownKinds" "FACTORIAL" "[I") ∈ gT := gT_in (List.mem_of_getElem? (i := 1449) (by decide +kernel)) (by decide +kernel)
theorem dX11_labels_39 : decode cX11_labels 39 = .ok (.iload_n 2, 1) := by decide +kernel
theorem dX11_labels_40 : decode cX11_labels 40 = .ok (.iaload, 1) := by decide +kernel
theorem dX11_labels_41 : decode cX11_labels 41 = .ok (.aload_n 0, 1) := by decide +kernel
theorem dX11_labels_42 : decode cX11_labels 42 = .ok (.getfield 72, 3) := by decide +kernel
theorem dX11_labels_45 : decode cX11_labels 45 = .ok (.getfield 278, 3) := by decide +kernel
theorem dX11_labels_48 : decode cX11_labels 48 = .ok (.idiv, 1) := by decide +kernel
theorem dX11_labels_49 : decode cX11_labels 49 = .ok (.ireturn, 1) := by decide +kernel
theorem dX11_labels_28 : decode cX11_labels 28 = .ok (.getstatic 281, 3) := by decide +kernel
theorem dX11_labels_31 : decode cX11_labels 31 = .ok (.iload_n 2, 1) := by decide +kernel
theorem dX11_labels_32 : decode cX11_labels 32 = .ok (.iaload, 1) := by decide +kernel
theorem dX11_labels_33 : decode cX11_labels 33 = .ok (.goto 16, 3) := by decide +kernel
theorem dX11_labels_14 : decode cX11_labels 14 = .ok (.iload 4, 2) := by decide +kernel
theorem dX11_labels_16 : decode cX11_labels 16 = .ok (.ireturn, 1) := by decide +kernel
theorem dX11_rolling_0 : decode cX11_rolling 0 = .ok (.aload_n 0, 1) := by decide +kernel
theorem dX11_rolling_1 : decode cX11_rolling 1 = .ok (.iload_n 1, 1) := by decide +kernel
theorem dX11_rolling_2 : decode cX11_rolling 2 = .ok (.iload_n 2, 1) := by decide +kernel
theorem dX11_rolling_3 : decode cX11_rolling 3 = .ok (.invokevirtual 251, 3) := by decide +kernel
theorem dX11_rolling_6 : decode cX11_rolling 6 = .ok (.istore_n 3, 1) := by decide +kernel
theorem dX11_rolling_7 : decode cX11_rolling 7 = .ok (.iload_n 3, 1) := by decide +kernel
theorem dX11_rolling_8 : decode cX11_rolling 8 = .ok (.ifCond .eq 5, 3) := by decide +kernel
theorem dX11_rolling_13 : decode cX11_rolling 13 = .ok (.aload_n 0, 1) := by decide +kernel
theorem dX11_rolling_14 : decode cX11_rolling 14 = .ok (.getfield 51, 3) := by decide +kernel
theorem dX11_rolling_17 : decode cX11_rolling 17 = .ok (.iload_n 1, 1) := by decide +kernel
theorem dX11_rolling_18 : decode cX11_rolling 18 = .ok (.iload_n 2, 1) := by decide +kernel
theorem dX11_rolling_19 : decode cX11_rolling 19 = .ok (.invokevirtual 206, 3) := by decide +kernel
theorem dX11_rolling_22 : decode cX11_rolling 22 = .ok (.l2i, 1) := by decide +kernel
theorem dX11_rolling_23 : decode cX11_rolling 23 = .ok (.istore 4, 2) := by decide +kernel
theorem dX11_rolling_25 : decode cX11_rolling 25 = .ok (.iload 4, 2) := by decide +kernel
theorem dX11_rolling_27 : decode cX11_rolling 27 = .ok (.ifCond .ne 5, 3) := by decide +kernel
theorem dX11_rolling_32 : decode cX11_rolling 32 = .ok (.iload_n 1, 1) := by decide +kernel
theorem dX11_rolling_33 : decode cX11_rolling 33 = .ok (.bipush 8, 2) := by decide +kernel
theorem dX11_rolling_35 : decode cX11_rolling 35 = .ok (.imul, 1) := by decide +kernel
theorem dX11_rolling_36 : decode cX11_rolling 36 = .ok (.iload_n 2, 1) := by decide +kernel
theorem dX11_rolling_37 : decode cX11_rolling 37 = .ok (.iadd, 1) := by decide +kernel
theorem dX11_rolling_38 : decode cX11_rolling 38 = .ok (.istore 5, 2) := by decide +kernel
theorem dX11_rolling_40 : decode cX11_rolling 40 = .ok (.aload_n 0, 1) := by decide +kernel
theorem dX11_rolling_41 : decode cX11_rolling 41 = .ok (.getfield 88, 3) := by decide +kernel
theorem dX11_rolling_44 : decode cX11_rolling 44 = .ok (.iload 5, 2) := by decide +kernel
theorem dX11_rolling_46 : decode cX11_rolling 46 = .ok (.invokevirtual 304, 3) := by decide +kernel
theorem wm_1542 : (Jvm.Cond.methodLink "GrownKinds" (304 : Nat) ({ cls := "GrownKinds$Roll", name := "has", desc := "(I)Z" } : Jvm.MethodName)) ∈ gT := gT_in (List.mem_of_getElem? (i := 1542) (by decide +kernel)) (by decide +kernel)
theorem wm_1543 : (Jvm.Cond.instanceMethod ({ cls := "GrownKinds$Roll", name := "has", desc := "(I)Z" } : Jvm.MethodName)) ∈ gT := gT_in (List.mem_of_getElem? (i := 1543) (by decide +kernel)) (by decide +kernel)
theorem wm_1544 : (Jvm.Cond.selects "GrownKinds$Roll" ({ cls := "GrownKinds$Roll", name := "has", desc := "(I)Z" } : Jvm.MethodName) ({ cls := "GrownKinds$Roll", name := "has", desc := "(I)Z" } : Jvm.MethodName)) ∈ gT := gT_in (List.mem_of_getElem? (i := 1544) (by decide +kernel)) (by decide +kernel)
theorem wm_1545 : (Jvm.Cond.code ({ cls := "GrownKinds$Roll", name := "has", desc := "(I)Z" } : Jvm.MethodName) prog_9_method_3_code (2 : Nat) (Option.some Jvm.ClassFile.FieldType.boolean)) ∈ gT := gT_in (List.mem_of_getElem? (i := 1545) (by decide +kernel)) (by decide +kernel)
theorem dX7_has_0 : decode cX7_has 0 = .ok (.aload_n 0, 1) := by decide +kernel
theorem dX7_has_1 : decode cX7_has 1 = .ok (.getfield 9, 3) := by decide +kernel
theorem dX7_has_4 : decode cX7_has 4 = .ok (.iload_n 1, 1) := by decide +kernel
theorem dX7_has_5 : decode cX7_has 5 = .ok (.lshr, 1) := by decide +kernel
theorem dX7_has_6 : decode cX7_has 6 = .ok (.lconst 1, 1) := by decide +kernel
theorem dX7_has_7 : decode cX7_has 7 = .ok (.land, 1) := by decide +kernel
theorem dX7_has_8 : decode cX7_has 8 = .ok (.lconst 0, 1) := by decide +kernel
theorem dX7_has_9 : decode cX7_has 9 = .ok (.lcmp, 1) := by decide +kernel
theorem dX7_has_10 : decode cX7_has 10 = .ok (.ifCond .eq 7, 3) := by decide +kernel
theorem dX7_has_17 : decode cX7_has 17 = .ok (.iconst 0, 1) := by decide +kernel
theorem dX7_has_18 : decode cX7_has 18 = .ok (.ireturn, 1) := by decide +kernel
theorem dX7_has_13 : decode cX7_has 13 = .ok (.iconst 1, 1) := by decide +kernel
theorem dX7_has_14 : decode cX7_has 14 = .ok (.goto 4, 3) := by decide +kernel
theorem dX11_rolling_49 : decode cX11_rolling 49 = .ok (.ifCond .ne 54, 3) := by decide +kernel
theorem dX11_rolling_103 : decode cX11_rolling 103 = .ok (.iconst 0, 1) := by decide +kernel
theorem dX11_rolling_104 : decode cX11_rolling 104 = .ok (.ireturn, 1) := by decide +kernel
theorem dX11_rolling_52 : decode cX11_rolling 52 = .ok (.aload_n 0, 1) := by decide +kernel
theorem dX11_rolling_53 : decode cX11_rolling 53 = .ok (.getfield 88, 3) := by decide +kernel
theorem dX11_rolling_56 : decode cX11_rolling 56 = .ok (.iload 5, 2) := by decide +kernel
theorem dX11_rolling_58 : decode cX11_rolling 58 = .ok (.invokevirtual 307, 3) := by decide +kernel
theorem wm_1546 : (Jvm.Cond.methodLink "GrownKinds" (307 : Nat) ({ cls := "GrownKinds$Roll", name := "begin", desc := "(I)V" } : Jvm.MethodName)) ∈ gT := gT_in (List.mem_of_getElem? (i := 1546) (by decide +kernel)) (by decide +kernel)
theorem wm_1547 : (Jvm.Cond.instanceMethod ({ cls := "GrownKinds$Roll", name := "begin", desc := "(I)V" } : Jvm.MethodName)) ∈ gT := gT_in (List.mem_of_getElem? (i := 1547) (by decide +kernel)) (by decide +kernel)
theorem wm_1548 : (Jvm.Cond.selects "GrownKinds$Roll" ({ cls := "GrownKinds$Roll", name := "begin", desc := "(I)V" } : Jvm.MethodName) ({ cls := "GrownKinds$Roll", name := "begin", desc := "(I)V" } : Jvm.MethodName)) ∈ gT := gT_in (List.mem_of_getElem? (i := 1548) (by decide +kernel)) (by decide +kernel)
theorem wm_1549 : (Jvm.Cond.code ({ cls := "GrownKinds$Roll", name := "begin", desc := "(I)V" } : Jvm.MethodName) prog_9_method_4_code (2 : Nat) (Option.none : Option Jvm.ClassFile.FieldType)) ∈ gT := gT_in (List.mem_of_getElem? (i := 1549) (by decide +kernel)) (by decide +kernel)
theorem dX11_rolling_61 : decode cX11_rolling 61 = .ok (.iconst 0, 1) := by decide +kernel
theorem dX11_rolling_62 : decode cX11_rolling 62 = .ok (.istore 6, 2) := by decide +kernel
theorem dX11_rolling_64 : decode cX11_rolling 64 = .ok (.iload 6, 2) := by decide +kernel
theorem dX11_rolling_66 : decode cX11_rolling 66 = .ok (.iload 4, 2) := by decide +kernel
theorem dX11_rolling_68 : decode cX11_rolling 68 = .ok (.if_icmp .ge 35, 3) := by decide +kernel
theorem dX11_rolling_71 : decode cX11_rolling 71 = .ok (.aload_n 0, 1) := by decide +kernel
theorem dX11_rolling_72 : decode cX11_rolling 72 = .ok (.getfield 72, 3) := by decide +kernel
theorem dX11_rolling_75 : decode cX11_rolling 75 = .ok (.iload_n 1, 1) := by decide +kernel
theorem dX11_rolling_76 : decode cX11_rolling 76 = .ok (.iload_n 2, 1) := by decide +kernel
theorem dX11_rolling_77 : decode cX11_rolling 77 = .ok (.iload 6, 2) := by decide +kernel
theorem dX11_rolling_79 : decode cX11_rolling 79 = .ok (.aload_n 0, 1) := by decide +kernel
theorem dX11_rolling_80 : decode cX11_rolling 80 = .ok (.getfield 111, 3) := by decide +kernel
theorem dX11_rolling_83 : decode cX11_rolling 83 = .ok (.invokevirtual 255, 3) := by decide +kernel
theorem dX11_rolling_86 : decode cX11_rolling 86 = .ok (.aload_n 0, 1) := by decide +kernel
theorem dX11_rolling_87 : decode cX11_rolling 87 = .ok (.getfield 88, 3) := by decide +kernel
theorem dX11_rolling_90 : decode cX11_rolling 90 = .ok (.iload 5, 2) := by decide +kernel
theorem dX11_rolling_92 : decode cX11_rolling 92 = .ok (.iload 6, 2) := by decide +kernel
theorem dX11_rolling_94 : decode cX11_rolling 94 = .ok (.invokevirtual 310, 3) := by decide +kernel
theorem wm_1557 : (Jvm.Cond.methodLink "GrownKinds" (310 : Nat) ({ cls := "GrownKinds$Roll", name := "note", desc := "(II)V" } : Jvm.MethodName)) ∈ gT := gT_in (List.mem_of_getElem? (i := 1557) (by decide +kernel)) (by decide +kernel)
theorem wm_1558 : (Jvm.Cond.instanceMethod ({ cls := "GrownKinds$Roll", name := "note", desc := "(II)V" } : Jvm.MethodName)) ∈ gT := gT_in (List.mem_of_getElem? (i := 1558) (by decide +kernel)) (by decide +kernel)
theorem wm_1559 : (Jvm.Cond.selects "GrownKinds$Roll" ({ cls := "GrownKinds$Roll", name := "note", desc := "(II)V" } : Jvm.MethodName) ({ cls := "GrownKinds$Roll", name := "note", desc := "(II)V" } : Jvm.MethodName)) ∈ gT := gT_in (List.mem_of_getElem? (i := 1559) (by decide +kernel)) (by decide +kernel)
theorem wm_1560 : (Jvm.Cond.code ({ cls := "GrownKinds$Roll", name := "note", desc := "(II)V" } : Jvm.MethodName) prog_9_method_5_code (3 : Nat) (Option.none : Option Jvm.ClassFile.FieldType)) ∈ gT := gT_in (List.mem_of_getElem? (i := 1560) (by decide +kernel)) (by decide +kernel)
theorem dX11_rolling_97 : decode cX11_rolling 97 = .ok (.iinc 6 1, 3) := by decide +kernel
theorem dX11_rolling_100 : decode cX11_rolling 100 = .ok (.goto (-36), 3) := by decide +kernel
theorem dX11_rolling_30 : decode cX11_rolling 30 = .ok (.iconst (-1), 1) := by decide +kernel
theorem dX11_rolling_31 : decode cX11_rolling 31 = .ok (.ireturn, 1) := by decide +kernel
theorem dX11_rolling_11 : decode cX11_rolling 11 = .ok (.iload_n 3, 1) := by decide +kernel
theorem dX11_rolling_12 : decode cX11_rolling 12 = .ok (.ireturn, 1) := by decide +kernel
theorem dX11_deepest_0 : decode cX11_deepest 0 = .ok (.aload_n 0, 1) := by decide +kernel
theorem dX11_deepest_1 : decode cX11_deepest 1 = .ok (.iload_n 1, 1) := by decide +kernel
theorem dX11_deepest_2 : decode cX11_deepest 2 = .ok (.iload_n 2, 1) := by decide +kernel
theorem dX11_deepest_3 : decode cX11_deepest 3 = .ok (.invokevirtual 314, 3) := by decide +kernel
theorem wm_1538 : (Jvm.Cond.methodLink "GrownKinds" (314 : Nat) ({ cls := "GrownKinds", name := "rolling", desc := "(II)I" } : Jvm.MethodName)) ∈ gT := gT_in (List.mem_of_getElem? (i := 1538) (by decide +kernel)) (by decide +kernel)
theorem wm_1540 : (Jvm.Cond.instanceMethod ({ cls := "GrownKinds", name := "rolling", desc := "(II)I" } : Jvm.MethodName)) ∈ gT := gT_in (List.mem_of_getElem? (i := 1540) (by decide +kernel)) (by decide +kernel)
theorem wm_83 : Cond.selects "GrownKinds" ⟨"GrownKinds", "rolling", "(II)I"⟩ ⟨"GrownKinds", "rolling", "(II)I"⟩ ∈ gT := gT_in (List.mem_of_getElem? (i := 83) (by decide +kernel)) (by decide +kernel)
theorem wm_1541 : (Jvm.Cond.code ({ cls := "GrownKinds", name := "rolling", desc := "(II)I" } : Jvm.MethodName) prog_1_method_45_code (7 : Nat) (Option.some Jvm.ClassFile.FieldType.int)) ∈ gT := gT_in (List.mem_of_getElem? (i := 1541) (by decide +kernel)) (by decide +kernel)
theorem dX11_deepest_6 : decode cX11_deepest 6 = .ok (.istore_n 3, 1) := by decide +kernel
theorem dX11_deepest_7 : decode cX11_deepest 7 = .ok (.iload_n 3, 1) := by decide +kernel
theorem dX11_deepest_8 : decode cX11_deepest 8 = .ok (.ifCond .eq 7, 3) := by decide +kernel
theorem dX11_deepest_15 : decode cX11_deepest 15 = .ok (.aload_n 0, 1) := by decide +kernel
theorem dX11_deepest_16 : decode cX11_deepest 16 = .ok (.getfield 88, 3) := by decide +kernel
theorem dX11_deepest_19 : decode cX11_deepest 19 = .ok (.getfield 317, 3) := by decide +kernel
theorem wm_607 : (Jvm.Cond.fieldLink "GrownKinds" (317 : Nat) "GrownKinds$Roll" "deepestRank" "[I") ∈ gT := gT_in (List.mem_of_getElem? (i := 607) (by decide +kernel)) (by decide +kernel)
theorem dX11_deepest_22 : decode cX11_deepest 22 = .ok (.iload_n 1, 1) := by decide +kernel
theorem dX11_deepest_23 : decode cX11_deepest 23 = .ok (.bipush 8, 2) := by decide +kernel
theorem dX11_deepest_25 : decode cX11_deepest 25 = .ok (.imul, 1) := by decide +kernel
theorem dX11_deepest_26 : decode cX11_deepest 26 = .ok (.iload_n 2, 1) := by decide +kernel
theorem dX11_deepest_27 : decode cX11_deepest 27 = .ok (.iadd, 1) := by decide +kernel
theorem dX11_deepest_28 : decode cX11_deepest 28 = .ok (.iaload, 1) := by decide +kernel
theorem dX11_deepest_29 : decode cX11_deepest 29 = .ok (.ireturn, 1) := by decide +kernel
theorem dX11_deepest_11 : decode cX11_deepest 11 = .ok (.iload_n 3, 1) := by decide +kernel
theorem dX11_deepest_12 : decode cX11_deepest 12 = .ok (.goto 17, 3) := by decide +kernel
theorem dX11_fullest_0 : decode cX11_fullest 0 = .ok (.iload_n 3, 1) := by decide +kernel
theorem dX11_fullest_1 : decode cX11_fullest 1 = .ok (.invokestatic 221, 3) := by decide +kernel
theorem dX11_fullest_4 : decode cX11_fullest 4 = .ok (.ifCond .ne 6, 3) := by decide +kernel
theorem dX11_fullest_10 : decode cX11_fullest 10 = .ok (.aload_n 0, 1) := by decide +kernel
theorem dX11_fullest_11 : decode cX11_fullest 11 = .ok (.iload_n 1, 1) := by decide +kernel
theorem dX11_fullest_12 : decode cX11_fullest 12 = .ok (.iload_n 2, 1) := by decide +kernel
theorem dX11_fullest_13 : decode cX11_fullest 13 = .ok (.invokevirtual 314, 3) := by decide +kernel
theorem dX11_fullest_16 : decode cX11_fullest 16 = .ok (.istore 4, 2) := by decide +kernel
theorem dX11_fullest_18 : decode cX11_fullest 18 = .ok (.iload 4, 2) := by decide +kernel
theorem dX11_fullest_20 : decode cX11_fullest 20 = .ok (.ifCond .eq 8, 3) := by decide +kernel
theorem dX11_fullest_28 : decode cX11_fullest 28 = .ok (.aload_n 0, 1) := by decide +kernel
theorem dX11_fullest_29 : decode cX11_fullest 29 = .ok (.getfield 88, 3) := by decide +kernel
theorem dX11_fullest_32 : decode cX11_fullest 32 = .ok (.getfield 320, 3) := by decide +kernel
theorem wm_611 : (Jvm.Cond.fieldLink "GrownKinds" (320 : Nat) "GrownKinds$Roll" "fullestRank" "[I") ∈ gT := gT_in (List.mem_of_getElem? (i := 611) (by decide +kernel)) (by decide +kernel)
theorem dX11_fullest_35 : decode cX11_fullest 35 = .ok (.iload_n 1, 1) := by decide +kernel
theorem dX11_fullest_36 : decode cX11_fullest 36 = .ok (.bipush 8, 2) := by decide +kernel
theorem dX11_fullest_38 : decode cX11_fullest 38 = .ok (.imul, 1) := by decide +kernel
theorem dX11_fullest_39 : decode cX11_fullest 39 = .ok (.iload_n 2, 1) := by decide +kernel
theorem dX11_fullest_40 : decode cX11_fullest 40 = .ok (.iadd, 1) := by decide +kernel
theorem dX11_fullest_41 : decode cX11_fullest 41 = .ok (.bipush 26, 2) := by decide +kernel
theorem dX11_fullest_43 : decode cX11_fullest 43 = .ok (.imul, 1) := by decide +kernel
theorem dX11_fullest_44 : decode cX11_fullest 44 = .ok (.iload_n 3, 1) := by decide +kernel
theorem dX11_fullest_45 : decode cX11_fullest 45 = .ok (.iadd, 1) := by decide +kernel
theorem dX11_fullest_46 : decode cX11_fullest 46 = .ok (.iaload, 1) := by decide +kernel
theorem dX11_fullest_47 : decode cX11_fullest 47 = .ok (.ireturn, 1) := by decide +kernel
theorem dX11_fullest_23 : decode cX11_fullest 23 = .ok (.iload 4, 2) := by decide +kernel
theorem dX11_fullest_25 : decode cX11_fullest 25 = .ok (.goto 22, 3) := by decide +kernel
theorem dX11_fullest_7 : decode cX11_fullest 7 = .ok (.bipush (-2), 2) := by decide +kernel
theorem dX11_fullest_9 : decode cX11_fullest 9 = .ok (.ireturn, 1) := by decide +kernel
theorem dX11_stiffest_0 : decode cX11_stiffest 0 = .ok (.aload_n 0, 1) := by decide +kernel
theorem dX11_stiffest_1 : decode cX11_stiffest 1 = .ok (.iload_n 1, 1) := by decide +kernel
theorem dX11_stiffest_2 : decode cX11_stiffest 2 = .ok (.iload_n 2, 1) := by decide +kernel
theorem dX11_stiffest_3 : decode cX11_stiffest 3 = .ok (.invokevirtual 314, 3) := by decide +kernel
theorem dX11_stiffest_6 : decode cX11_stiffest 6 = .ok (.istore_n 3, 1) := by decide +kernel
theorem dX11_stiffest_7 : decode cX11_stiffest 7 = .ok (.iload_n 3, 1) := by decide +kernel
theorem dX11_stiffest_8 : decode cX11_stiffest 8 = .ok (.ifCond .eq 7, 3) := by decide +kernel
theorem dX11_stiffest_15 : decode cX11_stiffest 15 = .ok (.aload_n 0, 1) := by decide +kernel
theorem dX11_stiffest_16 : decode cX11_stiffest 16 = .ok (.getfield 88, 3) := by decide +kernel
theorem dX11_stiffest_19 : decode cX11_stiffest 19 = .ok (.getfield 323, 3) := by decide +kernel
theorem wm_609 : (Jvm.Cond.fieldLink "GrownKinds" (323 : Nat) "GrownKinds$Roll" "stiffestRank" "[I") ∈ gT := gT_in (List.mem_of_getElem? (i := 609) (by decide +kernel)) (by decide +kernel)
theorem dX11_stiffest_22 : decode cX11_stiffest 22 = .ok (.iload_n 1, 1) := by decide +kernel
theorem dX11_stiffest_23 : decode cX11_stiffest 23 = .ok (.bipush 8, 2) := by decide +kernel
theorem dX11_stiffest_25 : decode cX11_stiffest 25 = .ok (.imul, 1) := by decide +kernel
theorem dX11_stiffest_26 : decode cX11_stiffest 26 = .ok (.iload_n 2, 1) := by decide +kernel
theorem dX11_stiffest_27 : decode cX11_stiffest 27 = .ok (.iadd, 1) := by decide +kernel
theorem dX11_stiffest_28 : decode cX11_stiffest 28 = .ok (.iaload, 1) := by decide +kernel
theorem dX11_stiffest_29 : decode cX11_stiffest 29 = .ok (.ireturn, 1) := by decide +kernel
theorem dX11_stiffest_11 : decode cX11_stiffest 11 = .ok (.iload_n 3, 1) := by decide +kernel
theorem dX11_stiffest_12 : decode cX11_stiffest 12 = .ok (.goto 17, 3) := by decide +kernel
theorem dX11_mean_0 : decode cX11_mean 0 = .ok (.iload_n 3, 1) := by decide +kernel
theorem dX11_mean_1 : decode cX11_mean 1 = .ok (.invokestatic 221, 3) := by decide +kernel
theorem dX11_mean_4 : decode cX11_mean 4 = .ok (.ifCond .eq 14, 3) := by decide +kernel
theorem dX11_mean_18 : decode cX11_mean 18 = .ok (.bipush (-2), 2) := by decide +kernel
theorem dX11_mean_20 : decode cX11_mean 20 = .ok (.ireturn, 1) := by decide +kernel
theorem dX11_mean_7 : decode cX11_mean 7 = .ok (.iload 4, 2) := by decide +kernel
theorem dX11_mean_9 : decode cX11_mean 9 = .ok (.ifCond .lt 9, 3) := by decide +kernel
theorem dX11_mean_12 : decode cX11_mean 12 = .ok (.iload 4, 2) := by decide +kernel
theorem dX11_mean_14 : decode cX11_mean 14 = .ok (.iconst 1, 1) := by decide +kernel
theorem dX11_mean_15 : decode cX11_mean 15 = .ok (.if_icmp .le 6, 3) := by decide +kernel
theorem dX11_mean_21 : decode cX11_mean 21 = .ok (.aload_n 0, 1) := by decide +kernel
theorem dX11_mean_22 : decode cX11_mean 22 = .ok (.iload_n 1, 1) := by decide +kernel
theorem dX11_mean_23 : decode cX11_mean 23 = .ok (.iload_n 2, 1) := by decide +kernel
theorem dX11_mean_24 : decode cX11_mean 24 = .ok (.invokevirtual 314, 3) := by decide +kernel
theorem dX11_mean_27 : decode cX11_mean 27 = .ok (.istore 5, 2) := by decide +kernel
theorem dX11_mean_29 : decode cX11_mean 29 = .ok (.iload 5, 2) := by decide +kernel
theorem dX11_mean_31 : decode cX11_mean 31 = .ok (.ifCond .eq 6, 3) := by decide +kernel
theorem dX11_mean_37 : decode cX11_mean 37 = .ok (.aload_n 0, 1) := by decide +kernel
theorem dX11_mean_38 : decode cX11_mean 38 = .ok (.getfield 88, 3) := by decide +kernel
theorem dX11_mean_41 : decode cX11_mean 41 = .ok (.getfield 329, 3) := by decide +kernel
theorem wm_613 : (Jvm.Cond.fieldLink "GrownKinds" (329 : Nat) "GrownKinds$Roll" "atomSums" "[I") ∈ gT := gT_in (List.mem_of_getElem? (i := 613) (by decide +kernel)) (by decide +kernel)
theorem dX11_mean_44 : decode cX11_mean 44 = .ok (.iload_n 1, 1) := by decide +kernel
theorem dX11_mean_45 : decode cX11_mean 45 = .ok (.bipush 8, 2) := by decide +kernel
theorem dX11_mean_47 : decode cX11_mean 47 = .ok (.imul, 1) := by decide +kernel
theorem dX11_mean_48 : decode cX11_mean 48 = .ok (.iload_n 2, 1) := by decide +kernel
theorem dX11_mean_49 : decode cX11_mean 49 = .ok (.iadd, 1) := by decide +kernel
theorem dX11_mean_50 : decode cX11_mean 50 = .ok (.bipush 26, 2) := by decide +kernel
theorem dX11_mean_52 : decode cX11_mean 52 = .ok (.imul, 1) := by decide +kernel
theorem dX11_mean_53 : decode cX11_mean 53 = .ok (.iload_n 3, 1) := by decide +kernel
theorem dX11_mean_54 : decode cX11_mean 54 = .ok (.iadd, 1) := by decide +kernel
theorem dX11_mean_55 : decode cX11_mean 55 = .ok (.iaload, 1) := by decide +kernel
theorem dX11_mean_56 : decode cX11_mean 56 = .ok (.aload_n 0, 1) := by decide +kernel
theorem dX11_mean_57 : decode cX11_mean 57 = .ok (.getfield 51, 3) := by decide +kernel
theorem dX11_mean_60 : decode cX11_mean 60 = .ok (.iload_n 1, 1) := by decide +kernel
theorem dX11_mean_61 : decode cX11_mean 61 = .ok (.iload_n 2, 1) := by decide +kernel
theorem dX11_mean_62 : decode cX11_mean 62 = .ok (.invokevirtual 206, 3) := by decide +kernel
theorem dX11_mean_65 : decode cX11_mean 65 = .ok (.l2i, 1) := by decide +kernel
theorem dX11_mean_66 : decode cX11_mean 66 = .ok (.iload 4, 2) := by decide +kernel
theorem dX11_mean_68 : decode cX11_mean 68 = .ok (.invokestatic 326, 3) := by decide +kernel
theorem dX11_mean_71 : decode cX11_mean 71 = .ok (.ireturn, 1) := by decide +kernel
theorem dX11_mean_34 : decode cX11_mean 34 = .ok (.iload 5, 2) := by decide +kernel
theorem dX11_mean_36 : decode cX11_mean 36 = .ok (.ireturn, 1) := by decide +kernel
theorem wV_11_255 : gWV "GrownKinds" 255 yX9_spell cX9_spell 8 none := ⟨wm_1269, wm_1270, wm_1271, wm_183, wm_1272, by decide +kernel, by decide +kernel⟩
def mX11_spelling (S0 : St) (a1 : Int) (a2 : Int) (a3 : Int) : Option (Int × St) := entG S0 (fun o : Int × St => o.2) (bd1 (mX11_listing S0 a1 a2) fun r_2 => gd (inI r_2) <| if r_2 = 0 then (gd (inI a3) <| if a3 < 0 then (some ((-2), S0)) else (bd1 (mX0_thingsAt_40 S0 a1 a2) fun r_8 => gd ((inL a3) ∧ (inL r_8)) <| if a3 < r_8 then (bdG1 S0 (fun o : Int × St => o.2) (mX9_spell S0 a1 a2 a3 (S0 0 16)) fun S_12 => some (0, S_12)) else (some ((-2), S0)))) else (some (r_2, S0)))
set_option maxHeartbeats 4000000 in
set_option maxRecDepth 100000 in
theorem vX11_spelling (l : Launch) {D : va_G} {cy : Nat → ClassId} {b : Nat} {S0 : St} (hn : 102 ≤ nn S0 - 3) (a1 : Int) (a2 : Int) (a3 : Int) {o1 : Int} {o2 : St} (hM : mX11_spelling S0 a1 a2 a3 = some (o1, o2)) : gI l yX11_spelling cX11_spelling 5 (some .int) 30 (nn o2 - nn S0) (zz o2 - zz S0) D cy b (nn S0 - 3) (eG b cy S0) [.ref (b + 0), .int (iI a1), .int (iI a2), .int (iI a3)] (fun r u => r = iI o1 ∧ u = (nn o2 - 3, eG b cy o2)) := by
  refine gI_of (by decide) (Nat.le_of_ble_eq_true rfl) ?_
  intro p e s m args below meth c S hr hlk hin hsz ls hl hG
  have hx := S.1
  have hb := S.2.1
  have hl : lv_has ls 5 [(0, .ref (b + 0)), (1, .int (iI a1)), (2, .int (iI a2)), (3, .int (iI a3))] := hl
  replace hG : gW D cy b (nn S0 - 3) s s.heap [] (eG b cy S0) := hG
  obtain ⟨H, eH⟩ : ∃ H, H = s.heap := ⟨_, rfl⟩
  obtain ⟨locs, elocs⟩ : ∃ locs : List Loc, locs = [] := ⟨_, rfl⟩
  rw [← eH, ← elocs] at hG
  rw [← eH, ← elocs]
  clear eH elocs
  unfold mX11_spelling at hM
  obtain ⟨hge, hM⟩ := entG_some hM
  replace hG : gX D cy b s H locs S0 0 0 S0 o2 := gX.start hG hsz hn hge
  refine lv_aload_n hx hb dX11_spelling_0 rfl (lv_at hl 0 rfl) ?_
  refine lv_iload_n hx hb dX11_spelling_1 rfl (lv_at hl 1 rfl) ?_
  refine lv_iload_n hx hb dX11_spelling_2 rfl (lv_at hl 2 rfl) ?_
  obtain ⟨r_2, hc_1, hM⟩ := bd1_some hM
  refine g_vi (As := [.int (iI a1), .int (iI a2)]) (rest := []) S hG.1 hG.2.1 (vX11_listing l hG.2.2.2.1 a1 a2 hc_1) wV_11_251 (ec_0 (b := b) (cy := cy) (X := XD b cy S0) _) cpX11 (Nat.lt_of_lt_of_le (Nat.le_of_ble_eq_true rfl) hG.2.2.2.1) dX11_spelling_3 rfl hl.1 (ar := 2) (by decide +kernel) rfl ⟨Nat.le_of_ble_eq_true rfl, Nat.le_of_ble_eq_true rfl, hG.rc, hG.rs⟩ (Nat.le_of_ble_eq_true rfl) (fun rv uu H locs hp hGc => ?_)
  obtain ⟨rfl, rfl⟩ := hp
  refine wz ?_
  replace hG := hG.same hGc
  clear hGc
  refine lv_istore (lv' := [(4, .int (iI r_2)), (0, .ref (b + 0)), (1, .int (iI a1)), (2, .int (iI a2)), (3, .int (iI a3))]) hx hb dX11_spelling_6 hl (by decide) rfl (fun ls hl => ?_)
  refine lv_iload hx hb dX11_spelling_8 (lv_at hl 0 rfl) ?_
  obtain ⟨hg_3, hM⟩ := gd_some hM
  refine gi_if_eq (tgt := 16) hx hb dX11_spelling_10 (by decide) hg_3 (fun c_4 => ?_) (fun c_4 => ?_)
  · replace hM := ifp hM c_4
    refine lv_iload_n hx hb dX11_spelling_16 rfl (lv_at hl 4 rfl) ?_
    obtain ⟨hg_5, hM⟩ := gd_some hM
    refine gi_if_lt (tgt := 35) hx hb dX11_spelling_17 (by decide) hg_5 (fun c_6 => ?_) (fun c_6 => ?_)
    · replace hM := ifp hM c_6
      refine lv_bipush (v := iI (-2)) hx hb dX11_spelling_35 (by decide) ?_
      cases hM
      exact g_iret S hr hlk hG.1 hG.2.1 dX11_spelling_37 ⟨hG.rc, hG.rs⟩ ⟨rfl, rfl⟩
    · replace hM := ifn hM c_6
      refine lv_iload_n hx hb dX11_spelling_20 rfl (lv_at hl 4 rfl) ?_
      refine gi_i2l hx hb dX11_spelling_21 hg_5 ?_
      refine lv_aload_n hx hb dX11_spelling_22 rfl (lv_at hl 1 rfl) ?_
      refine m_get S hG.1 0 0 7 rfl ec_0 cpX11 wm_672 dX11_spelling_23 rfl (Nat.lt_of_lt_of_le (Nat.le_of_ble_eq_true rfl) hG.2.2.2.1) (by decide) ?_
      refine lv_iload_n hx hb dX11_spelling_26 rfl (lv_at hl 2 rfl) ?_
      refine lv_iload_n hx hb dX11_spelling_27 rfl (lv_at hl 3 rfl) ?_
      obtain ⟨r_8, hc_7, hM⟩ := bd1_some hM
      refine g_vl (As := [.int (iI a1), .int (iI a2)]) (rest := [.long (jJ a3)]) S hG.1 hG.2.1 (vX0_thingsAt_40 l hG.2.2.2.1 a1 a2 hc_7) wV_11_206 (ec_40 (b := b) (cy := cy) (X := XD b cy S0) _) cpX0 (Nat.lt_of_lt_of_le (Nat.le_of_ble_eq_true rfl) hG.2.2.2.1) dX11_spelling_28 rfl hl.1 (ar := 2) (by decide +kernel) rfl ⟨Nat.le_of_ble_eq_true rfl, Nat.le_of_ble_eq_true rfl, hG.rc, hG.rs⟩ (Nat.le_of_ble_eq_true rfl) (fun rv uu H locs hp hGc => ?_)
      obtain ⟨rfl, rfl⟩ := hp
      refine wz ?_
      replace hG := hG.same hGc
      clear hGc
      obtain ⟨hg_9, hM⟩ := gd_some hM
      refine gj_cmp_lt (tgt := 38) hx hb dX11_spelling_31 dX11_spelling_32 (by decide) hg_9.1 hg_9.2 (fun c_10 => ?_) (fun c_10 => ?_)
      · replace hM := ifp hM c_10
        refine lv_aload_n hx hb dX11_spelling_38 rfl (lv_at hl 1 rfl) ?_
        refine m_get S hG.1 0 0 9 rfl ec_0 cpX11 wm_674 dX11_spelling_39 rfl (Nat.lt_of_lt_of_le (Nat.le_of_ble_eq_true rfl) hG.2.2.2.1) (by decide) ?_
        refine lv_iload_n hx hb dX11_spelling_42 rfl (lv_at hl 2 rfl) ?_
        refine lv_iload_n hx hb dX11_spelling_43 rfl (lv_at hl 3 rfl) ?_
        refine lv_iload_n hx hb dX11_spelling_44 rfl (lv_at hl 4 rfl) ?_
        refine lv_aload_n hx hb dX11_spelling_45 rfl (lv_at hl 1 rfl) ?_
        refine m_get S hG.1 0 0 16 rfl ec_0 cpX11 wm_681 dX11_spelling_46 rfl (Nat.lt_of_lt_of_le (Nat.le_of_ble_eq_true rfl) hG.2.2.2.1) (by decide) ?_
        obtain ⟨S_12, hc_11, hg_13, hg_14, hM⟩ := bdG1_some hM
        have hg_15 : gle S_12 o2 := ⟨Nat.le_trans hg_14.1 gle_rfl.1, Nat.le_trans hg_14.2 gle_rfl.2⟩
        refine g_vv (As := [.int (iI a1), .int (iI a2), .int (iI a3), .int (iI (S0 0 16))]) (rest := []) S hG.1 hG.2.1 (vX9_spell l hG.2.2.2.1 a1 a2 a3 (S0 0 16) hc_11) wV_11_255 (ec_60 (b := b) (cy := cy) (X := XD b cy S0) _) cpX9 (Nat.lt_of_lt_of_le (Nat.le_of_ble_eq_true rfl) hG.2.2.2.1) dX11_spelling_49 rfl hl.1 (ar := 4) (by decide +kernel) rfl ⟨Nat.le_of_ble_eq_true rfl, Nat.le_of_ble_eq_true rfl, hG.gc hg_13 hg_15, hG.gs hg_13 hg_15⟩ (Nat.le_of_ble_eq_true rfl) (fun uu H locs hp hGc => ?_)
        obtain rfl := hp
        replace hG := hG.grow hg_13 hg_15 hGc
        clear hGc
        refine lv_iconst (v := iI 0) hx hb dX11_spelling_52 (by decide) ?_
        cases hM
        exact g_iret S hr hlk hG.1 hG.2.1 dX11_spelling_53 ⟨hG.rc, hG.rs⟩ ⟨rfl, rfl⟩
      · replace hM := ifn hM c_10
        refine lv_bipush (v := iI (-2)) hx hb dX11_spelling_35 (by decide) ?_
        cases hM
        exact g_iret S hr hlk hG.1 hG.2.1 dX11_spelling_37 ⟨hG.rc, hG.rs⟩ ⟨rfl, rfl⟩
  · replace hM := ifn hM c_4
    refine lv_iload hx hb dX11_spelling_13 (lv_at hl 0 rfl) ?_
    cases hM
    exact g_iret S hr hlk hG.1 hG.2.1 dX11_spelling_15 ⟨hG.rc, hG.rs⟩ ⟨rfl, rfl⟩
theorem wV_11_259 : gWV "GrownKinds" 259 yX11_spelling cX11_spelling 5 (some .int) := ⟨wm_1260, wm_1262, wm_54, wm_177, wm_1263, by decide +kernel, by decide +kernel⟩
def mX11_length (S0 : St) (a1 : Int) (a2 : Int) (a3 : Int) : Option (Int × St) := entG S0 (fun o : Int × St => o.2) (bdG2 S0 (fun o : Int × St => o.2) (mX11_spelling S0 a1 a2 a3) fun r_2 S_3 => gd (inI r_2) <| if r_2 = 0 then (some ((S_3 60 4), S_3)) else (some (r_2, S_3)))
set_option maxHeartbeats 4000000 in
set_option maxRecDepth 100000 in
theorem vX11_length (l : Launch) {D : va_G} {cy : Nat → ClassId} {b : Nat} {S0 : St} (hn : 102 ≤ nn S0 - 3) (a1 : Int) (a2 : Int) (a3 : Int) {o1 : Int} {o2 : St} (hM : mX11_length S0 a1 a2 a3 = some (o1, o2)) : gI l yX11_length cX11_length 5 (some .int) 31 (nn o2 - nn S0) (zz o2 - zz S0) D cy b (nn S0 - 3) (eG b cy S0) [.ref (b + 0), .int (iI a1), .int (iI a2), .int (iI a3)] (fun r u => r = iI o1 ∧ u = (nn o2 - 3, eG b cy o2)) := by
  refine gI_of (by decide) (Nat.le_of_ble_eq_true rfl) ?_
  intro p e s m args below meth c S hr hlk hin hsz ls hl hG
  have hx := S.1
  have hb := S.2.1
  have hl : lv_has ls 5 [(0, .ref (b + 0)), (1, .int (iI a1)), (2, .int (iI a2)), (3, .int (iI a3))] := hl
  replace hG : gW D cy b (nn S0 - 3) s s.heap [] (eG b cy S0) := hG
  obtain ⟨H, eH⟩ : ∃ H, H = s.heap := ⟨_, rfl⟩
  obtain ⟨locs, elocs⟩ : ∃ locs : List Loc, locs = [] := ⟨_, rfl⟩
  rw [← eH, ← elocs] at hG
  rw [← eH, ← elocs]
  clear eH elocs
  unfold mX11_length at hM
  obtain ⟨hge, hM⟩ := entG_some hM
  replace hG : gX D cy b s H locs S0 0 0 S0 o2 := gX.start hG hsz hn hge
  refine lv_aload_n hx hb dX11_length_0 rfl (lv_at hl 0 rfl) ?_
  refine lv_iload_n hx hb dX11_length_1 rfl (lv_at hl 1 rfl) ?_
  refine lv_iload_n hx hb dX11_length_2 rfl (lv_at hl 2 rfl) ?_
  refine lv_iload_n hx hb dX11_length_3 rfl (lv_at hl 3 rfl) ?_
  obtain ⟨r_2, S_3, hc_1, hg_4, hg_5, hM⟩ := bdG2_some hM
  have hg_6 : gle S_3 o2 := ⟨Nat.le_trans hg_5.1 gle_rfl.1, Nat.le_trans hg_5.2 gle_rfl.2⟩
  refine g_vi (As := [.int (iI a1), .int (iI a2), .int (iI a3)]) (rest := []) S hG.1 hG.2.1 (vX11_spelling l hG.2.2.2.1 a1 a2 a3 hc_1) wV_11_259 (ec_0 (b := b) (cy := cy) (X := XD b cy S0) _) cpX11 (Nat.lt_of_lt_of_le (Nat.le_of_ble_eq_true rfl) hG.2.2.2.1) dX11_length_4 rfl hl.1 (ar := 3) (by decide +kernel) rfl ⟨Nat.le_of_ble_eq_true rfl, Nat.le_of_ble_eq_true rfl, hG.gc hg_4 hg_6, hG.gs hg_4 hg_6⟩ (Nat.le_of_ble_eq_true rfl) (fun rv uu H locs hp hGc => ?_)
  obtain ⟨rfl, rfl⟩ := hp
  replace hG := hG.grow hg_4 hg_6 hGc
  clear hGc
  refine lv_istore (lv' := [(4, .int (iI r_2)), (0, .ref (b + 0)), (1, .int (iI a1)), (2, .int (iI a2)), (3, .int (iI a3))]) hx hb dX11_length_7 hl (by decide) rfl (fun ls hl => ?_)
  refine lv_iload hx hb dX11_length_9 (lv_at hl 0 rfl) ?_
  obtain ⟨hg_7, hM⟩ := gd_some hM
  refine gi_if_eq (tgt := 19) hx hb dX11_length_11 (by decide) hg_7 (fun c_8 => ?_) (fun c_8 => ?_)
  · replace hM := ifp hM c_8
    refine lv_aload_n hx hb dX11_length_19 rfl (lv_at hl 1 rfl) ?_
    refine m_get S hG.1 0 0 9 rfl ec_0 cpX11 wm_674 dX11_length_20 rfl (Nat.lt_of_lt_of_le (Nat.le_of_ble_eq_true rfl) hG.2.2.2.1) (by decide) ?_
    refine m_get S hG.1 58 60 4 rfl ec_60 cpX9 wm_501 dX11_length_23 rfl (Nat.lt_of_lt_of_le (Nat.le_of_ble_eq_true rfl) hG.2.2.2.1) (by decide) ?_
    cases hM
    exact g_iret S hr hlk hG.1 hG.2.1 dX11_length_26 ⟨hG.rc, hG.rs⟩ ⟨rfl, rfl⟩
  · replace hM := ifn hM c_8
    refine lv_iload hx hb dX11_length_14 (lv_at hl 0 rfl) ?_
    refine lv_goto (tgt := 26) hx hb dX11_length_16 (by decide) ?_
    cases hM
    exact g_iret S hr hlk hG.1 hG.2.1 dX11_length_26 ⟨hG.rc, hG.rs⟩ ⟨rfl, rfl⟩
theorem wV_11_266 : gWV "GrownKinds" 266 yX9_signAt cX9_signAt 2 (some .int) := ⟨wm_1425, wm_1426, wm_1427, wm_183, wm_1428, by decide +kernel, by decide +kernel⟩
def mX11_sign (S0 : St) (a1 : Int) (a2 : Int) (a3 : Int) (a4 : Int) : Option (Int × St) := entG S0 (fun o : Int × St => o.2) (gd (inI a4) <| if 0 ≤ a4 then (bdG2 S0 (fun o : Int × St => o.2) (mX11_spelling S0 a1 a2 a3) fun r_4 S_5 => gd (inI r_4) <| if r_4 = 0 then (bdG2 S_5 (fun o : Int × St => o.2) (mX9_signAt S_5 a4) fun r_12 S_13 => some (r_12, S_13)) else (some (r_4, S_5))) else (some ((-2), S0)))
set_option maxHeartbeats 4000000 in
set_option maxRecDepth 100000 in
theorem vX11_sign (l : Launch) {D : va_G} {cy : Nat → ClassId} {b : Nat} {S0 : St} (hn : 102 ≤ nn S0 - 3) (a1 : Int) (a2 : Int) (a3 : Int) (a4 : Int) {o1 : Int} {o2 : St} (hM : mX11_sign S0 a1 a2 a3 a4 = some (o1, o2)) : gI l yX11_sign cX11_sign 6 (some .int) 31 (nn o2 - nn S0) (zz o2 - zz S0) D cy b (nn S0 - 3) (eG b cy S0) [.ref (b + 0), .int (iI a1), .int (iI a2), .int (iI a3), .int (iI a4)] (fun r u => r = iI o1 ∧ u = (nn o2 - 3, eG b cy o2)) := by
  refine gI_of (by decide) (Nat.le_of_ble_eq_true rfl) ?_
  intro p e s m args below meth c S hr hlk hin hsz ls hl hG
  have hx := S.1
  have hb := S.2.1
  have hl : lv_has ls 6 [(0, .ref (b + 0)), (1, .int (iI a1)), (2, .int (iI a2)), (3, .int (iI a3)), (4, .int (iI a4))] := hl
  replace hG : gW D cy b (nn S0 - 3) s s.heap [] (eG b cy S0) := hG
  obtain ⟨H, eH⟩ : ∃ H, H = s.heap := ⟨_, rfl⟩
  obtain ⟨locs, elocs⟩ : ∃ locs : List Loc, locs = [] := ⟨_, rfl⟩
  rw [← eH, ← elocs] at hG
  rw [← eH, ← elocs]
  clear eH elocs
  unfold mX11_sign at hM
  obtain ⟨hge, hM⟩ := entG_some hM
  replace hG : gX D cy b s H locs S0 0 0 S0 o2 := gX.start hG hsz hn hge
  refine lv_iload hx hb dX11_sign_0 (lv_at hl 4 rfl) ?_
  obtain ⟨hg_1, hM⟩ := gd_some hM
  refine gi_if_ge (tgt := 8) hx hb dX11_sign_2 (by decide) hg_1 (fun c_2 => ?_) (fun c_2 => ?_)
  · replace hM := ifp hM c_2
    refine lv_aload_n hx hb dX11_sign_8 rfl (lv_at hl 0 rfl) ?_
    refine lv_iload_n hx hb dX11_sign_9 rfl (lv_at hl 1 rfl) ?_
    refine lv_iload_n hx hb dX11_sign_10 rfl (lv_at hl 2 rfl) ?_
    refine lv_iload_n hx hb dX11_sign_11 rfl (lv_at hl 3 rfl) ?_
    obtain ⟨r_4, S_5, hc_3, hg_6, hg_7, hM⟩ := bdG2_some hM
    have hg_8 : gle S_5 o2 := ⟨Nat.le_trans hg_7.1 gle_rfl.1, Nat.le_trans hg_7.2 gle_rfl.2⟩
    refine g_vi (As := [.int (iI a1), .int (iI a2), .int (iI a3)]) (rest := []) S hG.1 hG.2.1 (vX11_spelling l hG.2.2.2.1 a1 a2 a3 hc_3) wV_11_259 (ec_0 (b := b) (cy := cy) (X := XD b cy S0) _) cpX11 (Nat.lt_of_lt_of_le (Nat.le_of_ble_eq_true rfl) hG.2.2.2.1) dX11_sign_12 rfl hl.1 (ar := 3) (by decide +kernel) rfl ⟨Nat.le_of_ble_eq_true rfl, Nat.le_of_ble_eq_true rfl, hG.gc hg_6 hg_8, hG.gs hg_6 hg_8⟩ (Nat.le_of_ble_eq_true rfl) (fun rv uu H locs hp hGc => ?_)
    obtain ⟨rfl, rfl⟩ := hp
    replace hG := hG.grow hg_6 hg_8 hGc
    clear hGc
    refine lv_istore (lv' := [(5, .int (iI r_4)), (0, .ref (b + 0)), (1, .int (iI a1)), (2, .int (iI a2)), (3, .int (iI a3)), (4, .int (iI a4))]) hx hb dX11_sign_15 hl (by decide) rfl (fun ls hl => ?_)
    refine lv_iload hx hb dX11_sign_17 (lv_at hl 0 rfl) ?_
    obtain ⟨hg_9, hM⟩ := gd_some hM
    refine gi_if_eq (tgt := 27) hx hb dX11_sign_19 (by decide) hg_9 (fun c_10 => ?_) (fun c_10 => ?_)
    · replace hM := ifp hM c_10
      refine lv_aload_n hx hb dX11_sign_27 rfl (lv_at hl 1 rfl) ?_
      refine m_get S hG.1 0 0 9 rfl ec_0 cpX11 wm_674 dX11_sign_28 rfl (Nat.lt_of_lt_of_le (Nat.le_of_ble_eq_true rfl) hG.2.2.2.1) (by decide) ?_
      refine lv_iload hx hb dX11_sign_31 (lv_at hl 5 rfl) ?_
      obtain ⟨r_12, S_13, hc_11, hg_14, hg_15, hM⟩ := bdG2_some hM
      have hg_16 : gle S_13 o2 := ⟨Nat.le_trans hg_15.1 gle_rfl.1, Nat.le_trans hg_15.2 gle_rfl.2⟩
      refine g_vi (As := [.int (iI a4)]) (rest := []) S hG.1 hG.2.1 (vX9_signAt l hG.2.2.2.1 a4 hc_11) wV_11_266 (ec_60 (b := b) (cy := cy) (X := XD b cy S_5) _) cpX9 (Nat.lt_of_lt_of_le (Nat.le_of_ble_eq_true rfl) hG.2.2.2.1) dX11_sign_33 rfl hl.1 (ar := 1) (by decide +kernel) rfl ⟨Nat.le_of_ble_eq_true rfl, Nat.le_of_ble_eq_true rfl, hG.gc hg_14 hg_16, hG.gs hg_14 hg_16⟩ (Nat.le_of_ble_eq_true rfl) (fun rv uu H locs hp hGc => ?_)
      obtain ⟨rfl, rfl⟩ := hp
      replace hG := hG.grow hg_14 hg_16 hGc
      clear hGc
      cases hM
      exact g_iret S hr hlk hG.1 hG.2.1 dX11_sign_36 ⟨hG.rc, hG.rs⟩ ⟨rfl, rfl⟩
    · replace hM := ifn hM c_10
      refine lv_iload hx hb dX11_sign_22 (lv_at hl 0 rfl) ?_
      refine lv_goto (tgt := 36) hx hb dX11_sign_24 (by decide) ?_
      cases hM
      exact g_iret S hr hlk hG.1 hG.2.1 dX11_sign_36 ⟨hG.rc, hG.rs⟩ ⟨rfl, rfl⟩
  · replace hM := ifn hM c_2
    refine lv_bipush (v := iI (-2)) hx hb dX11_sign_5 (by decide) ?_
    cases hM
    exact g_iret S hr hlk hG.1 hG.2.1 dX11_sign_7 ⟨hG.rc, hG.rs⟩ ⟨rfl, rfl⟩
def mX11_deep (S0 : St) (a1 : Int) (a2 : Int) (a3 : Int) : Option (Int × St) := entG S0 (fun o : Int × St => o.2) (bdG2 S0 (fun o : Int × St => o.2) (mX11_spelling S0 a1 a2 a3) fun r_2 S_3 => gd (inI r_2) <| if r_2 = 0 then (some ((S_3 60 5), S_3)) else (some (r_2, S_3)))
set_option maxHeartbeats 4000000 in
set_option maxRecDepth 100000 in
theorem vX11_deep (l : Launch) {D : va_G} {cy : Nat → ClassId} {b : Nat} {S0 : St} (hn : 102 ≤ nn S0 - 3) (a1 : Int) (a2 : Int) (a3 : Int) {o1 : Int} {o2 : St} (hM : mX11_deep S0 a1 a2 a3 = some (o1, o2)) : gI l yX11_deep cX11_deep 5 (some .int) 31 (nn o2 - nn S0) (zz o2 - zz S0) D cy b (nn S0 - 3) (eG b cy S0) [.ref (b + 0), .int (iI a1), .int (iI a2), .int (iI a3)] (fun r u => r = iI o1 ∧ u = (nn o2 - 3, eG b cy o2)) := by
  refine gI_of (by decide) (Nat.le_of_ble_eq_true rfl) ?_
  intro p e s m args below meth c S hr hlk hin hsz ls hl hG
  have hx := S.1
  have hb := S.2.1
  have hl : lv_has ls 5 [(0, .ref (b + 0)), (1, .int (iI a1)), (2, .int (iI a2)), (3, .int (iI a3))] := hl
  replace hG : gW D cy b (nn S0 - 3) s s.heap [] (eG b cy S0) := hG
  obtain ⟨H, eH⟩ : ∃ H, H = s.heap := ⟨_, rfl⟩
  obtain ⟨locs, elocs⟩ : ∃ locs : List Loc, locs = [] := ⟨_, rfl⟩
  rw [← eH, ← elocs] at hG
  rw [← eH, ← elocs]
  clear eH elocs
  unfold mX11_deep at hM
  obtain ⟨hge, hM⟩ := entG_some hM
  replace hG : gX D cy b s H locs S0 0 0 S0 o2 := gX.start hG hsz hn hge
  refine lv_aload_n hx hb dX11_deep_0 rfl (lv_at hl 0 rfl) ?_
  refine lv_iload_n hx hb dX11_deep_1 rfl (lv_at hl 1 rfl) ?_
  refine lv_iload_n hx hb dX11_deep_2 rfl (lv_at hl 2 rfl) ?_
  refine lv_iload_n hx hb dX11_deep_3 rfl (lv_at hl 3 rfl) ?_
  obtain ⟨r_2, S_3, hc_1, hg_4, hg_5, hM⟩ := bdG2_some hM
  have hg_6 : gle S_3 o2 := ⟨Nat.le_trans hg_5.1 gle_rfl.1, Nat.le_trans hg_5.2 gle_rfl.2⟩
  refine g_vi (As := [.int (iI a1), .int (iI a2), .int (iI a3)]) (rest := []) S hG.1 hG.2.1 (vX11_spelling l hG.2.2.2.1 a1 a2 a3 hc_1) wV_11_259 (ec_0 (b := b) (cy := cy) (X := XD b cy S0) _) cpX11 (Nat.lt_of_lt_of_le (Nat.le_of_ble_eq_true rfl) hG.2.2.2.1) dX11_deep_4 rfl hl.1 (ar := 3) (by decide +kernel) rfl ⟨Nat.le_of_ble_eq_true rfl, Nat.le_of_ble_eq_true rfl, hG.gc hg_4 hg_6, hG.gs hg_4 hg_6⟩ (Nat.le_of_ble_eq_true rfl) (fun rv uu H locs hp hGc => ?_)
  obtain ⟨rfl, rfl⟩ := hp
  replace hG := hG.grow hg_4 hg_6 hGc
  clear hGc
  refine lv_istore (lv' := [(4, .int (iI r_2)), (0, .ref (b + 0)), (1, .int (iI a1)), (2, .int (iI a2)), (3, .int (iI a3))]) hx hb dX11_deep_7 hl (by decide) rfl (fun ls hl => ?_)
  refine lv_iload hx hb dX11_deep_9 (lv_at hl 0 rfl) ?_
  obtain ⟨hg_7, hM⟩ := gd_some hM
  refine gi_if_eq (tgt := 19) hx hb dX11_deep_11 (by decide) hg_7 (fun c_8 => ?_) (fun c_8 => ?_)
  · replace hM := ifp hM c_8
    refine lv_aload_n hx hb dX11_deep_19 rfl (lv_at hl 1 rfl) ?_
    refine m_get S hG.1 0 0 9 rfl ec_0 cpX11 wm_674 dX11_deep_20 rfl (Nat.lt_of_lt_of_le (Nat.le_of_ble_eq_true rfl) hG.2.2.2.1) (by decide) ?_
    refine m_get S hG.1 58 60 5 rfl ec_60 cpX9 wm_504 dX11_deep_23 rfl (Nat.lt_of_lt_of_le (Nat.le_of_ble_eq_true rfl) hG.2.2.2.1) (by decide) ?_
    cases hM
    exact g_iret S hr hlk hG.1 hG.2.1 dX11_deep_26 ⟨hG.rc, hG.rs⟩ ⟨rfl, rfl⟩
  · replace hM := ifn hM c_8
    refine lv_iload hx hb dX11_deep_14 (lv_at hl 0 rfl) ?_
    refine lv_goto (tgt := 26) hx hb dX11_deep_16 (by decide) ?_
    cases hM
    exact g_iret S hr hlk hG.1 hG.2.1 dX11_deep_26 ⟨hG.rc, hG.rs⟩ ⟨rfl, rfl⟩
def mX11_atoms (S0 : St) (a1 : Int) (a2 : Int) (a3 : Int) (a4 : Int) : Option (Int × St) := entG S0 (fun o : Int × St => o.2) (bd1 (mX11_lettered a4) fun r_2 => gd (inI r_2) <| if r_2 = 0 then (some ((-2), S0)) else (bdG2 S0 (fun o : Int × St => o.2) (mX11_spelling S0 a1 a2 a3) fun r_6 S_7 => gd (inI r_6) <| if r_6 = 0 then (gd (0 ≤ a4 ∧ a4 < 26) <| some ((S_7 65 a4), S_7)) else (some (r_6, S_7))))
set_option maxHeartbeats 4000000 in
set_option maxRecDepth 100000 in
theorem vX11_atoms (l : Launch) {D : va_G} {cy : Nat → ClassId} {b : Nat} {S0 : St} (hn : 102 ≤ nn S0 - 3) (a1 : Int) (a2 : Int) (a3 : Int) (a4 : Int) {o1 : Int} {o2 : St} (hM : mX11_atoms S0 a1 a2 a3 a4 = some (o1, o2)) : gI l yX11_atoms cX11_atoms 6 (some .int) 31 (nn o2 - nn S0) (zz o2 - zz S0) D cy b (nn S0 - 3) (eG b cy S0) [.ref (b + 0), .int (iI a1), .int (iI a2), .int (iI a3), .int (iI a4)] (fun r u => r = iI o1 ∧ u = (nn o2 - 3, eG b cy o2)) := by
  refine gI_of (by decide) (Nat.le_of_ble_eq_true rfl) ?_
  intro p e s m args below meth c S hr hlk hin hsz ls hl hG
  have hx := S.1
  have hb := S.2.1
  have hl : lv_has ls 6 [(0, .ref (b + 0)), (1, .int (iI a1)), (2, .int (iI a2)), (3, .int (iI a3)), (4, .int (iI a4))] := hl
  replace hG : gW D cy b (nn S0 - 3) s s.heap [] (eG b cy S0) := hG
  obtain ⟨H, eH⟩ : ∃ H, H = s.heap := ⟨_, rfl⟩
  obtain ⟨locs, elocs⟩ : ∃ locs : List Loc, locs = [] := ⟨_, rfl⟩
  rw [← eH, ← elocs] at hG
  rw [← eH, ← elocs]
  clear eH elocs
  unfold mX11_atoms at hM
  obtain ⟨hge, hM⟩ := entG_some hM
  replace hG : gX D cy b s H locs S0 0 0 S0 o2 := gX.start hG hsz hn hge
  refine lv_iload hx hb dX11_atoms_0 (lv_at hl 4 rfl) ?_
  obtain ⟨r_2, hc_1, hM⟩ := bd1_some hM
  refine g_si (As := [.int (iI a4)]) (rest := []) S hG.1 hG.2.1 (vX11_lettered l hG.2.2.2.1 a4 hc_1) wS_11_221 dX11_atoms_2 rfl hl.1 (ar := 1) (by decide +kernel) rfl ⟨Nat.le_of_ble_eq_true rfl, Nat.le_of_ble_eq_true rfl, hG.rc, hG.rs⟩ (Nat.le_of_ble_eq_true rfl) (fun rv uu H locs hp hGc => ?_)
  obtain ⟨rfl, rfl⟩ := hp
  refine wz ?_
  replace hG := hG.same hGc
  clear hGc
  obtain ⟨hg_3, hM⟩ := gd_some hM
  refine gi_if_ne (tgt := 11) hx hb dX11_atoms_5 (by decide) hg_3 (fun c_4 => ?_) (fun c_4 => ?_)
  · replace hM := ifn hM c_4
    refine lv_aload_n hx hb dX11_atoms_11 rfl (lv_at hl 0 rfl) ?_
    refine lv_iload_n hx hb dX11_atoms_12 rfl (lv_at hl 1 rfl) ?_
    refine lv_iload_n hx hb dX11_atoms_13 rfl (lv_at hl 2 rfl) ?_
    refine lv_iload_n hx hb dX11_atoms_14 rfl (lv_at hl 3 rfl) ?_
    obtain ⟨r_6, S_7, hc_5, hg_8, hg_9, hM⟩ := bdG2_some hM
    have hg_10 : gle S_7 o2 := ⟨Nat.le_trans hg_9.1 gle_rfl.1, Nat.le_trans hg_9.2 gle_rfl.2⟩
    refine g_vi (As := [.int (iI a1), .int (iI a2), .int (iI a3)]) (rest := []) S hG.1 hG.2.1 (vX11_spelling l hG.2.2.2.1 a1 a2 a3 hc_5) wV_11_259 (ec_0 (b := b) (cy := cy) (X := XD b cy S0) _) cpX11 (Nat.lt_of_lt_of_le (Nat.le_of_ble_eq_true rfl) hG.2.2.2.1) dX11_atoms_15 rfl hl.1 (ar := 3) (by decide +kernel) rfl ⟨Nat.le_of_ble_eq_true rfl, Nat.le_of_ble_eq_true rfl, hG.gc hg_8 hg_10, hG.gs hg_8 hg_10⟩ (Nat.le_of_ble_eq_true rfl) (fun rv uu H locs hp hGc => ?_)
    obtain ⟨rfl, rfl⟩ := hp
    replace hG := hG.grow hg_8 hg_10 hGc
    clear hGc
    refine lv_istore (lv' := [(5, .int (iI r_6)), (0, .ref (b + 0)), (1, .int (iI a1)), (2, .int (iI a2)), (3, .int (iI a3)), (4, .int (iI a4))]) hx hb dX11_atoms_18 hl (by decide) rfl (fun ls hl => ?_)
    refine lv_iload hx hb dX11_atoms_20 (lv_at hl 0 rfl) ?_
    obtain ⟨hg_11, hM⟩ := gd_some hM
    refine gi_if_eq (tgt := 30) hx hb dX11_atoms_22 (by decide) hg_11 (fun c_12 => ?_) (fun c_12 => ?_)
    · replace hM := ifp hM c_12
      refine lv_aload_n hx hb dX11_atoms_30 rfl (lv_at hl 1 rfl) ?_
      refine m_get S hG.1 0 0 9 rfl ec_0 cpX11 wm_674 dX11_atoms_31 rfl (Nat.lt_of_lt_of_le (Nat.le_of_ble_eq_true rfl) hG.2.2.2.1) (by decide) ?_
      refine m_get S hG.1 58 60 9 rfl ec_60 cpX9 wm_514 dX11_atoms_34 rfl (Nat.lt_of_lt_of_le (Nat.le_of_ble_eq_true rfl) hG.2.2.2.1) (by decide) ?_
      refine lv_iload hx hb dX11_atoms_37 (lv_at hl 5 rfl) ?_
      obtain ⟨hg_13, hM⟩ := gd_some hM
      refine mi_ald S hG.1 63 65 rfl ec_65 (Nat.lt_of_lt_of_le (Nat.le_of_ble_eq_true rfl) hG.2.2.2.1) dX11_atoms_39 hg_13 (by decide) ?_
      cases hM
      exact g_iret S hr hlk hG.1 hG.2.1 dX11_atoms_40 ⟨hG.rc, hG.rs⟩ ⟨rfl, rfl⟩
    · replace hM := ifn hM c_12
      refine lv_iload hx hb dX11_atoms_25 (lv_at hl 0 rfl) ?_
      refine lv_goto (tgt := 40) hx hb dX11_atoms_27 (by decide) ?_
      cases hM
      exact g_iret S hr hlk hG.1 hG.2.1 dX11_atoms_40 ⟨hG.rc, hG.rs⟩ ⟨rfl, rfl⟩
  · replace hM := ifp hM c_4
    refine lv_bipush (v := iI (-2)) hx hb dX11_atoms_8 (by decide) ?_
    cases hM
    exact g_iret S hr hlk hG.1 hG.2.1 dX11_atoms_10 ⟨hG.rc, hG.rs⟩ ⟨rfl, rfl⟩
def mX11_term (S0 : St) (a1 : Int) (a2 : Int) (a3 : Int) : Option (Int × St) := entG S0 (fun o : Int × St => o.2) (bdG2 S0 (fun o : Int × St => o.2) (mX11_spelling S0 a1 a2 a3) fun r_2 S_3 => gd (inI r_2) <| if r_2 = 0 then (some ((S_3 60 7), S_3)) else (some (r_2, S_3)))
set_option maxHeartbeats 4000000 in
set_option maxRecDepth 100000 in
theorem vX11_term (l : Launch) {D : va_G} {cy : Nat → ClassId} {b : Nat} {S0 : St} (hn : 102 ≤ nn S0 - 3) (a1 : Int) (a2 : Int) (a3 : Int) {o1 : Int} {o2 : St} (hM : mX11_term S0 a1 a2 a3 = some (o1, o2)) : gI l yX11_term cX11_term 5 (some .int) 31 (nn o2 - nn S0) (zz o2 - zz S0) D cy b (nn S0 - 3) (eG b cy S0) [.ref (b + 0), .int (iI a1), .int (iI a2), .int (iI a3)] (fun r u => r = iI o1 ∧ u = (nn o2 - 3, eG b cy o2)) := by
  refine gI_of (by decide) (Nat.le_of_ble_eq_true rfl) ?_
  intro p e s m args below meth c S hr hlk hin hsz ls hl hG
  have hx := S.1
  have hb := S.2.1
  have hl : lv_has ls 5 [(0, .ref (b + 0)), (1, .int (iI a1)), (2, .int (iI a2)), (3, .int (iI a3))] := hl
  replace hG : gW D cy b (nn S0 - 3) s s.heap [] (eG b cy S0) := hG
  obtain ⟨H, eH⟩ : ∃ H, H = s.heap := ⟨_, rfl⟩
  obtain ⟨locs, elocs⟩ : ∃ locs : List Loc, locs = [] := ⟨_, rfl⟩
  rw [← eH, ← elocs] at hG
  rw [← eH, ← elocs]
  clear eH elocs
  unfold mX11_term at hM
  obtain ⟨hge, hM⟩ := entG_some hM
  replace hG : gX D cy b s H locs S0 0 0 S0 o2 := gX.start hG hsz hn hge
  refine lv_aload_n hx hb dX11_term_0 rfl (lv_at hl 0 rfl) ?_
  refine lv_iload_n hx hb dX11_term_1 rfl (lv_at hl 1 rfl) ?_
  refine lv_iload_n hx hb dX11_term_2 rfl (lv_at hl 2 rfl) ?_
  refine lv_iload_n hx hb dX11_term_3 rfl (lv_at hl 3 rfl) ?_
  obtain ⟨r_2, S_3, hc_1, hg_4, hg_5, hM⟩ := bdG2_some hM
  have hg_6 : gle S_3 o2 := ⟨Nat.le_trans hg_5.1 gle_rfl.1, Nat.le_trans hg_5.2 gle_rfl.2⟩
  refine g_vi (As := [.int (iI a1), .int (iI a2), .int (iI a3)]) (rest := []) S hG.1 hG.2.1 (vX11_spelling l hG.2.2.2.1 a1 a2 a3 hc_1) wV_11_259 (ec_0 (b := b) (cy := cy) (X := XD b cy S0) _) cpX11 (Nat.lt_of_lt_of_le (Nat.le_of_ble_eq_true rfl) hG.2.2.2.1) dX11_term_4 rfl hl.1 (ar := 3) (by decide +kernel) rfl ⟨Nat.le_of_ble_eq_true rfl, Nat.le_of_ble_eq_true rfl, hG.gc hg_4 hg_6, hG.gs hg_4 hg_6⟩ (Nat.le_of_ble_eq_true rfl) (fun rv uu H locs hp hGc => ?_)
  obtain ⟨rfl, rfl⟩ := hp
  replace hG := hG.grow hg_4 hg_6 hGc
  clear hGc
  refine lv_istore (lv' := [(4, .int (iI r_2)), (0, .ref (b + 0)), (1, .int (iI a1)), (2, .int (iI a2)), (3, .int (iI a3))]) hx hb dX11_term_7 hl (by decide) rfl (fun ls hl => ?_)
  refine lv_iload hx hb dX11_term_9 (lv_at hl 0 rfl) ?_
  obtain ⟨hg_7, hM⟩ := gd_some hM
  refine gi_if_eq (tgt := 19) hx hb dX11_term_11 (by decide) hg_7 (fun c_8 => ?_) (fun c_8 => ?_)
  · replace hM := ifp hM c_8
    refine lv_aload_n hx hb dX11_term_19 rfl (lv_at hl 1 rfl) ?_
    refine m_get S hG.1 0 0 9 rfl ec_0 cpX11 wm_674 dX11_term_20 rfl (Nat.lt_of_lt_of_le (Nat.le_of_ble_eq_true rfl) hG.2.2.2.1) (by decide) ?_
    refine m_get S hG.1 58 60 7 rfl ec_60 cpX9 wm_509 dX11_term_23 rfl (Nat.lt_of_lt_of_le (Nat.le_of_ble_eq_true rfl) hG.2.2.2.1) (by decide) ?_
    cases hM
    exact g_iret S hr hlk hG.1 hG.2.1 dX11_term_26 ⟨hG.rc, hG.rs⟩ ⟨rfl, rfl⟩
  · replace hM := ifn hM c_8
    refine lv_iload hx hb dX11_term_14 (lv_at hl 0 rfl) ?_
    refine lv_goto (tgt := 26) hx hb dX11_term_16 (by decide) ?_
    cases hM
    exact g_iret S hr hlk hG.1 hG.2.1 dX11_term_26 ⟨hG.rc, hG.rs⟩ ⟨rfl, rfl⟩
def mX11_symmetries (S0 : St) (a1 : Int) (a2 : Int) (a3 : Int) : Option (Int × St) := entG S0 (fun o : Int × St => o.2) (bdG2 S0 (fun o : Int × St => o.2) (mX11_spelling S0 a1 a2 a3) fun r_2 S_3 => gd (inI r_2) <| if r_2 = 0 then (some ((S_3 60 6), S_3)) else (some (r_2, S_3)))
set_option maxHeartbeats 4000000 in
set_option maxRecDepth 100000 in
theorem vX11_symmetries (l : Launch) {D : va_G} {cy : Nat → ClassId} {b : Nat} {S0 : St} (hn : 102 ≤ nn S0 - 3) (a1 : Int) (a2 : Int) (a3 : Int) {o1 : Int} {o2 : St} (hM : mX11_symmetries S0 a1 a2 a3 = some (o1, o2)) : gI l yX11_symmetries cX11_symmetries 5 (some .int) 31 (nn o2 - nn S0) (zz o2 - zz S0) D cy b (nn S0 - 3) (eG b cy S0) [.ref (b + 0), .int (iI a1), .int (iI a2), .int (iI a3)] (fun r u => r = iI o1 ∧ u = (nn o2 - 3, eG b cy o2)) := by
  refine gI_of (by decide) (Nat.le_of_ble_eq_true rfl) ?_
  intro p e s m args below meth c S hr hlk hin hsz ls hl hG
  have hx := S.1
  have hb := S.2.1
  have hl : lv_has ls 5 [(0, .ref (b + 0)), (1, .int (iI a1)), (2, .int (iI a2)), (3, .int (iI a3))] := hl
  replace hG : gW D cy b (nn S0 - 3) s s.heap [] (eG b cy S0) := hG
  obtain ⟨H, eH⟩ : ∃ H, H = s.heap := ⟨_, rfl⟩
  obtain ⟨locs, elocs⟩ : ∃ locs : List Loc, locs = [] := ⟨_, rfl⟩
  rw [← eH, ← elocs] at hG
  rw [← eH, ← elocs]
  clear eH elocs
  unfold mX11_symmetries at hM
  obtain ⟨hge, hM⟩ := entG_some hM
  replace hG : gX D cy b s H locs S0 0 0 S0 o2 := gX.start hG hsz hn hge
  refine lv_aload_n hx hb dX11_symmetries_0 rfl (lv_at hl 0 rfl) ?_
  refine lv_iload_n hx hb dX11_symmetries_1 rfl (lv_at hl 1 rfl) ?_
  refine lv_iload_n hx hb dX11_symmetries_2 rfl (lv_at hl 2 rfl) ?_
  refine lv_iload_n hx hb dX11_symmetries_3 rfl (lv_at hl 3 rfl) ?_
  obtain ⟨r_2, S_3, hc_1, hg_4, hg_5, hM⟩ := bdG2_some hM
  have hg_6 : gle S_3 o2 := ⟨Nat.le_trans hg_5.1 gle_rfl.1, Nat.le_trans hg_5.2 gle_rfl.2⟩
  refine g_vi (As := [.int (iI a1), .int (iI a2), .int (iI a3)]) (rest := []) S hG.1 hG.2.1 (vX11_spelling l hG.2.2.2.1 a1 a2 a3 hc_1) wV_11_259 (ec_0 (b := b) (cy := cy) (X := XD b cy S0) _) cpX11 (Nat.lt_of_lt_of_le (Nat.le_of_ble_eq_true rfl) hG.2.2.2.1) dX11_symmetries_4 rfl hl.1 (ar := 3) (by decide +kernel) rfl ⟨Nat.le_of_ble_eq_true rfl, Nat.le_of_ble_eq_true rfl, hG.gc hg_4 hg_6, hG.gs hg_4 hg_6⟩ (Nat.le_of_ble_eq_true rfl) (fun rv uu H locs hp hGc => ?_)
  obtain ⟨rfl, rfl⟩ := hp
  replace hG := hG.grow hg_4 hg_6 hGc
  clear hGc
  refine lv_istore (lv' := [(4, .int (iI r_2)), (0, .ref (b + 0)), (1, .int (iI a1)), (2, .int (iI a2)), (3, .int (iI a3))]) hx hb dX11_symmetries_7 hl (by decide) rfl (fun ls hl => ?_)
  refine lv_iload hx hb dX11_symmetries_9 (lv_at hl 0 rfl) ?_
  obtain ⟨hg_7, hM⟩ := gd_some hM
  refine gi_if_eq (tgt := 19) hx hb dX11_symmetries_11 (by decide) hg_7 (fun c_8 => ?_) (fun c_8 => ?_)
  · replace hM := ifp hM c_8
    refine lv_aload_n hx hb dX11_symmetries_19 rfl (lv_at hl 1 rfl) ?_
    refine m_get S hG.1 0 0 9 rfl ec_0 cpX11 wm_674 dX11_symmetries_20 rfl (Nat.lt_of_lt_of_le (Nat.le_of_ble_eq_true rfl) hG.2.2.2.1) (by decide) ?_
    refine m_get S hG.1 58 60 6 rfl ec_60 cpX9 wm_507 dX11_symmetries_23 rfl (Nat.lt_of_lt_of_le (Nat.le_of_ble_eq_true rfl) hG.2.2.2.1) (by decide) ?_
    cases hM
    exact g_iret S hr hlk hG.1 hG.2.1 dX11_symmetries_26 ⟨hG.rc, hG.rs⟩ ⟨rfl, rfl⟩
  · replace hM := ifn hM c_8
    refine lv_iload hx hb dX11_symmetries_14 (lv_at hl 0 rfl) ?_
    refine lv_goto (tgt := 26) hx hb dX11_symmetries_16 (by decide) ?_
    cases hM
    exact g_iret S hr hlk hG.1 hG.2.1 dX11_symmetries_26 ⟨hG.rc, hG.rs⟩ ⟨rfl, rfl⟩
def mX11_labels (S0 : St) (a1 : Int) (a2 : Int) (a3 : Int) : Option (Int × St) := entG S0 (fun o : Int × St => o.2) (bdG2 S0 (fun o : Int × St => o.2) (mX11_spelling S0 a1 a2 a3) fun r_2 S_3 => gd (inI r_2) <| if r_2 = 0 then (gd (inI (S_3 60 6)) <| if 1 ≤ (S_3 60 6) then (gd (0 ≤ a2 ∧ a2 < 8) <| gd ((0 ≤ (sby lFACTORIAL a2) ∧ (sby lFACTORIAL a2) ≤ 2147483647) ∧ (0 < (S_3 60 6) ∧ (S_3 60 6) ≤ 2147483647)) <| some (((sby lFACTORIAL a2) / (S_3 60 6)), S_3)) else (gd (0 ≤ a2 ∧ a2 < 8) <| some ((sby lFACTORIAL a2), S_3))) else (some (r_2, S_3)))
set_option maxHeartbeats 4000000 in
set_option maxRecDepth 100000 in
theorem vX11_labels (l : Launch) {D : va_G} {cy : Nat → ClassId} {b : Nat} {S0 : St} (hn : 102 ≤ nn S0 - 3) (a1 : Int) (a2 : Int) (a3 : Int) {o1 : Int} {o2 : St} (hM : mX11_labels S0 a1 a2 a3 = some (o1, o2)) : gI l yX11_labels cX11_labels 5 (some .int) 31 (nn o2 - nn S0) (zz o2 - zz S0) D cy b (nn S0 - 3) (eG b cy S0) [.ref (b + 0), .int (iI a1), .int (iI a2), .int (iI a3)] (fun r u => r = iI o1 ∧ u = (nn o2 - 3, eG b cy o2)) := by
  refine gI_of (by decide) (Nat.le_of_ble_eq_true rfl) ?_
  intro p e s m args below meth c S hr hlk hin hsz ls hl hG
  have hx := S.1
  have hb := S.2.1
  have hl : lv_has ls 5 [(0, .ref (b + 0)), (1, .int (iI a1)), (2, .int (iI a2)), (3, .int (iI a3))] := hl
  replace hG : gW D cy b (nn S0 - 3) s s.heap [] (eG b cy S0) := hG
  obtain ⟨H, eH⟩ : ∃ H, H = s.heap := ⟨_, rfl⟩
  obtain ⟨locs, elocs⟩ : ∃ locs : List Loc, locs = [] := ⟨_, rfl⟩
  rw [← eH, ← elocs] at hG
  rw [← eH, ← elocs]
  clear eH elocs
  unfold mX11_labels at hM
  obtain ⟨hge, hM⟩ := entG_some hM
  replace hG : gX D cy b s H locs S0 0 0 S0 o2 := gX.start hG hsz hn hge
  refine lv_aload_n hx hb dX11_labels_0 rfl (lv_at hl 0 rfl) ?_
  refine lv_iload_n hx hb dX11_labels_1 rfl (lv_at hl 1 rfl) ?_
  refine lv_iload_n hx hb dX11_labels_2 rfl (lv_at hl 2 rfl) ?_
  refine lv_iload_n hx hb dX11_labels_3 rfl (lv_at hl 3 rfl) ?_
  obtain ⟨r_2, S_3, hc_1, hg_4, hg_5, hM⟩ := bdG2_some hM
  have hg_6 : gle S_3 o2 := ⟨Nat.le_trans hg_5.1 gle_rfl.1, Nat.le_trans hg_5.2 gle_rfl.2⟩
  refine g_vi (As := [.int (iI a1), .int (iI a2), .int (iI a3)]) (rest := []) S hG.1 hG.2.1 (vX11_spelling l hG.2.2.2.1 a1 a2 a3 hc_1) wV_11_259 (ec_0 (b := b) (cy := cy) (X := XD b cy S0) _) cpX11 (Nat.lt_of_lt_of_le (Nat.le_of_ble_eq_true rfl) hG.2.2.2.1) dX11_labels_4 rfl hl.1 (ar := 3) (by decide +kernel) rfl ⟨Nat.le_of_ble_eq_true rfl, Nat.le_of_ble_eq_true rfl, hG.gc hg_4 hg_6, hG.gs hg_4 hg_6⟩ (Nat.le_of_ble_eq_true rfl) (fun rv uu H locs hp hGc => ?_)
  obtain ⟨rfl, rfl⟩ := hp
  replace hG := hG.grow hg_4 hg_6 hGc
  clear hGc
  refine lv_istore (lv' := [(4, .int (iI r_2)), (0, .ref (b + 0)), (1, .int (iI a1)), (2, .int (iI a2)), (3, .int (iI a3))]) hx hb dX11_labels_7 hl (by decide) rfl (fun ls hl => ?_)
  refine lv_iload hx hb dX11_labels_9 (lv_at hl 0 rfl) ?_
  obtain ⟨hg_7, hM⟩ := gd_some hM
  refine gi_if_eq (tgt := 17) hx hb dX11_labels_11 (by decide) hg_7 (fun c_8 => ?_) (fun c_8 => ?_)
  · replace hM := ifp hM c_8
    refine lv_aload_n hx hb dX11_labels_17 rfl (lv_at hl 1 rfl) ?_
    refine m_get S hG.1 0 0 9 rfl ec_0 cpX11 wm_674 dX11_labels_18 rfl (Nat.lt_of_lt_of_le (Nat.le_of_ble_eq_true rfl) hG.2.2.2.1) (by decide) ?_
    refine m_get S hG.1 58 60 6 rfl ec_60 cpX9 wm_507 dX11_labels_21 rfl (Nat.lt_of_lt_of_le (Nat.le_of_ble_eq_true rfl) hG.2.2.2.1) (by decide) ?_
    refine lv_iconst (v := iI 1) hx hb dX11_labels_24 (by decide) ?_
    obtain ⟨hg_9, hM⟩ := gd_some hM
    refine gi_icmp_ge (tgt := 36) hx hb dX11_labels_25 (by decide) hg_9 (by decide) (fun c_10 => ?_) (fun c_10 => ?_)
    · replace hM := ifp hM c_10
      refine g_gsa S hG.1 gsa2 wm_1449 dX11_labels_36 ?_
      refine lv_iload_n hx hb dX11_labels_39 rfl (lv_at hl 3 rfl) ?_
      obtain ⟨hg_11, hM⟩ := gd_some hM
      refine g_sald S hG.1 gsa2 dX11_labels_40 hg_11 (by decide) ?_
      refine lv_aload_n hx hb dX11_labels_41 rfl (lv_at hl 1 rfl) ?_
      refine m_get S hG.1 0 0 9 rfl ec_0 cpX11 wm_674 dX11_labels_42 rfl (Nat.lt_of_lt_of_le (Nat.le_of_ble_eq_true rfl) hG.2.2.2.1) (by decide) ?_
      refine m_get S hG.1 58 60 6 rfl ec_60 cpX9 wm_507 dX11_labels_45 rfl (Nat.lt_of_lt_of_le (Nat.le_of_ble_eq_true rfl) hG.2.2.2.1) (by decide) ?_
      obtain ⟨hg_12, hM⟩ := gd_some hM
      refine gi_div hx hb dX11_labels_48 hg_12.1 hg_12.2 ?_
      cases hM
      exact g_iret S hr hlk hG.1 hG.2.1 dX11_labels_49 ⟨hG.rc, hG.rs⟩ ⟨rfl, rfl⟩
    · replace hM := ifn hM c_10
      refine g_gsa S hG.1 gsa2 wm_1449 dX11_labels_28 ?_
      refine lv_iload_n hx hb dX11_labels_31 rfl (lv_at hl 3 rfl) ?_
      obtain ⟨hg_13, hM⟩ := gd_some hM
      refine g_sald S hG.1 gsa2 dX11_labels_32 hg_13 (by decide) ?_
      refine lv_goto (tgt := 49) hx hb dX11_labels_33 (by decide) ?_
      cases hM
      exact g_iret S hr hlk hG.1 hG.2.1 dX11_labels_49 ⟨hG.rc, hG.rs⟩ ⟨rfl, rfl⟩
  · replace hM := ifn hM c_8
    refine lv_iload hx hb dX11_labels_14 (lv_at hl 0 rfl) ?_
    cases hM
    exact g_iret S hr hlk hG.1 hG.2.1 dX11_labels_16 ⟨hG.rc, hG.rs⟩ ⟨rfl, rfl⟩
theorem wV_11_304 : gWV "GrownKinds" 304 yX7_has cX7_has 2 (some .boolean) := ⟨wm_1542, wm_1543, wm_1544, wm_186, wm_1545, by decide +kernel, by decide +kernel⟩
def mX7_has (S0 : St) (a1 : Int) : Option (Int) := gd (inL (lan (lshr (S0 73 1) a1) 1)) <| if (lan (lshr (S0 73 1) a1) 1) = 0 then (some (0)) else (some (1))
set_option maxHeartbeats 4000000 in
set_option maxRecDepth 100000 in
theorem vX7_has (l : Launch) {D : va_G} {cy : Nat → ClassId} {b n : Nat} (hn : 102 ≤ n) {X : Nat → va_E} {S0 : St} (a1 : Int) {o1 : Int} (hM : mX7_has S0 a1 = some o1) : gI l yX7_has cX7_has 2 (some .boolean) 0 0 0 D cy b n (enc b cy X S0) [.ref (b + 71), .int (iI a1)] (fun r u => r = iI o1 ∧ u = (n, enc b cy X S0)) := by
  refine gI_of (by decide) (Nat.le_of_ble_eq_true rfl) ?_
  intro p e s m args below meth c S hr hlk hin hsz ls hl hG
  have hx := S.1
  have hb := S.2.1
  have hl : lv_has ls 2 [(0, .ref (b + 71)), (1, .int (iI a1))] := hl
  replace hG : gW D cy b n s s.heap [] (enc b cy X S0) := hG
  obtain ⟨H, eH⟩ : ∃ H, H = s.heap := ⟨_, rfl⟩
  obtain ⟨locs, elocs⟩ : ∃ locs : List Loc, locs = [] := ⟨_, rfl⟩
  rw [← eH, ← elocs] at hG
  rw [← eH, ← elocs]
  clear eH elocs
  unfold mX7_has at hM
  refine lv_aload_n hx hb dX7_has_0 rfl (lv_at hl 0 rfl) ?_
  refine m_get S hG 71 73 1 rfl ec_73 cpX7 wm_605 dX7_has_1 rfl (Nat.lt_of_lt_of_le (Nat.le_of_ble_eq_true rfl) hn) (by decide) ?_
  refine lv_iload_n hx hb dX7_has_4 rfl (lv_at hl 1 rfl) ?_
  refine gj_shr hx hb dX7_has_5 ?_
  refine lv_lconst (v := jJ 1) hx hb dX7_has_6 (by decide) ?_
  refine gj_and hx hb dX7_has_7 ?_
  refine lv_lconst (v := jJ 0) hx hb dX7_has_8 (by decide) ?_
  obtain ⟨hg_1, hM⟩ := gd_some hM
  refine gj_cmp_eq (tgt := 17) hx hb dX7_has_9 dX7_has_10 (by decide) hg_1 (by decide) (fun c_2 => ?_) (fun c_2 => ?_)
  · replace hM := ifp hM c_2
    refine lv_iconst (v := iI 0) hx hb dX7_has_17 (by decide) ?_
    cases hM
    exact g_zret S hr hlk hG hsz dX7_has_18 ⟨Nat.le_of_ble_eq_true rfl, Nat.le_of_ble_eq_true rfl⟩ (nar_z (by decide)) ⟨rfl, rfl⟩
  · replace hM := ifn hM c_2
    refine lv_iconst (v := iI 1) hx hb dX7_has_13 (by decide) ?_
    refine lv_goto (tgt := 18) hx hb dX7_has_14 (by decide) ?_
    cases hM
    exact g_zret S hr hlk hG hsz dX7_has_18 ⟨Nat.le_of_ble_eq_true rfl, Nat.le_of_ble_eq_true rfl⟩ (nar_z (by decide)) ⟨rfl, rfl⟩
theorem wV_11_307 : gWV "GrownKinds" 307 yX7_begin cX7_begin 2 none := ⟨wm_1546, wm_1547, wm_1548, wm_186, wm_1549, by decide +kernel, by decide +kernel⟩
theorem wV_11_310 : gWV "GrownKinds" 310 yX7_note cX7_note 3 none := ⟨wm_1557, wm_1558, wm_1559, wm_186, wm_1560, by decide +kernel, by decide +kernel⟩
def mX11_rolling_64 (x_9 : Int) (r_6 : Int) (a1 : Int) (a2 : Int) : Nat → Int → St → Option (St)
  | 0, _, _ => none
  | f + 1, v_17, S_18 => gd (inI v_17) <| if r_6 ≤ v_17 then (some (S_18)) else (bdG1 S_18 (fun o : St => o) (mX9_spell S_18 a1 a2 v_17 (S_18 0 16)) fun S_31 => bd1 (mX7_note S_31 x_9 v_17) fun S_36 => nx (msk S_36 S_31) fun S_37 => mX11_rolling_64 x_9 r_6 a1 a2 f (v_17 + 1) S_37)
def mX11_rolling (S0 : St) (a1 : Int) (a2 : Int) : Option (Int × St) := entG S0 (fun o : Int × St => o.2) (bd1 (mX11_listing S0 a1 a2) fun r_2 => gd (inI r_2) <| if r_2 = 0 then (bd1 (mX0_thingsAt_40 S0 a1 a2) fun r_6 => gd (inI r_6) <| if r_6 = 0 then (some ((-1), S0)) else (nx ((a1 * 8) + a2) fun x_9 => bd1 (mX7_has S0 x_9) fun r_11 => gd (inI r_11) <| if r_11 = 0 then (bd1 (mX7_begin S0 x_9) fun S_15 => nx (msk S_15 S0) fun S_16 => bdG1 S_16 (fun o : Int × St => o.2) (mX11_rolling_64 x_9 r_6 a1 a2 FU 0 S_16) fun S_19 => some (0, S_19)) else (some (0, S0)))) else (some (r_2, S0)))
set_option maxHeartbeats 4000000 in
set_option maxRecDepth 100000 in
theorem vX11_rolling (l : Launch) {D : va_G} {cy : Nat → ClassId} {b : Nat} {S0 : St} (hn : 102 ≤ nn S0 - 3) (a1 : Int) (a2 : Int) {o1 : Int} {o2 : St} (hM : mX11_rolling S0 a1 a2 = some (o1, o2)) : gI l yX11_rolling cX11_rolling 7 (some .int) 30 (nn o2 - nn S0) (zz o2 - zz S0) D cy b (nn S0 - 3) (eG b cy S0) [.ref (b + 0), .int (iI a1), .int (iI a2)] (fun r u => r = iI o1 ∧ u = (nn o2 - 3, eG b cy o2)) := by
  refine gI_of (by decide) (Nat.le_of_ble_eq_true rfl) ?_
  intro p e s m args below meth c S hr hlk hin hsz ls hl hG
  have hx := S.1
  have hb := S.2.1
  have hl : lv_has ls 7 [(0, .ref (b + 0)), (1, .int (iI a1)), (2, .int (iI a2))] := hl
  replace hG : gW D cy b (nn S0 - 3) s s.heap [] (eG b cy S0) := hG
  obtain ⟨H, eH⟩ : ∃ H, H = s.heap := ⟨_, rfl⟩
  obtain ⟨locs, elocs⟩ : ∃ locs : List Loc, locs = [] := ⟨_, rfl⟩
  rw [← eH, ← elocs] at hG
  rw [← eH, ← elocs]
  clear eH elocs
  unfold mX11_rolling at hM
  obtain ⟨hge, hM⟩ := entG_some hM
  replace hG : gX D cy b s H locs S0 0 0 S0 o2 := gX.start hG hsz hn hge
  refine lv_aload_n hx hb dX11_rolling_0 rfl (lv_at hl 0 rfl) ?_
  refine lv_iload_n hx hb dX11_rolling_1 rfl (lv_at hl 1 rfl) ?_
  refine lv_iload_n hx hb dX11_rolling_2 rfl (lv_at hl 2 rfl) ?_
  obtain ⟨r_2, hc_1, hM⟩ := bd1_some hM
  refine g_vi (As := [.int (iI a1), .int (iI a2)]) (rest := []) S hG.1 hG.2.1 (vX11_listing l hG.2.2.2.1 a1 a2 hc_1) wV_11_251 (ec_0 (b := b) (cy := cy) (X := XD b cy S0) _) cpX11 (Nat.lt_of_lt_of_le (Nat.le_of_ble_eq_true rfl) hG.2.2.2.1) dX11_rolling_3 rfl hl.1 (ar := 2) (by decide +kernel) rfl ⟨Nat.le_of_ble_eq_true rfl, Nat.le_of_ble_eq_true rfl, hG.rc, hG.rs⟩ (Nat.le_of_ble_eq_true rfl) (fun rv uu H locs hp hGc => ?_)
  obtain ⟨rfl, rfl⟩ := hp
  refine wz ?_
  replace hG := hG.same hGc
  clear hGc
  refine lv_istore_n (lv' := [(3, .int (iI r_2)), (0, .ref (b + 0)), (1, .int (iI a1)), (2, .int (iI a2))]) hx hb dX11_rolling_6 rfl hl (by decide) rfl (fun ls hl => ?_)
  refine lv_iload_n hx hb dX11_rolling_7 rfl (lv_at hl 0 rfl) ?_
  obtain ⟨hg_3, hM⟩ := gd_some hM
  refine gi_if_eq (tgt := 13) hx hb dX11_rolling_8 (by decide) hg_3 (fun c_4 => ?_) (fun c_4 => ?_)
  · replace hM := ifp hM c_4
    refine lv_aload_n hx hb dX11_rolling_13 rfl (lv_at hl 1 rfl) ?_
    refine m_get S hG.1 0 0 7 rfl ec_0 cpX11 wm_672 dX11_rolling_14 rfl (Nat.lt_of_lt_of_le (Nat.le_of_ble_eq_true rfl) hG.2.2.2.1) (by decide) ?_
    refine lv_iload_n hx hb dX11_rolling_17 rfl (lv_at hl 2 rfl) ?_
    refine lv_iload_n hx hb dX11_rolling_18 rfl (lv_at hl 3 rfl) ?_
    obtain ⟨r_6, hc_5, hM⟩ := bd1_some hM
    refine g_vl (As := [.int (iI a1), .int (iI a2)]) (rest := []) S hG.1 hG.2.1 (vX0_thingsAt_40 l hG.2.2.2.1 a1 a2 hc_5) wV_11_206 (ec_40 (b := b) (cy := cy) (X := XD b cy S0) _) cpX0 (Nat.lt_of_lt_of_le (Nat.le_of_ble_eq_true rfl) hG.2.2.2.1) dX11_rolling_19 rfl hl.1 (ar := 2) (by decide +kernel) rfl ⟨Nat.le_of_ble_eq_true rfl, Nat.le_of_ble_eq_true rfl, hG.rc, hG.rs⟩ (Nat.le_of_ble_eq_true rfl) (fun rv uu H locs hp hGc => ?_)
    obtain ⟨rfl, rfl⟩ := hp
    refine wz ?_
    replace hG := hG.same hGc
    clear hGc
    refine gj_l2i hx hb dX11_rolling_22 ?_
    refine lv_istore (lv' := [(4, .int (iI r_6)), (3, .int (iI r_2)), (0, .ref (b + 0)), (1, .int (iI a1)), (2, .int (iI a2))]) hx hb dX11_rolling_23 hl (by decide) rfl (fun ls hl => ?_)
    refine lv_iload hx hb dX11_rolling_25 (lv_at hl 0 rfl) ?_
    obtain ⟨hg_7, hM⟩ := gd_some hM
    refine gi_if_ne (tgt := 32) hx hb dX11_rolling_27 (by decide) hg_7 (fun c_8 => ?_) (fun c_8 => ?_)
    · replace hM := ifn hM c_8
      refine lv_iload_n hx hb dX11_rolling_32 rfl (lv_at hl 3 rfl) ?_
      refine lv_bipush (v := iI 8) hx hb dX11_rolling_33 (by decide) ?_
      refine gi_mul hx hb dX11_rolling_35 ?_
      refine lv_iload_n hx hb dX11_rolling_36 rfl (lv_at hl 4 rfl) ?_
      refine gi_add hx hb dX11_rolling_37 ?_
      refine gi_nm (fun x_9 ex_9 => ?_)
      replace hM := nx_at hM ex_9
      clear ex_9
      refine lv_istore (lv' := [(5, .int (iI x_9)), (4, .int (iI r_6)), (3, .int (iI r_2)), (0, .ref (b + 0)), (1, .int (iI a1)), (2, .int (iI a2))]) hx hb dX11_rolling_38 hl (by decide) rfl (fun ls hl => ?_)
      refine lv_aload_n hx hb dX11_rolling_40 rfl (lv_at hl 3 rfl) ?_
      refine m_get S hG.1 0 0 11 rfl ec_0 cpX11 wm_676 dX11_rolling_41 rfl (Nat.lt_of_lt_of_le (Nat.le_of_ble_eq_true rfl) hG.2.2.2.1) (by decide) ?_
      refine lv_iload hx hb dX11_rolling_44 (lv_at hl 0 rfl) ?_
      obtain ⟨r_11, hc_10, hM⟩ := bd1_some hM
      refine g_vi (As := [.int (iI x_9)]) (rest := []) S hG.1 hG.2.1 (vX7_has l hG.2.2.2.1 x_9 hc_10) wV_11_304 (ec_73 (b := b) (cy := cy) (X := XD b cy S0) _) cpX7 (Nat.lt_of_lt_of_le (Nat.le_of_ble_eq_true rfl) hG.2.2.2.1) dX11_rolling_46 rfl hl.1 (ar := 1) (by decide +kernel) rfl ⟨Nat.le_of_ble_eq_true rfl, Nat.le_of_ble_eq_true rfl, hG.rc, hG.rs⟩ (Nat.le_of_ble_eq_true rfl) (fun rv uu H locs hp hGc => ?_)
      obtain ⟨rfl, rfl⟩ := hp
      refine wz ?_
      replace hG := hG.same hGc
      clear hGc
      obtain ⟨hg_12, hM⟩ := gd_some hM
      refine gi_if_ne (tgt := 103) hx hb dX11_rolling_49 (by decide) hg_12 (fun c_13 => ?_) (fun c_13 => ?_)
      · replace hM := ifn hM c_13
        refine lv_iconst (v := iI 0) hx hb dX11_rolling_103 (by decide) ?_
        cases hM
        exact g_iret S hr hlk hG.1 hG.2.1 dX11_rolling_104 ⟨hG.rc, hG.rs⟩ ⟨rfl, rfl⟩
      · replace hM := ifp hM c_13
        refine lv_aload_n hx hb dX11_rolling_52 rfl (lv_at hl 3 rfl) ?_
        refine m_get S hG.1 0 0 11 rfl ec_0 cpX11 wm_676 dX11_rolling_53 rfl (Nat.lt_of_lt_of_le (Nat.le_of_ble_eq_true rfl) hG.2.2.2.1) (by decide) ?_
        refine lv_iload hx hb dX11_rolling_56 (lv_at hl 0 rfl) ?_
        obtain ⟨S_15, hc_14, hM⟩ := bd1_some hM
        refine g_vv (As := [.int (iI x_9)]) (rest := []) S hG.1 hG.2.1 (vX7_begin l hG.2.2.2.1 x_9 hc_14) wV_11_307 (ec_73 (b := b) (cy := cy) (X := XD b cy S0) _) cpX7 (Nat.lt_of_lt_of_le (Nat.le_of_ble_eq_true rfl) hG.2.2.2.1) dX11_rolling_58 rfl hl.1 (ar := 1) (by decide +kernel) rfl ⟨Nat.le_of_ble_eq_true rfl, Nat.le_of_ble_eq_true rfl, hG.rc, hG.rs⟩ (Nat.le_of_ble_eq_true rfl) (fun uu H locs hp hGc => ?_)
        obtain rfl := hp
        refine wz ?_
        replace hG := hG.back hGc
        clear hGc
        obtain ⟨S_16, eS_16⟩ : ∃ q, q = msk S_15 S0 := ⟨_, rfl⟩
        rw [← eS_16] at hG
        replace hM := nx_at hM eS_16
        clear eS_16
        refine lv_iconst (v := iI 0) hx hb dX11_rolling_61 (by decide) ?_
        refine lv_istore (lv' := [(6, .int (iI 0)), (5, .int (iI x_9)), (4, .int (iI r_6)), (3, .int (iI r_2)), (0, .ref (b + 0)), (1, .int (iI a1)), (2, .int (iI a2))]) hx hb dX11_rolling_62 hl (by decide) rfl (fun ls hl => ?_)
        obtain ⟨S_19, hc_20, hg_21, hg_22, hM⟩ := bdG1_some hM
        have hub_23 : gle S_19 o2 := ⟨Nat.le_trans hg_22.1 gle_rfl.1, Nat.le_trans hg_22.2 gle_rfl.2⟩
        have hK_24 : ∀ (ce sl : Nat) (H : Heap) (locs : List Loc) (ls : Array Slot), gX D cy b s H locs S_19 ce sl S0 o2 → lv_has ls 7 [] → W p l e (gRm 30 (nn o2 - nn S0) (zz o2 - zz S0)) s m args below meth c H locs ce sl (gQI D cy b s args below (nn o2 - nn S0) (zz o2 - zz S0) (fun r u => r = iI o1 ∧ u = (nn o2 - 3, eG b cy o2))) (F0 m 103 ls []) := by
          intro ce sl H locs ls hG hl
          refine lv_iconst (v := iI 0) hx hb dX11_rolling_103 (by decide) ?_
          cases hM
          exact g_iret S hr hlk hG.1 hG.2.1 dX11_rolling_104 ⟨hG.rc, hG.rs⟩ ⟨rfl, rfl⟩
        have loop_25 : ∀ (f : Nat) (v_17 : Int) (S_18 : St) (ce sl : Nat) (H : Heap) (locs : List Loc) (ls : Array Slot), mX11_rolling_64 x_9 r_6 a1 a2 f v_17 S_18 = some S_19 → gX D cy b s H locs S_18 ce sl S0 o2 → lv_has ls 7 [(6, .int (iI v_17)), (5, .int (iI x_9)), (4, .int (iI r_6)), (0, .ref (b + 0)), (1, .int (iI a1)), (2, .int (iI a2))] → W p l e (gRm 30 (nn o2 - nn S0) (zz o2 - zz S0)) s m args below meth c H locs ce sl (gQI D cy b s args below (nn o2 - nn S0) (zz o2 - zz S0) (fun r u => r = iI o1 ∧ u = (nn o2 - 3, eG b cy o2))) (F0 m 64 ls []) := by
          clear hM
          intro f
          induction f with
          | zero => intro v_17 S_18 ce sl H locs ls hM; rw [mX11_rolling_64] at hM; cases hM
          | succ f_27 ih_26 =>
            intro v_17 S_18 ce sl H locs ls hM hG hl
            rw [mX11_rolling_64] at hM
            refine lv_iload hx hb dX11_rolling_64 (lv_at hl 0 rfl) ?_
            refine lv_iload hx hb dX11_rolling_66 (lv_at hl 2 rfl) ?_
            obtain ⟨hg_28, hM⟩ := gd_some hM
            refine gi_icmp_ge (tgt := 103) hx hb dX11_rolling_68 (by decide) hg_28 hg_7 (fun c_29 => ?_) (fun c_29 => ?_)
            · replace hM := ifp hM c_29
              cases hM
              exact hK_24 _ _ H locs ls hG (lv_sub hl [] rfl)
            · replace hM := ifn hM c_29
              refine lv_aload_n hx hb dX11_rolling_71 rfl (lv_at hl 3 rfl) ?_
              refine m_get S hG.1 0 0 9 rfl ec_0 cpX11 wm_674 dX11_rolling_72 rfl (Nat.lt_of_lt_of_le (Nat.le_of_ble_eq_true rfl) hG.2.2.2.1) (by decide) ?_
              refine lv_iload_n hx hb dX11_rolling_75 rfl (lv_at hl 4 rfl) ?_
              refine lv_iload_n hx hb dX11_rolling_76 rfl (lv_at hl 5 rfl) ?_
              refine lv_iload hx hb dX11_rolling_77 (lv_at hl 0 rfl) ?_
              refine lv_aload_n hx hb dX11_rolling_79 rfl (lv_at hl 3 rfl) ?_
              refine m_get S hG.1 0 0 16 rfl ec_0 cpX11 wm_681 dX11_rolling_80 rfl (Nat.lt_of_lt_of_le (Nat.le_of_ble_eq_true rfl) hG.2.2.2.1) (by decide) ?_
              obtain ⟨S_31, hc_30, hg_32, hg_33, hM⟩ := bdG1_some hM
              have hg_34 : gle S_31 o2 := ⟨Nat.le_trans hg_33.1 hub_23.1, Nat.le_trans hg_33.2 hub_23.2⟩
              refine g_vv (As := [.int (iI a1), .int (iI a2), .int (iI v_17), .int (iI (S_18 0 16))]) (rest := []) S hG.1 hG.2.1 (vX9_spell l hG.2.2.2.1 a1 a2 v_17 (S_18 0 16) hc_30) wV_11_255 (ec_60 (b := b) (cy := cy) (X := XD b cy S_18) _) cpX9 (Nat.lt_of_lt_of_le (Nat.le_of_ble_eq_true rfl) hG.2.2.2.1) dX11_rolling_83 rfl hl.1 (ar := 4) (by decide +kernel) rfl ⟨Nat.le_of_ble_eq_true rfl, Nat.le_of_ble_eq_true rfl, hG.gc hg_32 hg_34, hG.gs hg_32 hg_34⟩ (Nat.le_of_ble_eq_true rfl) (fun uu H locs hp hGc => ?_)
              obtain rfl := hp
              replace hG := hG.grow hg_32 hg_34 hGc
              clear hGc
              refine lv_aload_n hx hb dX11_rolling_86 rfl (lv_at hl 3 rfl) ?_
              refine m_get S hG.1 0 0 11 rfl ec_0 cpX11 wm_676 dX11_rolling_87 rfl (Nat.lt_of_lt_of_le (Nat.le_of_ble_eq_true rfl) hG.2.2.2.1) (by decide) ?_
              refine lv_iload hx hb dX11_rolling_90 (lv_at hl 1 rfl) ?_
              refine lv_iload hx hb dX11_rolling_92 (lv_at hl 0 rfl) ?_
              obtain ⟨S_36, hc_35, hM⟩ := bd1_some hM
              refine g_vv (As := [.int (iI x_9), .int (iI v_17)]) (rest := []) S hG.1 hG.2.1 (vX7_note l hG.2.2.2.1 x_9 v_17 hc_35) wV_11_310 (ec_73 (b := b) (cy := cy) (X := XD b cy S_31) _) cpX7 (Nat.lt_of_lt_of_le (Nat.le_of_ble_eq_true rfl) hG.2.2.2.1) dX11_rolling_94 rfl hl.1 (ar := 2) (by decide +kernel) rfl ⟨Nat.le_of_ble_eq_true rfl, Nat.le_of_ble_eq_true rfl, hG.rc, hG.rs⟩ (Nat.le_of_ble_eq_true rfl) (fun uu H locs hp hGc => ?_)
              obtain rfl := hp
              refine wz ?_
              replace hG := hG.back hGc
              clear hGc
              obtain ⟨S_37, eS_37⟩ : ∃ q, q = msk S_36 S_31 := ⟨_, rfl⟩
              rw [← eS_37] at hG
              replace hM := nx_at hM eS_37
              clear eS_37
              refine lv_iinc (v := iI (v_17 + 1)) (lv' := [(6, .int (iI (v_17 + 1))), (5, .int (iI x_9)), (4, .int (iI r_6)), (0, .ref (b + 0)), (1, .int (iI a1)), (2, .int (iI a2))]) hx hb dX11_rolling_97 hl (k := 0) rfl ((iI_add v_17 (1)).trans (congrArg iI (by omega))) (by decide) rfl (fun ls hl => ?_)
              refine lv_goto (tgt := 64) hx hb dX11_rolling_100 (by decide) ?_
              exact ih_26 (v_17 + 1) S_37 _ _ H locs ls hM hG (lv_sub hl [0, 1, 2, 3, 4, 5] rfl)
        exact loop_25 FU 0 S_16 _ _ H locs ls hc_20 hG (lv_sub hl [0, 1, 2, 4, 5, 6] rfl)
    · replace hM := ifp hM c_8
      refine lv_iconst (v := iI (-1)) hx hb dX11_rolling_30 (by decide) ?_
      cases hM
      exact g_iret S hr hlk hG.1 hG.2.1 dX11_rolling_31 ⟨hG.rc, hG.rs⟩ ⟨rfl, rfl⟩
  · replace hM := ifn hM c_4
    refine lv_iload_n hx hb dX11_rolling_11 rfl (lv_at hl 0 rfl) ?_
    cases hM
    exact g_iret S hr hlk hG.1 hG.2.1 dX11_rolling_12 ⟨hG.rc, hG.rs⟩ ⟨rfl, rfl⟩
theorem wV_11_314 : gWV "GrownKinds" 314 yX11_rolling cX11_rolling 7 (some .int) := ⟨wm_1538, wm_1540, wm_83, wm_177, wm_1541, by decide +kernel, by decide +kernel⟩
def mX11_deepest (S0 : St) (a1 : Int) (a2 : Int) : Option (Int × St) := entG S0 (fun o : Int × St => o.2) (bdG2 S0 (fun o : Int × St => o.2) (mX11_rolling S0 a1 a2) fun r_2 S_3 => gd (inI r_2) <| if r_2 = 0 then (gd (0 ≤ ((a1 * 8) + a2) ∧ ((a1 * 8) + a2) < 48) <| some ((S_3 75 ((a1 * 8) + a2)), S_3)) else (some (r_2, S_3)))
set_option maxHeartbeats 4000000 in
set_option maxRecDepth 100000 in
theorem vX11_deepest (l : Launch) {D : va_G} {cy : Nat → ClassId} {b : Nat} {S0 : St} (hn : 102 ≤ nn S0 - 3) (a1 : Int) (a2 : Int) {o1 : Int} {o2 : St} (hM : mX11_deepest S0 a1 a2 = some (o1, o2)) : gI l yX11_deepest cX11_deepest 4 (some .int) 31 (nn o2 - nn S0) (zz o2 - zz S0) D cy b (nn S0 - 3) (eG b cy S0) [.ref (b + 0), .int (iI a1), .int (iI a2)] (fun r u => r = iI o1 ∧ u = (nn o2 - 3, eG b cy o2)) := by
  refine gI_of (by decide) (Nat.le_of_ble_eq_true rfl) ?_
  intro p e s m args below meth c S hr hlk hin hsz ls hl hG
  have hx := S.1
  have hb := S.2.1
  have hl : lv_has ls 4 [(0, .ref (b + 0)), (1, .int (iI a1)), (2, .int (iI a2))] := hl
  replace hG : gW D cy b (nn S0 - 3) s s.heap [] (eG b cy S0) := hG
  obtain ⟨H, eH⟩ : ∃ H, H = s.heap := ⟨_, rfl⟩
  obtain ⟨locs, elocs⟩ : ∃ locs : List Loc, locs = [] := ⟨_, rfl⟩
  rw [← eH, ← elocs] at hG
  rw [← eH, ← elocs]
  clear eH elocs
  unfold mX11_deepest at hM
  obtain ⟨hge, hM⟩ := entG_some hM
  replace hG : gX D cy b s H locs S0 0 0 S0 o2 := gX.start hG hsz hn hge
  refine lv_aload_n hx hb dX11_deepest_0 rfl (lv_at hl 0 rfl) ?_
  refine lv_iload_n hx hb dX11_deepest_1 rfl (lv_at hl 1 rfl) ?_
  refine lv_iload_n hx hb dX11_deepest_2 rfl (lv_at hl 2 rfl) ?_
  obtain ⟨r_2, S_3, hc_1, hg_4, hg_5, hM⟩ := bdG2_some hM
  have hg_6 : gle S_3 o2 := ⟨Nat.le_trans hg_5.1 gle_rfl.1, Nat.le_trans hg_5.2 gle_rfl.2⟩
  refine g_vi (As := [.int (iI a1), .int (iI a2)]) (rest := []) S hG.1 hG.2.1 (vX11_rolling l hG.2.2.2.1 a1 a2 hc_1) wV_11_314 (ec_0 (b := b) (cy := cy) (X := XD b cy S0) _) cpX11 (Nat.lt_of_lt_of_le (Nat.le_of_ble_eq_true rfl) hG.2.2.2.1) dX11_deepest_3 rfl hl.1 (ar := 2) (by decide +kernel) rfl ⟨Nat.le_of_ble_eq_true rfl, Nat.le_of_ble_eq_true rfl, hG.gc hg_4 hg_6, hG.gs hg_4 hg_6⟩ (Nat.le_of_ble_eq_true rfl) (fun rv uu H locs hp hGc => ?_)
  obtain ⟨rfl, rfl⟩ := hp
  replace hG := hG.grow hg_4 hg_6 hGc
  clear hGc
  refine lv_istore_n (lv' := [(3, .int (iI r_2)), (0, .ref (b + 0)), (1, .int (iI a1)), (2, .int (iI a2))]) hx hb dX11_deepest_6 rfl hl (by decide) rfl (fun ls hl => ?_)
  refine lv_iload_n hx hb dX11_deepest_7 rfl (lv_at hl 0 rfl) ?_
  obtain ⟨hg_7, hM⟩ := gd_some hM
  refine gi_if_eq (tgt := 15) hx hb dX11_deepest_8 (by decide) hg_7 (fun c_8 => ?_) (fun c_8 => ?_)
  · replace hM := ifp hM c_8
    refine lv_aload_n hx hb dX11_deepest_15 rfl (lv_at hl 1 rfl) ?_
    refine m_get S hG.1 0 0 11 rfl ec_0 cpX11 wm_676 dX11_deepest_16 rfl (Nat.lt_of_lt_of_le (Nat.le_of_ble_eq_true rfl) hG.2.2.2.1) (by decide) ?_
    refine m_get S hG.1 71 73 2 rfl ec_73 cpX7 wm_607 dX11_deepest_19 rfl (Nat.lt_of_lt_of_le (Nat.le_of_ble_eq_true rfl) hG.2.2.2.1) (by decide) ?_
    refine lv_iload_n hx hb dX11_deepest_22 rfl (lv_at hl 2 rfl) ?_
    refine lv_bipush (v := iI 8) hx hb dX11_deepest_23 (by decide) ?_
    refine gi_mul hx hb dX11_deepest_25 ?_
    refine lv_iload_n hx hb dX11_deepest_26 rfl (lv_at hl 3 rfl) ?_
    refine gi_add hx hb dX11_deepest_27 ?_
    obtain ⟨hg_9, hM⟩ := gd_some hM
    refine mi_ald S hG.1 72 75 rfl ec_75 (Nat.lt_of_lt_of_le (Nat.le_of_ble_eq_true rfl) hG.2.2.2.1) dX11_deepest_28 hg_9 (by decide) ?_
    cases hM
    exact g_iret S hr hlk hG.1 hG.2.1 dX11_deepest_29 ⟨hG.rc, hG.rs⟩ ⟨rfl, rfl⟩
  · replace hM := ifn hM c_8
    refine lv_iload_n hx hb dX11_deepest_11 rfl (lv_at hl 0 rfl) ?_
    refine lv_goto (tgt := 29) hx hb dX11_deepest_12 (by decide) ?_
    cases hM
    exact g_iret S hr hlk hG.1 hG.2.1 dX11_deepest_29 ⟨hG.rc, hG.rs⟩ ⟨rfl, rfl⟩
def mX11_fullest (S0 : St) (a1 : Int) (a2 : Int) (a3 : Int) : Option (Int × St) := entG S0 (fun o : Int × St => o.2) (bd1 (mX11_lettered a3) fun r_2 => gd (inI r_2) <| if r_2 = 0 then (some ((-2), S0)) else (bdG2 S0 (fun o : Int × St => o.2) (mX11_rolling S0 a1 a2) fun r_6 S_7 => gd (inI r_6) <| if r_6 = 0 then (gd (0 ≤ ((((a1 * 8) + a2) * 26) + a3) ∧ ((((a1 * 8) + a2) * 26) + a3) < 1248) <| some ((S_7 77 ((((a1 * 8) + a2) * 26) + a3)), S_7)) else (some (r_6, S_7))))
set_option maxHeartbeats 4000000 in
set_option maxRecDepth 100000 in
theorem vX11_fullest (l : Launch) {D : va_G} {cy : Nat → ClassId} {b : Nat} {S0 : St} (hn : 102 ≤ nn S0 - 3) (a1 : Int) (a2 : Int) (a3 : Int) {o1 : Int} {o2 : St} (hM : mX11_fullest S0 a1 a2 a3 = some (o1, o2)) : gI l yX11_fullest cX11_fullest 5 (some .int) 31 (nn o2 - nn S0) (zz o2 - zz S0) D cy b (nn S0 - 3) (eG b cy S0) [.ref (b + 0), .int (iI a1), .int (iI a2), .int (iI a3)] (fun r u => r = iI o1 ∧ u = (nn o2 - 3, eG b cy o2)) := by
  refine gI_of (by decide) (Nat.le_of_ble_eq_true rfl) ?_
  intro p e s m args below meth c S hr hlk hin hsz ls hl hG
  have hx := S.1
  have hb := S.2.1
  have hl : lv_has ls 5 [(0, .ref (b + 0)), (1, .int (iI a1)), (2, .int (iI a2)), (3, .int (iI a3))] := hl
  replace hG : gW D cy b (nn S0 - 3) s s.heap [] (eG b cy S0) := hG
  obtain ⟨H, eH⟩ : ∃ H, H = s.heap := ⟨_, rfl⟩
  obtain ⟨locs, elocs⟩ : ∃ locs : List Loc, locs = [] := ⟨_, rfl⟩
  rw [← eH, ← elocs] at hG
  rw [← eH, ← elocs]
  clear eH elocs
  unfold mX11_fullest at hM
  obtain ⟨hge, hM⟩ := entG_some hM
  replace hG : gX D cy b s H locs S0 0 0 S0 o2 := gX.start hG hsz hn hge
  refine lv_iload_n hx hb dX11_fullest_0 rfl (lv_at hl 3 rfl) ?_
  obtain ⟨r_2, hc_1, hM⟩ := bd1_some hM
  refine g_si (As := [.int (iI a3)]) (rest := []) S hG.1 hG.2.1 (vX11_lettered l hG.2.2.2.1 a3 hc_1) wS_11_221 dX11_fullest_1 rfl hl.1 (ar := 1) (by decide +kernel) rfl ⟨Nat.le_of_ble_eq_true rfl, Nat.le_of_ble_eq_true rfl, hG.rc, hG.rs⟩ (Nat.le_of_ble_eq_true rfl) (fun rv uu H locs hp hGc => ?_)
  obtain ⟨rfl, rfl⟩ := hp
  refine wz ?_
  replace hG := hG.same hGc
  clear hGc
  obtain ⟨hg_3, hM⟩ := gd_some hM
  refine gi_if_ne (tgt := 10) hx hb dX11_fullest_4 (by decide) hg_3 (fun c_4 => ?_) (fun c_4 => ?_)
  · replace hM := ifn hM c_4
    refine lv_aload_n hx hb dX11_fullest_10 rfl (lv_at hl 0 rfl) ?_
    refine lv_iload_n hx hb dX11_fullest_11 rfl (lv_at hl 1 rfl) ?_
    refine lv_iload_n hx hb dX11_fullest_12 rfl (lv_at hl 2 rfl) ?_
    obtain ⟨r_6, S_7, hc_5, hg_8, hg_9, hM⟩ := bdG2_some hM
    have hg_10 : gle S_7 o2 := ⟨Nat.le_trans hg_9.1 gle_rfl.1, Nat.le_trans hg_9.2 gle_rfl.2⟩
    refine g_vi (As := [.int (iI a1), .int (iI a2)]) (rest := []) S hG.1 hG.2.1 (vX11_rolling l hG.2.2.2.1 a1 a2 hc_5) wV_11_314 (ec_0 (b := b) (cy := cy) (X := XD b cy S0) _) cpX11 (Nat.lt_of_lt_of_le (Nat.le_of_ble_eq_true rfl) hG.2.2.2.1) dX11_fullest_13 rfl hl.1 (ar := 2) (by decide +kernel) rfl ⟨Nat.le_of_ble_eq_true rfl, Nat.le_of_ble_eq_true rfl, hG.gc hg_8 hg_10, hG.gs hg_8 hg_10⟩ (Nat.le_of_ble_eq_true rfl) (fun rv uu H locs hp hGc => ?_)
    obtain ⟨rfl, rfl⟩ := hp
    replace hG := hG.grow hg_8 hg_10 hGc
    clear hGc
    refine lv_istore (lv' := [(4, .int (iI r_6)), (0, .ref (b + 0)), (1, .int (iI a1)), (2, .int (iI a2)), (3, .int (iI a3))]) hx hb dX11_fullest_16 hl (by decide) rfl (fun ls hl => ?_)
    refine lv_iload hx hb dX11_fullest_18 (lv_at hl 0 rfl) ?_
    obtain ⟨hg_11, hM⟩ := gd_some hM
    refine gi_if_eq (tgt := 28) hx hb dX11_fullest_20 (by decide) hg_11 (fun c_12 => ?_) (fun c_12 => ?_)
    · replace hM := ifp hM c_12
      refine lv_aload_n hx hb dX11_fullest_28 rfl (lv_at hl 1 rfl) ?_
      refine m_get S hG.1 0 0 11 rfl ec_0 cpX11 wm_676 dX11_fullest_29 rfl (Nat.lt_of_lt_of_le (Nat.le_of_ble_eq_true rfl) hG.2.2.2.1) (by decide) ?_
      refine m_get S hG.1 71 73 4 rfl ec_73 cpX7 wm_611 dX11_fullest_32 rfl (Nat.lt_of_lt_of_le (Nat.le_of_ble_eq_true rfl) hG.2.2.2.1) (by decide) ?_
      refine lv_iload_n hx hb dX11_fullest_35 rfl (lv_at hl 2 rfl) ?_
      refine lv_bipush (v := iI 8) hx hb dX11_fullest_36 (by decide) ?_
      refine gi_mul hx hb dX11_fullest_38 ?_
      refine lv_iload_n hx hb dX11_fullest_39 rfl (lv_at hl 3 rfl) ?_
      refine gi_add hx hb dX11_fullest_40 ?_
      refine lv_bipush (v := iI 26) hx hb dX11_fullest_41 (by decide) ?_
      refine gi_mul hx hb dX11_fullest_43 ?_
      refine lv_iload_n hx hb dX11_fullest_44 rfl (lv_at hl 4 rfl) ?_
      refine gi_add hx hb dX11_fullest_45 ?_
      obtain ⟨hg_13, hM⟩ := gd_some hM
      refine mi_ald S hG.1 74 77 rfl ec_77 (Nat.lt_of_lt_of_le (Nat.le_of_ble_eq_true rfl) hG.2.2.2.1) dX11_fullest_46 hg_13 (by decide) ?_
      cases hM
      exact g_iret S hr hlk hG.1 hG.2.1 dX11_fullest_47 ⟨hG.rc, hG.rs⟩ ⟨rfl, rfl⟩
    · replace hM := ifn hM c_12
      refine lv_iload hx hb dX11_fullest_23 (lv_at hl 0 rfl) ?_
      refine lv_goto (tgt := 47) hx hb dX11_fullest_25 (by decide) ?_
      cases hM
      exact g_iret S hr hlk hG.1 hG.2.1 dX11_fullest_47 ⟨hG.rc, hG.rs⟩ ⟨rfl, rfl⟩
  · replace hM := ifp hM c_4
    refine lv_bipush (v := iI (-2)) hx hb dX11_fullest_7 (by decide) ?_
    cases hM
    exact g_iret S hr hlk hG.1 hG.2.1 dX11_fullest_9 ⟨hG.rc, hG.rs⟩ ⟨rfl, rfl⟩
def mX11_stiffest (S0 : St) (a1 : Int) (a2 : Int) : Option (Int × St) := entG S0 (fun o : Int × St => o.2) (bdG2 S0 (fun o : Int × St => o.2) (mX11_rolling S0 a1 a2) fun r_2 S_3 => gd (inI r_2) <| if r_2 = 0 then (gd (0 ≤ ((a1 * 8) + a2) ∧ ((a1 * 8) + a2) < 48) <| some ((S_3 76 ((a1 * 8) + a2)), S_3)) else (some (r_2, S_3)))
set_option maxHeartbeats 4000000 in
set_option maxRecDepth 100000 in
theorem vX11_stiffest (l : Launch) {D : va_G} {cy : Nat → ClassId} {b : Nat} {S0 : St} (hn : 102 ≤ nn S0 - 3) (a1 : Int) (a2 : Int) {o1 : Int} {o2 : St} (hM : mX11_stiffest S0 a1 a2 = some (o1, o2)) : gI l yX11_stiffest cX11_stiffest 4 (some .int) 31 (nn o2 - nn S0) (zz o2 - zz S0) D cy b (nn S0 - 3) (eG b cy S0) [.ref (b + 0), .int (iI a1), .int (iI a2)] (fun r u => r = iI o1 ∧ u = (nn o2 - 3, eG b cy o2)) := by
  refine gI_of (by decide) (Nat.le_of_ble_eq_true rfl) ?_
  intro p e s m args below meth c S hr hlk hin hsz ls hl hG
  have hx := S.1
  have hb := S.2.1
  have hl : lv_has ls 4 [(0, .ref (b + 0)), (1, .int (iI a1)), (2, .int (iI a2))] := hl
  replace hG : gW D cy b (nn S0 - 3) s s.heap [] (eG b cy S0) := hG
  obtain ⟨H, eH⟩ : ∃ H, H = s.heap := ⟨_, rfl⟩
  obtain ⟨locs, elocs⟩ : ∃ locs : List Loc, locs = [] := ⟨_, rfl⟩
  rw [← eH, ← elocs] at hG
  rw [← eH, ← elocs]
  clear eH elocs
  unfold mX11_stiffest at hM
  obtain ⟨hge, hM⟩ := entG_some hM
  replace hG : gX D cy b s H locs S0 0 0 S0 o2 := gX.start hG hsz hn hge
  refine lv_aload_n hx hb dX11_stiffest_0 rfl (lv_at hl 0 rfl) ?_
  refine lv_iload_n hx hb dX11_stiffest_1 rfl (lv_at hl 1 rfl) ?_
  refine lv_iload_n hx hb dX11_stiffest_2 rfl (lv_at hl 2 rfl) ?_
  obtain ⟨r_2, S_3, hc_1, hg_4, hg_5, hM⟩ := bdG2_some hM
  have hg_6 : gle S_3 o2 := ⟨Nat.le_trans hg_5.1 gle_rfl.1, Nat.le_trans hg_5.2 gle_rfl.2⟩
  refine g_vi (As := [.int (iI a1), .int (iI a2)]) (rest := []) S hG.1 hG.2.1 (vX11_rolling l hG.2.2.2.1 a1 a2 hc_1) wV_11_314 (ec_0 (b := b) (cy := cy) (X := XD b cy S0) _) cpX11 (Nat.lt_of_lt_of_le (Nat.le_of_ble_eq_true rfl) hG.2.2.2.1) dX11_stiffest_3 rfl hl.1 (ar := 2) (by decide +kernel) rfl ⟨Nat.le_of_ble_eq_true rfl, Nat.le_of_ble_eq_true rfl, hG.gc hg_4 hg_6, hG.gs hg_4 hg_6⟩ (Nat.le_of_ble_eq_true rfl) (fun rv uu H locs hp hGc => ?_)
  obtain ⟨rfl, rfl⟩ := hp
  replace hG := hG.grow hg_4 hg_6 hGc
  clear hGc
  refine lv_istore_n (lv' := [(3, .int (iI r_2)), (0, .ref (b + 0)), (1, .int (iI a1)), (2, .int (iI a2))]) hx hb dX11_stiffest_6 rfl hl (by decide) rfl (fun ls hl => ?_)
  refine lv_iload_n hx hb dX11_stiffest_7 rfl (lv_at hl 0 rfl) ?_
  obtain ⟨hg_7, hM⟩ := gd_some hM
  refine gi_if_eq (tgt := 15) hx hb dX11_stiffest_8 (by decide) hg_7 (fun c_8 => ?_) (fun c_8 => ?_)
  · replace hM := ifp hM c_8
    refine lv_aload_n hx hb dX11_stiffest_15 rfl (lv_at hl 1 rfl) ?_
    refine m_get S hG.1 0 0 11 rfl ec_0 cpX11 wm_676 dX11_stiffest_16 rfl (Nat.lt_of_lt_of_le (Nat.le_of_ble_eq_true rfl) hG.2.2.2.1) (by decide) ?_
    refine m_get S hG.1 71 73 3 rfl ec_73 cpX7 wm_609 dX11_stiffest_19 rfl (Nat.lt_of_lt_of_le (Nat.le_of_ble_eq_true rfl) hG.2.2.2.1) (by decide) ?_
    refine lv_iload_n hx hb dX11_stiffest_22 rfl (lv_at hl 2 rfl) ?_
    refine lv_bipush (v := iI 8) hx hb dX11_stiffest_23 (by decide) ?_
    refine gi_mul hx hb dX11_stiffest_25 ?_
    refine lv_iload_n hx hb dX11_stiffest_26 rfl (lv_at hl 3 rfl) ?_
    refine gi_add hx hb dX11_stiffest_27 ?_
    obtain ⟨hg_9, hM⟩ := gd_some hM
    refine mi_ald S hG.1 73 76 rfl ec_76 (Nat.lt_of_lt_of_le (Nat.le_of_ble_eq_true rfl) hG.2.2.2.1) dX11_stiffest_28 hg_9 (by decide) ?_
    cases hM
    exact g_iret S hr hlk hG.1 hG.2.1 dX11_stiffest_29 ⟨hG.rc, hG.rs⟩ ⟨rfl, rfl⟩
  · replace hM := ifn hM c_8
    refine lv_iload_n hx hb dX11_stiffest_11 rfl (lv_at hl 0 rfl) ?_
    refine lv_goto (tgt := 29) hx hb dX11_stiffest_12 (by decide) ?_
    cases hM
    exact g_iret S hr hlk hG.1 hG.2.1 dX11_stiffest_29 ⟨hG.rc, hG.rs⟩ ⟨rfl, rfl⟩
def mX11_mean (S0 : St) (a1 : Int) (a2 : Int) (a3 : Int) (a4 : Int) : Option (Int × St) := entG S0 (fun o : Int × St => o.2) (bd1 (mX11_lettered a3) fun r_2 => gd (inI r_2) <| if r_2 = 0 then (some ((-2), S0)) else (gd (inI a4) <| if a4 < 0 then (some ((-2), S0)) else (if a4 ≤ 1 then (bdG2 S0 (fun o : Int × St => o.2) (mX11_rolling S0 a1 a2) fun r_9 S_10 => gd (inI r_9) <| if r_9 = 0 then (gd (0 ≤ ((((a1 * 8) + a2) * 26) + a3) ∧ ((((a1 * 8) + a2) * 26) + a3) < 1248) <| bd1 (mX0_thingsAt_40 S_10 a1 a2) fun r_18 => bd1 (mX11_lowest (S_10 78 ((((a1 * 8) + a2) * 26) + a3)) r_18 a4) fun r_20 => some (r_20, S_10)) else (some (r_9, S_10))) else (some ((-2), S0)))))
set_option maxHeartbeats 4000000 in
set_option maxRecDepth 100000 in
theorem vX11_mean (l : Launch) {D : va_G} {cy : Nat → ClassId} {b : Nat} {S0 : St} (hn : 102 ≤ nn S0 - 3) (a1 : Int) (a2 : Int) (a3 : Int) (a4 : Int) {o1 : Int} {o2 : St} (hM : mX11_mean S0 a1 a2 a3 a4 = some (o1, o2)) : gI l yX11_mean cX11_mean 6 (some .int) 31 (nn o2 - nn S0) (zz o2 - zz S0) D cy b (nn S0 - 3) (eG b cy S0) [.ref (b + 0), .int (iI a1), .int (iI a2), .int (iI a3), .int (iI a4)] (fun r u => r = iI o1 ∧ u = (nn o2 - 3, eG b cy o2)) := by
  refine gI_of (by decide) (Nat.le_of_ble_eq_true rfl) ?_
  intro p e s m args below meth c S hr hlk hin hsz ls hl hG
  have hx := S.1
  have hb := S.2.1
  have hl : lv_has ls 6 [(0, .ref (b + 0)), (1, .int (iI a1)), (2, .int (iI a2)), (3, .int (iI a3)), (4, .int (iI a4))] := hl
  replace hG : gW D cy b (nn S0 - 3) s s.heap [] (eG b cy S0) := hG
  obtain ⟨H, eH⟩ : ∃ H, H = s.heap := ⟨_, rfl⟩
  obtain ⟨locs, elocs⟩ : ∃ locs : List Loc, locs = [] := ⟨_, rfl⟩
  rw [← eH, ← elocs] at hG
  rw [← eH, ← elocs]
  clear eH elocs
  unfold mX11_mean at hM
  obtain ⟨hge, hM⟩ := entG_some hM
  replace hG : gX D cy b s H locs S0 0 0 S0 o2 := gX.start hG hsz hn hge
  refine lv_iload_n hx hb dX11_mean_0 rfl (lv_at hl 3 rfl) ?_
  obtain ⟨r_2, hc_1, hM⟩ := bd1_some hM
  refine g_si (As := [.int (iI a3)]) (rest := []) S hG.1 hG.2.1 (vX11_lettered l hG.2.2.2.1 a3 hc_1) wS_11_221 dX11_mean_1 rfl hl.1 (ar := 1) (by decide +kernel) rfl ⟨Nat.le_of_ble_eq_true rfl, Nat.le_of_ble_eq_true rfl, hG.rc, hG.rs⟩ (Nat.le_of_ble_eq_true rfl) (fun rv uu H locs hp hGc => ?_)
  obtain ⟨rfl, rfl⟩ := hp
  refine wz ?_
  replace hG := hG.same hGc
  clear hGc
  obtain ⟨hg_3, hM⟩ := gd_some hM
  refine gi_if_eq (tgt := 18) hx hb dX11_mean_4 (by decide) hg_3 (fun c_4 => ?_) (fun c_4 => ?_)
  · replace hM := ifp hM c_4
    refine lv_bipush (v := iI (-2)) hx hb dX11_mean_18 (by decide) ?_
    cases hM
    exact g_iret S hr hlk hG.1 hG.2.1 dX11_mean_20 ⟨hG.rc, hG.rs⟩ ⟨rfl, rfl⟩
  · replace hM := ifn hM c_4
    refine lv_iload hx hb dX11_mean_7 (lv_at hl 4 rfl) ?_
    obtain ⟨hg_5, hM⟩ := gd_some hM
    refine gi_if_lt (tgt := 18) hx hb dX11_mean_9 (by decide) hg_5 (fun c_6 => ?_) (fun c_6 => ?_)
    · replace hM := ifp hM c_6
      refine lv_bipush (v := iI (-2)) hx hb dX11_mean_18 (by decide) ?_
      cases hM
      exact g_iret S hr hlk hG.1 hG.2.1 dX11_mean_20 ⟨hG.rc, hG.rs⟩ ⟨rfl, rfl⟩
    · replace hM := ifn hM c_6
      refine lv_iload hx hb dX11_mean_12 (lv_at hl 4 rfl) ?_
      refine lv_iconst (v := iI 1) hx hb dX11_mean_14 (by decide) ?_
      refine gi_icmp_le (tgt := 21) hx hb dX11_mean_15 (by decide) hg_5 (by decide) (fun c_7 => ?_) (fun c_7 => ?_)
      · replace hM := ifp hM c_7
        refine lv_aload_n hx hb dX11_mean_21 rfl (lv_at hl 0 rfl) ?_
        refine lv_iload_n hx hb dX11_mean_22 rfl (lv_at hl 1 rfl) ?_
        refine lv_iload_n hx hb dX11_mean_23 rfl (lv_at hl 2 rfl) ?_
        obtain ⟨r_9, S_10, hc_8, hg_11, hg_12, hM⟩ := bdG2_some hM
        have hg_13 : gle S_10 o2 := ⟨Nat.le_trans hg_12.1 gle_rfl.1, Nat.le_trans hg_12.2 gle_rfl.2⟩
        refine g_vi (As := [.int (iI a1), .int (iI a2)]) (rest := []) S hG.1 hG.2.1 (vX11_rolling l hG.2.2.2.1 a1 a2 hc_8) wV_11_314 (ec_0 (b := b) (cy := cy) (X := XD b cy S0) _) cpX11 (Nat.lt_of_lt_of_le (Nat.le_of_ble_eq_true rfl) hG.2.2.2.1) dX11_mean_24 rfl hl.1 (ar := 2) (by decide +kernel) rfl ⟨Nat.le_of_ble_eq_true rfl, Nat.le_of_ble_eq_true rfl, hG.gc hg_11 hg_13, hG.gs hg_11 hg_13⟩ (Nat.le_of_ble_eq_true rfl) (fun rv uu H locs hp hGc => ?_)
        obtain ⟨rfl, rfl⟩ := hp
        replace hG := hG.grow hg_11 hg_13 hGc
        clear hGc
        refine lv_istore (lv' := [(5, .int (iI r_9)), (0, .ref (b + 0)), (1, .int (iI a1)), (2, .int (iI a2)), (3, .int (iI a3)), (4, .int (iI a4))]) hx hb dX11_mean_27 hl (by decide) rfl (fun ls hl => ?_)
        refine lv_iload hx hb dX11_mean_29 (lv_at hl 0 rfl) ?_
        obtain ⟨hg_14, hM⟩ := gd_some hM
        refine gi_if_eq (tgt := 37) hx hb dX11_mean_31 (by decide) hg_14 (fun c_15 => ?_) (fun c_15 => ?_)
        · replace hM := ifp hM c_15
          refine lv_aload_n hx hb dX11_mean_37 rfl (lv_at hl 1 rfl) ?_
          refine m_get S hG.1 0 0 11 rfl ec_0 cpX11 wm_676 dX11_mean_38 rfl (Nat.lt_of_lt_of_le (Nat.le_of_ble_eq_true rfl) hG.2.2.2.1) (by decide) ?_
          refine m_get S hG.1 71 73 5 rfl ec_73 cpX7 wm_613 dX11_mean_41 rfl (Nat.lt_of_lt_of_le (Nat.le_of_ble_eq_true rfl) hG.2.2.2.1) (by decide) ?_
          refine lv_iload_n hx hb dX11_mean_44 rfl (lv_at hl 2 rfl) ?_
          refine lv_bipush (v := iI 8) hx hb dX11_mean_45 (by decide) ?_
          refine gi_mul hx hb dX11_mean_47 ?_
          refine lv_iload_n hx hb dX11_mean_48 rfl (lv_at hl 3 rfl) ?_
          refine gi_add hx hb dX11_mean_49 ?_
          refine lv_bipush (v := iI 26) hx hb dX11_mean_50 (by decide) ?_
          refine gi_mul hx hb dX11_mean_52 ?_
          refine lv_iload_n hx hb dX11_mean_53 rfl (lv_at hl 4 rfl) ?_
          refine gi_add hx hb dX11_mean_54 ?_
          obtain ⟨hg_16, hM⟩ := gd_some hM
          refine mi_ald S hG.1 75 78 rfl ec_78 (Nat.lt_of_lt_of_le (Nat.le_of_ble_eq_true rfl) hG.2.2.2.1) dX11_mean_55 hg_16 (by decide) ?_
          refine lv_aload_n hx hb dX11_mean_56 rfl (lv_at hl 1 rfl) ?_
          refine m_get S hG.1 0 0 7 rfl ec_0 cpX11 wm_672 dX11_mean_57 rfl (Nat.lt_of_lt_of_le (Nat.le_of_ble_eq_true rfl) hG.2.2.2.1) (by decide) ?_
          refine lv_iload_n hx hb dX11_mean_60 rfl (lv_at hl 2 rfl) ?_
          refine lv_iload_n hx hb dX11_mean_61 rfl (lv_at hl 3 rfl) ?_
          obtain ⟨r_18, hc_17, hM⟩ := bd1_some hM
          refine g_vl (As := [.int (iI a1), .int (iI a2)]) (rest := [.int (iI (S_10 78 ((((a1 * 8) + a2) * 26) + a3)))]) S hG.1 hG.2.1 (vX0_thingsAt_40 l hG.2.2.2.1 a1 a2 hc_17) wV_11_206 (ec_40 (b := b) (cy := cy) (X := XD b cy S_10) _) cpX0 (Nat.lt_of_lt_of_le (Nat.le_of_ble_eq_true rfl) hG.2.2.2.1) dX11_mean_62 rfl hl.1 (ar := 2) (by decide +kernel) rfl ⟨Nat.le_of_ble_eq_true rfl, Nat.le_of_ble_eq_true rfl, hG.rc, hG.rs⟩ (Nat.le_of_ble_eq_true rfl) (fun rv uu H locs hp hGc => ?_)
          obtain ⟨rfl, rfl⟩ := hp
          refine wz ?_
          replace hG := hG.same hGc
          clear hGc
          refine gj_l2i hx hb dX11_mean_65 ?_
          refine lv_iload hx hb dX11_mean_66 (lv_at hl 5 rfl) ?_
          obtain ⟨r_20, hc_19, hM⟩ := bd1_some hM
          refine g_si (As := [.int (iI (S_10 78 ((((a1 * 8) + a2) * 26) + a3))), .int (iI r_18), .int (iI a4)]) (rest := []) S hG.1 hG.2.1 (vX11_lowest l hG.2.2.2.1 (S_10 78 ((((a1 * 8) + a2) * 26) + a3)) r_18 a4 hc_19) wS_11_326 dX11_mean_68 rfl hl.1 (ar := 3) (by decide +kernel) rfl ⟨Nat.le_of_ble_eq_true rfl, Nat.le_of_ble_eq_true rfl, hG.rc, hG.rs⟩ (Nat.le_of_ble_eq_true rfl) (fun rv uu H locs hp hGc => ?_)
          obtain ⟨rfl, rfl⟩ := hp
          refine wz ?_
          replace hG := hG.same hGc
          clear hGc
          cases hM
          exact g_iret S hr hlk hG.1 hG.2.1 dX11_mean_71 ⟨hG.rc, hG.rs⟩ ⟨rfl, rfl⟩
        · replace hM := ifn hM c_15
          refine lv_iload hx hb dX11_mean_34 (lv_at hl 0 rfl) ?_
          cases hM
          exact g_iret S hr hlk hG.1 hG.2.1 dX11_mean_36 ⟨hG.rc, hG.rs⟩ ⟨rfl, rfl⟩
      · replace hM := ifn hM c_7
        refine lv_bipush (v := iI (-2)) hx hb dX11_mean_18 (by decide) ?_
        cases hM
        exact g_iret S hr hlk hG.1 hG.2.1 dX11_mean_20 ⟨hG.rc, hG.rs⟩ ⟨rfl, rfl⟩
