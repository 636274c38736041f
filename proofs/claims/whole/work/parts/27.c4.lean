theorem dX11_labelled_0 : decode cX11_labelled 0 = .ok (.aload_n 0, 1) := by decide +kernel
theorem dX11_labelled_1 : decode cX11_labelled 1 = .ok (.iload_n 1, 1) := by decide +kernel
theorem dX11_labelled_2 : decode cX11_labelled 2 = .ok (.iload_n 2, 1) := by decide +kernel
theorem dX11_labelled_3 : decode cX11_labelled 3 = .ok (.invokevirtual 175, 3) := by decide +kernel
theorem dX11_labelled_6 : decode cX11_labelled 6 = .ok (.ifCond .eq 15, 3) := by decide +kernel
theorem dX11_labelled_21 : decode cX11_labelled 21 = .ok (.ldc2_w 210, 3) := by decide +kernel
theorem dX11_labelled_24 : decode cX11_labelled 24 = .ok (.lreturn, 1) := by decide +kernel
theorem dX11_labelled_9 : decode cX11_labelled 9 = .ok (.aload_n 0, 1) := by decide +kernel
theorem dX11_labelled_10 : decode cX11_labelled 10 = .ok (.getfield 60, 3) := by decide +kernel
theorem dX11_labelled_13 : decode cX11_labelled 13 = .ok (.iload_n 1, 1) := by decide +kernel
theorem dX11_labelled_14 : decode cX11_labelled 14 = .ok (.iload_n 2, 1) := by decide +kernel
theorem dX11_labelled_15 : decode cX11_labelled 15 = .ok (.invokevirtual 216, 3) := by decide +kernel
theorem wm_1182 : (Jvm.Cond.methodLink "GrownKinds" (216 : Nat) ({ cls := "GrownKinds$Ledger", name := "labelledThings", desc := "(II)J" } : Jvm.MethodName)) ∈ gT := gT_in (List.mem_of_getElem? (i := 1182) (by decide +kernel)) (by decide +kernel)
theorem wm_1183 : (Jvm.Cond.instanceMethod ({ cls := "GrownKinds$Ledger", name := "labelledThings", desc := "(II)J" } : Jvm.MethodName)) ∈ gT := gT_in (List.mem_of_getElem? (i := 1183) (by decide +kernel)) (by decide +kernel)
theorem wm_1184 : (Jvm.Cond.selects "GrownKinds$Ledger" ({ cls := "GrownKinds$Ledger", name := "labelledThings", desc := "(II)J" } : Jvm.MethodName) ({ cls := "GrownKinds$Ledger", name := "labelledThings", desc := "(II)J" } : Jvm.MethodName)) ∈ gT := gT_in (List.mem_of_getElem? (i := 1184) (by decide +kernel)) (by decide +kernel)
theorem wm_1185 : (Jvm.Cond.code ({ cls := "GrownKinds$Ledger", name := "labelledThings", desc := "(II)J" } : Jvm.MethodName) prog_6_method_4_code (3 : Nat) (Option.some Jvm.ClassFile.FieldType.long)) ∈ gT := gT_in (List.mem_of_getElem? (i := 1185) (by decide +kernel)) (by decide +kernel)
theorem dX4_labelledThings_0 : decode cX4_labelledThings 0 = .ok (.aload_n 0, 1) := by decide +kernel
theorem dX4_labelledThings_1 : decode cX4_labelledThings 1 = .ok (.getfield 9, 3) := by decide +kernel
theorem dX4_labelledThings_4 : decode cX4_labelledThings 4 = .ok (.ifCond .ne 26, 3) := by decide +kernel
theorem dX4_labelledThings_7 : decode cX4_labelledThings 7 = .ok (.aload_n 0, 1) := by decide +kernel
theorem dX4_labelledThings_8 : decode cX4_labelledThings 8 = .ok (.getfield 37, 3) := by decide +kernel
theorem dX4_labelledThings_11 : decode cX4_labelledThings 11 = .ok (.bipush (-2), 2) := by decide +kernel
theorem dX4_labelledThings_13 : decode cX4_labelledThings 13 = .ok (.invokevirtual 55, 3) := by decide +kernel
theorem wm_1186 : (Jvm.Cond.methodLink "GrownKinds$Ledger" (55 : Nat) ({ cls := "GrownKinds$Census", name := "take", desc := "(I)V" } : Jvm.MethodName)) ∈ gT := gT_in (List.mem_of_getElem? (i := 1186) (by decide +kernel)) (by decide +kernel)
theorem dX4_labelledThings_16 : decode cX4_labelledThings 16 = .ok (.aload_n 0, 1) := by decide +kernel
theorem dX4_labelledThings_17 : decode cX4_labelledThings 17 = .ok (.aload_n 0, 1) := by decide +kernel
theorem dX4_labelledThings_18 : decode cX4_labelledThings 18 = .ok (.getfield 23, 3) := by decide +kernel
theorem dX4_labelledThings_21 : decode cX4_labelledThings 21 = .ok (.iconst 0, 1) := by decide +kernel
theorem dX4_labelledThings_22 : decode cX4_labelledThings 22 = .ok (.invokevirtual 59, 3) := by decide +kernel
theorem wm_1187 : (Jvm.Cond.methodLink "GrownKinds$Ledger" (59 : Nat) ({ cls := "GrownKinds$Ledger", name := "keep", desc := "([JI)V" } : Jvm.MethodName)) ∈ gT := gT_in (List.mem_of_getElem? (i := 1187) (by decide +kernel)) (by decide +kernel)
theorem wm_1189 : (Jvm.Cond.instanceMethod ({ cls := "GrownKinds$Ledger", name := "keep", desc := "([JI)V" } : Jvm.MethodName)) ∈ gT := gT_in (List.mem_of_getElem? (i := 1189) (by decide +kernel)) (by decide +kernel)
theorem wm_51 : Cond.selects "GrownKinds$Ledger" ⟨"GrownKinds$Ledger", "keep", "([JI)V"⟩ ⟨"GrownKinds$Ledger", "keep", "([JI)V"⟩ ∈ gT := gT_in (List.mem_of_getElem? (i := 51) (by decide +kernel)) (by decide +kernel)
theorem wm_1190 : (Jvm.Cond.code ({ cls := "GrownKinds$Ledger", name := "keep", desc := "([JI)V" } : Jvm.MethodName) prog_6_method_3_code (5 : Nat) (Option.none : Option Jvm.ClassFile.FieldType)) ∈ gT := gT_in (List.mem_of_getElem? (i := 1190) (by decide +kernel)) (by decide +kernel)
theorem dX4_keep_0 : decode cX4_keep 0 = .ok (.iconst 0, 1) := by decide +kernel
theorem dX4_keep_1 : decode cX4_keep 1 = .ok (.istore_n 3, 1) := by decide +kernel
theorem dX4_keep_2 : decode cX4_keep 2 = .ok (.iload_n 3, 1) := by decide +kernel
theorem dX4_keep_3 : decode cX4_keep 3 = .ok (.aload_n 0, 1) := by decide +kernel
theorem dX4_keep_4 : decode cX4_keep 4 = .ok (.getfield 33, 3) := by decide +kernel
theorem dX4_keep_7 : decode cX4_keep 7 = .ok (.getfield 41, 3) := by decide +kernel
theorem wm_221 : (Jvm.Cond.fieldLink "GrownKinds$Ledger" (41 : Nat) "GrownKinds$Grammar" "kinds" "I") ∈ gT := gT_in (List.mem_of_getElem? (i := 221) (by decide +kernel)) (by decide +kernel)
theorem dX4_keep_10 : decode cX4_keep 10 = .ok (.if_icmp .ge 51, 3) := by decide +kernel
theorem dX4_keep_13 : decode cX4_keep 13 = .ok (.iconst 0, 1) := by decide +kernel
theorem dX4_keep_14 : decode cX4_keep 14 = .ok (.istore 4, 2) := by decide +kernel
theorem dX4_keep_16 : decode cX4_keep 16 = .ok (.iload 4, 2) := by decide +kernel
theorem dX4_keep_18 : decode cX4_keep 18 = .ok (.aload_n 0, 1) := by decide +kernel
theorem dX4_keep_19 : decode cX4_keep 19 = .ok (.getfield 33, 3) := by decide +kernel
theorem dX4_keep_22 : decode cX4_keep 22 = .ok (.getfield 46, 3) := by decide +kernel
theorem wm_214 : (Jvm.Cond.fieldLink "GrownKinds$Ledger" (46 : Nat) "GrownKinds$Grammar" "most" "I") ∈ gT := gT_in (List.mem_of_getElem? (i := 214) (by decide +kernel)) (by decide +kernel)
theorem dX4_keep_25 : decode cX4_keep 25 = .ok (.if_icmp .gt 30, 3) := by decide +kernel
theorem dX4_keep_28 : decode cX4_keep 28 = .ok (.aload_n 1, 1) := by decide +kernel
theorem dX4_keep_29 : decode cX4_keep 29 = .ok (.iload_n 2, 1) := by decide +kernel
theorem dX4_keep_30 : decode cX4_keep 30 = .ok (.iload_n 3, 1) := by decide +kernel
theorem dX4_keep_31 : decode cX4_keep 31 = .ok (.bipush 8, 2) := by decide +kernel
theorem dX4_keep_33 : decode cX4_keep 33 = .ok (.imul, 1) := by decide +kernel
theorem dX4_keep_34 : decode cX4_keep 34 = .ok (.iadd, 1) := by decide +kernel
theorem dX4_keep_35 : decode cX4_keep 35 = .ok (.iload 4, 2) := by decide +kernel
theorem dX4_keep_37 : decode cX4_keep 37 = .ok (.iadd, 1) := by decide +kernel
theorem dX4_keep_38 : decode cX4_keep 38 = .ok (.aload_n 0, 1) := by decide +kernel
theorem dX4_keep_39 : decode cX4_keep 39 = .ok (.getfield 37, 3) := by decide +kernel
theorem dX4_keep_42 : decode cX4_keep 42 = .ok (.iload_n 3, 1) := by decide +kernel
theorem dX4_keep_43 : decode cX4_keep 43 = .ok (.iload 4, 2) := by decide +kernel
theorem dX4_keep_45 : decode cX4_keep 45 = .ok (.invokevirtual 49, 3) := by decide +kernel
theorem wm_1191 : (Jvm.Cond.methodLink "GrownKinds$Ledger" (49 : Nat) ({ cls := "GrownKinds$Census", name := "thingsAt", desc := "(II)J" } : Jvm.MethodName)) ∈ gT := gT_in (List.mem_of_getElem? (i := 1191) (by decide +kernel)) (by decide +kernel)
theorem dX4_keep_48 : decode cX4_keep 48 = .ok (.lastore, 1) := by decide +kernel
theorem dX4_keep_49 : decode cX4_keep 49 = .ok (.iinc 4 1, 3) := by decide +kernel
theorem dX4_keep_52 : decode cX4_keep 52 = .ok (.goto (-36), 3) := by decide +kernel
theorem dX4_keep_55 : decode cX4_keep 55 = .ok (.iinc 3 1, 3) := by decide +kernel
theorem dX4_keep_58 : decode cX4_keep 58 = .ok (.goto (-56), 3) := by decide +kernel
theorem dX4_keep_61 : decode cX4_keep 61 = .ok (.return_, 1) := by decide +kernel
theorem dX4_labelledThings_25 : decode cX4_labelledThings 25 = .ok (.aload_n 0, 1) := by decide +kernel
theorem dX4_labelledThings_26 : decode cX4_labelledThings 26 = .ok (.iconst 1, 1) := by decide +kernel
theorem dX4_labelledThings_27 : decode cX4_labelledThings 27 = .ok (.putfield 9, 3) := by decide +kernel
theorem dX4_labelledThings_30 : decode cX4_labelledThings 30 = .ok (.aload_n 0, 1) := by decide +kernel
theorem dX4_labelledThings_31 : decode cX4_labelledThings 31 = .ok (.getfield 23, 3) := by decide +kernel
theorem dX4_labelledThings_34 : decode cX4_labelledThings 34 = .ok (.iload_n 1, 1) := by decide +kernel
theorem dX4_labelledThings_35 : decode cX4_labelledThings 35 = .ok (.bipush 8, 2) := by decide +kernel
theorem dX4_labelledThings_37 : decode cX4_labelledThings 37 = .ok (.imul, 1) := by decide +kernel
theorem dX4_labelledThings_38 : decode cX4_labelledThings 38 = .ok (.iload_n 2, 1) := by decide +kernel
theorem dX4_labelledThings_39 : decode cX4_labelledThings 39 = .ok (.iadd, 1) := by decide +kernel
theorem dX4_labelledThings_40 : decode cX4_labelledThings 40 = .ok (.laload, 1) := by decide +kernel
theorem dX4_labelledThings_41 : decode cX4_labelledThings 41 = .ok (.lreturn, 1) := by decide +kernel
theorem dX11_labelled_18 : decode cX11_labelled 18 = .ok (.goto 6, 3) := by decide +kernel
theorem dX11_marked_0 : decode cX11_marked 0 = .ok (.aload_n 0, 1) := by decide +kernel
theorem dX11_marked_1 : decode cX11_marked 1 = .ok (.iload_n 1, 1) := by decide +kernel
theorem dX11_marked_2 : decode cX11_marked 2 = .ok (.iload_n 2, 1) := by decide +kernel
theorem dX11_marked_3 : decode cX11_marked 3 = .ok (.invokevirtual 175, 3) := by decide +kernel
theorem dX11_marked_6 : decode cX11_marked 6 = .ok (.ifCond .eq 22, 3) := by decide +kernel
theorem dX11_marked_28 : decode cX11_marked 28 = .ok (.ldc2_w 210, 3) := by decide +kernel
theorem dX11_marked_31 : decode cX11_marked 31 = .ok (.lreturn, 1) := by decide +kernel
theorem dX11_marked_9 : decode cX11_marked 9 = .ok (.iload_n 3, 1) := by decide +kernel
theorem dX11_marked_10 : decode cX11_marked 10 = .ok (.invokestatic 221, 3) := by decide +kernel
theorem wm_1197 : (Jvm.Cond.methodLink "GrownKinds" (221 : Nat) ({ cls := "GrownKinds", name := "lettered", desc := "(I)Z" } : Jvm.MethodName)) ∈ gT := gT_in (List.mem_of_getElem? (i := 1197) (by decide +kernel)) (by decide +kernel)
theorem wm_1198 : (Jvm.Cond.static ({ cls := "GrownKinds", name := "lettered", desc := "(I)Z" } : Jvm.MethodName)) ∈ gT := gT_in (List.mem_of_getElem? (i := 1198) (by decide +kernel)) (by decide +kernel)
theorem wm_1199 : (Jvm.Cond.code ({ cls := "GrownKinds", name := "lettered", desc := "(I)Z" } : Jvm.MethodName) prog_1_method_12_code (1 : Nat) (Option.some Jvm.ClassFile.FieldType.boolean)) ∈ gT := gT_in (List.mem_of_getElem? (i := 1199) (by decide +kernel)) (by decide +kernel)
theorem dX11_marked_13 : decode cX11_marked 13 = .ok (.ifCond .eq 15, 3) := by decide +kernel
theorem dX11_marked_16 : decode cX11_marked 16 = .ok (.iload 4, 2) := by decide +kernel
theorem dX11_marked_18 : decode cX11_marked 18 = .ok (.ifCond .lt 10, 3) := by decide +kernel
theorem dX11_marked_21 : decode cX11_marked 21 = .ok (.iload 4, 2) := by decide +kernel
theorem dX11_marked_23 : decode cX11_marked 23 = .ok (.bipush 8, 2) := by decide +kernel
theorem dX11_marked_25 : decode cX11_marked 25 = .ok (.if_icmp .lt 7, 3) := by decide +kernel
theorem dX11_marked_32 : decode cX11_marked 32 = .ok (.aload_n 0, 1) := by decide +kernel
theorem dX11_marked_33 : decode cX11_marked 33 = .ok (.getfield 60, 3) := by decide +kernel
theorem dX11_marked_36 : decode cX11_marked 36 = .ok (.iload_n 1, 1) := by decide +kernel
theorem dX11_marked_37 : decode cX11_marked 37 = .ok (.iload_n 2, 1) := by decide +kernel
theorem dX11_marked_38 : decode cX11_marked 38 = .ok (.iload_n 3, 1) := by decide +kernel
theorem dX11_marked_39 : decode cX11_marked 39 = .ok (.iload 4, 2) := by decide +kernel
theorem dX11_marked_41 : decode cX11_marked 41 = .ok (.invokevirtual 224, 3) := by decide +kernel
theorem wm_1200 : (Jvm.Cond.methodLink "GrownKinds" (224 : Nat) ({ cls := "GrownKinds$Ledger", name := "markedThings", desc := "(IIII)J" } : Jvm.MethodName)) ∈ gT := gT_in (List.mem_of_getElem? (i := 1200) (by decide +kernel)) (by decide +kernel)
theorem wm_1201 : (Jvm.Cond.instanceMethod ({ cls := "GrownKinds$Ledger", name := "markedThings", desc := "(IIII)J" } : Jvm.MethodName)) ∈ gT := gT_in (List.mem_of_getElem? (i := 1201) (by decide +kernel)) (by decide +kernel)
theorem wm_1202 : (Jvm.Cond.selects "GrownKinds$Ledger" ({ cls := "GrownKinds$Ledger", name := "markedThings", desc := "(IIII)J" } : Jvm.MethodName) ({ cls := "GrownKinds$Ledger", name := "markedThings", desc := "(IIII)J" } : Jvm.MethodName)) ∈ gT := gT_in (List.mem_of_getElem? (i := 1202) (by decide +kernel)) (by decide +kernel)
theorem wm_1203 : (Jvm.Cond.code ({ cls := "GrownKinds$Ledger", name := "markedThings", desc := "(IIII)J" } : Jvm.MethodName) prog_6_method_5_code (6 : Nat) (Option.some Jvm.ClassFile.FieldType.long)) ∈ gT := gT_in (List.mem_of_getElem? (i := 1203) (by decide +kernel)) (by decide +kernel)
theorem dX4_markedThings_0 : decode cX4_markedThings 0 = .ok (.iload_n 3, 1) := by decide +kernel
theorem dX4_markedThings_1 : decode cX4_markedThings 1 = .ok (.bipush 48, 2) := by decide +kernel
theorem dX4_markedThings_3 : decode cX4_markedThings 3 = .ok (.imul, 1) := by decide +kernel
theorem dX4_markedThings_4 : decode cX4_markedThings 4 = .ok (.bipush 8, 2) := by decide +kernel
theorem dX4_markedThings_6 : decode cX4_markedThings 6 = .ok (.imul, 1) := by decide +kernel
theorem dX4_markedThings_7 : decode cX4_markedThings 7 = .ok (.istore 5, 2) := by decide +kernel
theorem dX4_markedThings_9 : decode cX4_markedThings 9 = .ok (.aload_n 0, 1) := by decide +kernel
theorem dX4_markedThings_10 : decode cX4_markedThings 10 = .ok (.getfield 15, 3) := by decide +kernel
theorem dX4_markedThings_13 : decode cX4_markedThings 13 = .ok (.iload_n 3, 1) := by decide +kernel
theorem dX4_markedThings_14 : decode cX4_markedThings 14 = .ok (.ishr, 1) := by decide +kernel
theorem dX4_markedThings_15 : decode cX4_markedThings 15 = .ok (.iconst 1, 1) := by decide +kernel
theorem dX4_markedThings_16 : decode cX4_markedThings 16 = .ok (.iand, 1) := by decide +kernel
theorem dX4_markedThings_17 : decode cX4_markedThings 17 = .ok (.ifCond .ne 29, 3) := by decide +kernel
theorem dX4_markedThings_20 : decode cX4_markedThings 20 = .ok (.aload_n 0, 1) := by decide +kernel
theorem dX4_markedThings_21 : decode cX4_markedThings 21 = .ok (.getfield 37, 3) := by decide +kernel
theorem dX4_markedThings_24 : decode cX4_markedThings 24 = .ok (.iload_n 3, 1) := by decide +kernel
theorem dX4_markedThings_25 : decode cX4_markedThings 25 = .ok (.invokevirtual 55, 3) := by decide +kernel
theorem dX4_markedThings_28 : decode cX4_markedThings 28 = .ok (.aload_n 0, 1) := by decide +kernel
theorem dX4_markedThings_29 : decode cX4_markedThings 29 = .ok (.iload 5, 2) := by decide +kernel
theorem dX4_markedThings_31 : decode cX4_markedThings 31 = .ok (.invokevirtual 63, 3) := by decide +kernel
theorem wm_1204 : (Jvm.Cond.methodLink "GrownKinds$Ledger" (63 : Nat) ({ cls := "GrownKinds$Ledger", name := "keepMarks", desc := "(I)V" } : Jvm.MethodName)) ∈ gT := gT_in (List.mem_of_getElem? (i := 1204) (by decide +kernel)) (by decide +kernel)
theorem wm_1206 : (Jvm.Cond.instanceMethod ({ cls := "GrownKinds$Ledger", name := "keepMarks", desc := "(I)V" } : Jvm.MethodName)) ∈ gT := gT_in (List.mem_of_getElem? (i := 1206) (by decide +kernel)) (by decide +kernel)
theorem wm_52 : Cond.selects "GrownKinds$Ledger" ⟨"GrownKinds$Ledger", "keepMarks", "(I)V"⟩ ⟨"GrownKinds$Ledger", "keepMarks", "(I)V"⟩ ∈ gT := gT_in (List.mem_of_getElem? (i := 52) (by decide +kernel)) (by decide +kernel)
theorem wm_1207 : (Jvm.Cond.code ({ cls := "GrownKinds$Ledger", name := "keepMarks", desc := "(I)V" } : Jvm.MethodName) prog_6_method_6_code (5 : Nat) (Option.none : Option Jvm.ClassFile.FieldType)) ∈ gT := gT_in (List.mem_of_getElem? (i := 1207) (by decide +kernel)) (by decide +kernel)
theorem dX4_keepMarks_0 : decode cX4_keepMarks 0 = .ok (.iconst 0, 1) := by decide +kernel
theorem dX4_keepMarks_1 : decode cX4_keepMarks 1 = .ok (.istore_n 2, 1) := by decide +kernel
theorem dX4_keepMarks_2 : decode cX4_keepMarks 2 = .ok (.iload_n 2, 1) := by decide +kernel
theorem dX4_keepMarks_3 : decode cX4_keepMarks 3 = .ok (.aload_n 0, 1) := by decide +kernel
theorem dX4_keepMarks_4 : decode cX4_keepMarks 4 = .ok (.getfield 33, 3) := by decide +kernel
theorem dX4_keepMarks_7 : decode cX4_keepMarks 7 = .ok (.getfield 41, 3) := by decide +kernel
theorem dX4_keepMarks_10 : decode cX4_keepMarks 10 = .ok (.if_icmp .ge 73, 3) := by decide +kernel
theorem dX4_keepMarks_13 : decode cX4_keepMarks 13 = .ok (.iconst 0, 1) := by decide +kernel
theorem dX4_keepMarks_14 : decode cX4_keepMarks 14 = .ok (.istore_n 3, 1) := by decide +kernel
theorem dX4_keepMarks_15 : decode cX4_keepMarks 15 = .ok (.iload_n 3, 1) := by decide +kernel
theorem dX4_keepMarks_16 : decode cX4_keepMarks 16 = .ok (.aload_n 0, 1) := by decide +kernel
theorem dX4_keepMarks_17 : decode cX4_keepMarks 17 = .ok (.getfield 33, 3) := by decide +kernel
theorem dX4_keepMarks_20 : decode cX4_keepMarks 20 = .ok (.getfield 46, 3) := by decide +kernel
theorem dX4_keepMarks_23 : decode cX4_keepMarks 23 = .ok (.if_icmp .gt 54, 3) := by decide +kernel
theorem dX4_keepMarks_26 : decode cX4_keepMarks 26 = .ok (.iconst 0, 1) := by decide +kernel
theorem dX4_keepMarks_27 : decode cX4_keepMarks 27 = .ok (.istore 4, 2) := by decide +kernel
theorem dX4_keepMarks_29 : decode cX4_keepMarks 29 = .ok (.iload 4, 2) := by decide +kernel
theorem dX4_keepMarks_31 : decode cX4_keepMarks 31 = .ok (.iload_n 3, 1) := by decide +kernel
theorem dX4_keepMarks_32 : decode cX4_keepMarks 32 = .ok (.if_icmp .gt 39, 3) := by decide +kernel
theorem dX4_keepMarks_35 : decode cX4_keepMarks 35 = .ok (.aload_n 0, 1) := by decide +kernel
theorem dX4_keepMarks_36 : decode cX4_keepMarks 36 = .ok (.getfield 27, 3) := by decide +kernel
theorem dX4_keepMarks_39 : decode cX4_keepMarks 39 = .ok (.iload_n 1, 1) := by decide +kernel
theorem dX4_keepMarks_40 : decode cX4_keepMarks 40 = .ok (.iload_n 2, 1) := by decide +kernel
theorem dX4_keepMarks_41 : decode cX4_keepMarks 41 = .ok (.bipush 64, 2) := by decide +kernel
theorem dX4_keepMarks_43 : decode cX4_keepMarks 43 = .ok (.imul, 1) := by decide +kernel
theorem dX4_keepMarks_44 : decode cX4_keepMarks 44 = .ok (.iadd, 1) := by decide +kernel
theorem dX4_keepMarks_45 : decode cX4_keepMarks 45 = .ok (.iload_n 3, 1) := by decide +kernel
theorem dX4_keepMarks_46 : decode cX4_keepMarks 46 = .ok (.bipush 8, 2) := by decide +kernel
theorem dX4_keepMarks_48 : decode cX4_keepMarks 48 = .ok (.imul, 1) := by decide +kernel
theorem dX4_keepMarks_49 : decode cX4_keepMarks 49 = .ok (.iadd, 1) := by decide +kernel
theorem dX4_keepMarks_50 : decode cX4_keepMarks 50 = .ok (.iload 4, 2) := by decide +kernel
theorem dX4_keepMarks_52 : decode cX4_keepMarks 52 = .ok (.iadd, 1) := by decide +kernel
theorem dX4_keepMarks_53 : decode cX4_keepMarks 53 = .ok (.aload_n 0, 1) := by decide +kernel
theorem dX4_keepMarks_54 : decode cX4_keepMarks 54 = .ok (.getfield 37, 3) := by decide +kernel
theorem dX4_keepMarks_57 : decode cX4_keepMarks 57 = .ok (.iload_n 2, 1) := by decide +kernel
theorem dX4_keepMarks_58 : decode cX4_keepMarks 58 = .ok (.iload_n 3, 1) := by decide +kernel
theorem dX4_keepMarks_59 : decode cX4_keepMarks 59 = .ok (.iload 4, 2) := by decide +kernel
theorem dX4_keepMarks_61 : decode cX4_keepMarks 61 = .ok (.invokevirtual 66, 3) := by decide +kernel
theorem wm_1208 : (Jvm.Cond.methodLink "GrownKinds$Ledger" (66 : Nat) ({ cls := "GrownKinds$Census", name := "totalAt", desc := "(III)J" } : Jvm.MethodName)) ∈ gT := gT_in (List.mem_of_getElem? (i := 1208) (by decide +kernel)) (by decide +kernel)
theorem wm_1209 : (Jvm.Cond.instanceMethod ({ cls := "GrownKinds$Census", name := "totalAt", desc := "(III)J" } : Jvm.MethodName)) ∈ gT := gT_in (List.mem_of_getElem? (i := 1209) (by decide +kernel)) (by decide +kernel)
theorem wm_1210 : (Jvm.Cond.selects "GrownKinds$Census" ({ cls := "GrownKinds$Census", name := "totalAt", desc := "(III)J" } : Jvm.MethodName) ({ cls := "GrownKinds$Census", name := "totalAt", desc := "(III)J" } : Jvm.MethodName)) ∈ gT := gT_in (List.mem_of_getElem? (i := 1210) (by decide +kernel)) (by decide +kernel)
theorem wm_1211 : (Jvm.Cond.code ({ cls := "GrownKinds$Census", name := "totalAt", desc := "(III)J" } : Jvm.MethodName) prog_2_method_3_code (4 : Nat) (Option.some Jvm.ClassFile.FieldType.long)) ∈ gT := gT_in (List.mem_of_getElem? (i := 1211) (by decide +kernel)) (by decide +kernel)
theorem dX0_totalAt_0 : decode cX0_totalAt 0 = .ok (.ldc2_w 64, 3) := by decide +kernel
theorem dX0_totalAt_3 : decode cX0_totalAt 3 = .ok (.aload_n 0, 1) := by decide +kernel
theorem dX0_totalAt_4 : decode cX0_totalAt 4 = .ok (.getfield 22, 3) := by decide +kernel
theorem dX0_totalAt_7 : decode cX0_totalAt 7 = .ok (.iload_n 1, 1) := by decide +kernel
theorem dX0_totalAt_8 : decode cX0_totalAt 8 = .ok (.bipush 64, 2) := by decide +kernel
theorem dX0_totalAt_10 : decode cX0_totalAt 10 = .ok (.imul, 1) := by decide +kernel
theorem dX0_totalAt_11 : decode cX0_totalAt 11 = .ok (.iload_n 2, 1) := by decide +kernel
theorem dX0_totalAt_12 : decode cX0_totalAt 12 = .ok (.bipush 8, 2) := by decide +kernel
theorem dX0_totalAt_14 : decode cX0_totalAt 14 = .ok (.imul, 1) := by decide +kernel
theorem dX0_totalAt_15 : decode cX0_totalAt 15 = .ok (.iadd, 1) := by decide +kernel
theorem dX0_totalAt_16 : decode cX0_totalAt 16 = .ok (.iload_n 3, 1) := by decide +kernel
theorem dX0_totalAt_17 : decode cX0_totalAt 17 = .ok (.iadd, 1) := by decide +kernel
theorem dX0_totalAt_18 : decode cX0_totalAt 18 = .ok (.laload, 1) := by decide +kernel
theorem dX0_totalAt_19 : decode cX0_totalAt 19 = .ok (.invokestatic 66, 3) := by decide +kernel
theorem dX0_totalAt_22 : decode cX0_totalAt 22 = .ok (.lreturn, 1) := by decide +kernel
theorem dX4_keepMarks_64 : decode cX4_keepMarks 64 = .ok (.lastore, 1) := by decide +kernel
theorem dX4_keepMarks_65 : decode cX4_keepMarks 65 = .ok (.iinc 4 1, 3) := by decide +kernel
theorem dX4_keepMarks_68 : decode cX4_keepMarks 68 = .ok (.goto (-39), 3) := by decide +kernel
theorem dX4_keepMarks_71 : decode cX4_keepMarks 71 = .ok (.iinc 3 1, 3) := by decide +kernel
theorem dX4_keepMarks_74 : decode cX4_keepMarks 74 = .ok (.goto (-59), 3) := by decide +kernel
theorem dX4_keepMarks_77 : decode cX4_keepMarks 77 = .ok (.iinc 2 1, 3) := by decide +kernel
theorem dX4_keepMarks_80 : decode cX4_keepMarks 80 = .ok (.goto (-78), 3) := by decide +kernel
theorem dX4_keepMarks_83 : decode cX4_keepMarks 83 = .ok (.return_, 1) := by decide +kernel
theorem dX4_markedThings_34 : decode cX4_markedThings 34 = .ok (.aload_n 0, 1) := by decide +kernel
theorem dX4_markedThings_35 : decode cX4_markedThings 35 = .ok (.dup, 1) := by decide +kernel
theorem dX4_markedThings_36 : decode cX4_markedThings 36 = .ok (.getfield 15, 3) := by decide +kernel
theorem dX4_markedThings_39 : decode cX4_markedThings 39 = .ok (.iconst 1, 1) := by decide +kernel
theorem dX4_markedThings_40 : decode cX4_markedThings 40 = .ok (.iload_n 3, 1) := by decide +kernel
theorem dX4_markedThings_41 : decode cX4_markedThings 41 = .ok (.ishl, 1) := by decide +kernel
theorem dX4_markedThings_42 : decode cX4_markedThings 42 = .ok (.ior, 1) := by decide +kernel
theorem dX4_markedThings_43 : decode cX4_markedThings 43 = .ok (.putfield 15, 3) := by decide +kernel
theorem dX4_markedThings_46 : decode cX4_markedThings 46 = .ok (.iload 4, 2) := by decide +kernel
theorem dX4_markedThings_48 : decode cX4_markedThings 48 = .ok (.iload_n 2, 1) := by decide +kernel
theorem dX4_markedThings_49 : decode cX4_markedThings 49 = .ok (.if_icmp .le 7, 3) := by decide +kernel
theorem dX4_markedThings_56 : decode cX4_markedThings 56 = .ok (.aload_n 0, 1) := by decide +kernel
theorem dX4_markedThings_57 : decode cX4_markedThings 57 = .ok (.getfield 27, 3) := by decide +kernel
theorem dX4_markedThings_60 : decode cX4_markedThings 60 = .ok (.iload 5, 2) := by decide +kernel
theorem dX4_markedThings_62 : decode cX4_markedThings 62 = .ok (.iload_n 1, 1) := by decide +kernel
theorem dX4_markedThings_63 : decode cX4_markedThings 63 = .ok (.bipush 64, 2) := by decide +kernel
theorem dX4_markedThings_65 : decode cX4_markedThings 65 = .ok (.imul, 1) := by decide +kernel
theorem dX4_markedThings_66 : decode cX4_markedThings 66 = .ok (.iadd, 1) := by decide +kernel
theorem dX4_markedThings_67 : decode cX4_markedThings 67 = .ok (.iload_n 2, 1) := by decide +kernel
theorem dX4_markedThings_68 : decode cX4_markedThings 68 = .ok (.bipush 8, 2) := by decide +kernel
theorem dX4_markedThings_70 : decode cX4_markedThings 70 = .ok (.imul, 1) := by decide +kernel
theorem dX4_markedThings_71 : decode cX4_markedThings 71 = .ok (.iadd, 1) := by decide +kernel
theorem dX4_markedThings_72 : decode cX4_markedThings 72 = .ok (.iload 4, 2) := by decide +kernel
theorem dX4_markedThings_74 : decode cX4_markedThings 74 = .ok (.iadd, 1) := by decide +kernel
theorem dX4_markedThings_75 : decode cX4_markedThings 75 = .ok (.laload, 1) := by decide +kernel
theorem dX4_markedThings_76 : decode cX4_markedThings 76 = .ok (.lreturn, 1) := by decide +kernel
theorem dX4_markedThings_52 : decode cX4_markedThings 52 = .ok (.lconst 0, 1) := by decide +kernel
theorem dX4_markedThings_53 : decode cX4_markedThings 53 = .ok (.goto 23, 3) := by decide +kernel
theorem dX11_marked_44 : decode cX11_marked 44 = .ok (.lreturn, 1) := by decide +kernel
theorem dX11_without_0 : decode cX11_without 0 = .ok (.aload_n 0, 1) := by decide +kernel
theorem dX11_without_1 : decode cX11_without 1 = .ok (.iload_n 1, 1) := by decide +kernel
theorem dX11_without_2 : decode cX11_without 2 = .ok (.iload_n 2, 1) := by decide +kernel
theorem dX11_without_3 : decode cX11_without 3 = .ok (.invokevirtual 228, 3) := by decide +kernel
theorem dX11_without_6 : decode cX11_without 6 = .ok (.ifCond .eq 13, 3) := by decide +kernel
theorem dX11_without_19 : decode cX11_without 19 = .ok (.ldc2_w 210, 3) := by decide +kernel
theorem dX11_without_22 : decode cX11_without 22 = .ok (.lreturn, 1) := by decide +kernel
theorem dX11_without_9 : decode cX11_without 9 = .ok (.aload_n 0, 1) := by decide +kernel
theorem dX11_without_10 : decode cX11_without 10 = .ok (.iload_n 3, 1) := by decide +kernel
theorem dX11_without_11 : decode cX11_without 11 = .ok (.iload 4, 2) := by decide +kernel
theorem dX11_without_13 : decode cX11_without 13 = .ok (.invokevirtual 175, 3) := by decide +kernel
theorem dX11_without_16 : decode cX11_without 16 = .ok (.ifCond .ne 7, 3) := by decide +kernel
theorem dX11_without_23 : decode cX11_without 23 = .ok (.aload_n 0, 1) := by decide +kernel
theorem dX11_without_24 : decode cX11_without 24 = .ok (.getfield 60, 3) := by decide +kernel
theorem dX11_without_27 : decode cX11_without 27 = .ok (.iload_n 1, 1) := by decide +kernel
theorem dX11_without_28 : decode cX11_without 28 = .ok (.iload_n 2, 1) := by decide +kernel
theorem dX11_without_29 : decode cX11_without 29 = .ok (.iload_n 3, 1) := by decide +kernel
theorem dX11_without_30 : decode cX11_without 30 = .ok (.iload 4, 2) := by decide +kernel
theorem dX11_without_32 : decode cX11_without 32 = .ok (.invokevirtual 240, 3) := by decide +kernel
theorem wm_1233 : (Jvm.Cond.methodLink "GrownKinds" (240 : Nat) ({ cls := "GrownKinds$Ledger", name := "thingsWithout", desc := "(IIII)J" } : Jvm.MethodName)) ∈ gT := gT_in (List.mem_of_getElem? (i := 1233) (by decide +kernel)) (by decide +kernel)
theorem wm_1234 : (Jvm.Cond.instanceMethod ({ cls := "GrownKinds$Ledger", name := "thingsWithout", desc := "(IIII)J" } : Jvm.MethodName)) ∈ gT := gT_in (List.mem_of_getElem? (i := 1234) (by decide +kernel)) (by decide +kernel)
theorem wm_1235 : (Jvm.Cond.selects "GrownKinds$Ledger" ({ cls := "GrownKinds$Ledger", name := "thingsWithout", desc := "(IIII)J" } : Jvm.MethodName) ({ cls := "GrownKinds$Ledger", name := "thingsWithout", desc := "(IIII)J" } : Jvm.MethodName)) ∈ gT := gT_in (List.mem_of_getElem? (i := 1235) (by decide +kernel)) (by decide +kernel)
theorem wm_1236 : (Jvm.Cond.code ({ cls := "GrownKinds$Ledger", name := "thingsWithout", desc := "(IIII)J" } : Jvm.MethodName) prog_6_method_7_code (7 : Nat) (Option.some Jvm.ClassFile.FieldType.long)) ∈ gT := gT_in (List.mem_of_getElem? (i := 1236) (by decide +kernel)) (by decide +kernel)
theorem dX4_thingsWithout_0 : decode cX4_thingsWithout 0 = .ok (.iload_n 1, 1) := by decide +kernel
theorem dX4_thingsWithout_1 : decode cX4_thingsWithout 1 = .ok (.bipush 10, 2) := by decide +kernel
theorem dX4_thingsWithout_3 : decode cX4_thingsWithout 3 = .ok (.imul, 1) := by decide +kernel
theorem dX4_thingsWithout_4 : decode cX4_thingsWithout 4 = .ok (.iload_n 2, 1) := by decide +kernel
theorem dX4_thingsWithout_5 : decode cX4_thingsWithout 5 = .ok (.iadd, 1) := by decide +kernel
theorem dX4_thingsWithout_6 : decode cX4_thingsWithout 6 = .ok (.istore 5, 2) := by decide +kernel
theorem dX4_thingsWithout_8 : decode cX4_thingsWithout 8 = .ok (.aload_n 0, 1) := by decide +kernel
theorem dX4_thingsWithout_9 : decode cX4_thingsWithout 9 = .ok (.getfield 19, 3) := by decide +kernel
theorem dX4_thingsWithout_12 : decode cX4_thingsWithout 12 = .ok (.iload 5, 2) := by decide +kernel
theorem dX4_thingsWithout_14 : decode cX4_thingsWithout 14 = .ok (.lshr, 1) := by decide +kernel
theorem dX4_thingsWithout_15 : decode cX4_thingsWithout 15 = .ok (.lconst 1, 1) := by decide +kernel
theorem dX4_thingsWithout_16 : decode cX4_thingsWithout 16 = .ok (.land, 1) := by decide +kernel
theorem dX4_thingsWithout_17 : decode cX4_thingsWithout 17 = .ok (.lconst 0, 1) := by decide +kernel
theorem dX4_thingsWithout_18 : decode cX4_thingsWithout 18 = .ok (.lcmp, 1) := by decide +kernel
theorem dX4_thingsWithout_19 : decode cX4_thingsWithout 19 = .ok (.ifCond .ne 76, 3) := by decide +kernel
theorem dX4_thingsWithout_22 : decode cX4_thingsWithout 22 = .ok (.aload_n 0, 1) := by decide +kernel
theorem dX4_thingsWithout_23 : decode cX4_thingsWithout 23 = .ok (.getfield 33, 3) := by decide +kernel
theorem dX4_thingsWithout_26 : decode cX4_thingsWithout 26 = .ok (.iload_n 1, 1) := by decide +kernel
theorem dX4_thingsWithout_27 : decode cX4_thingsWithout 27 = .ok (.iload_n 2, 1) := by decide +kernel
theorem dX4_thingsWithout_28 : decode cX4_thingsWithout 28 = .ok (.invokevirtual 70, 3) := by decide +kernel
theorem wm_1237 : (Jvm.Cond.methodLink "GrownKinds$Ledger" (70 : Nat) ({ cls := "GrownKinds$Grammar", name := "isOff", desc := "(II)Z" } : Jvm.MethodName)) ∈ gT := gT_in (List.mem_of_getElem? (i := 1237) (by decide +kernel)) (by decide +kernel)
theorem dX4_thingsWithout_31 : decode cX4_thingsWithout 31 = .ok (.istore 6, 2) := by decide +kernel
theorem dX4_thingsWithout_33 : decode cX4_thingsWithout 33 = .ok (.iload 6, 2) := by decide +kernel
theorem dX4_thingsWithout_35 : decode cX4_thingsWithout 35 = .ok (.ifCond .ne 12, 3) := by decide +kernel
theorem dX4_thingsWithout_38 : decode cX4_thingsWithout 38 = .ok (.aload_n 0, 1) := by decide +kernel
theorem dX4_thingsWithout_39 : decode cX4_thingsWithout 39 = .ok (.getfield 33, 3) := by decide +kernel
theorem dX4_thingsWithout_42 : decode cX4_thingsWithout 42 = .ok (.iload_n 1, 1) := by decide +kernel
theorem dX4_thingsWithout_43 : decode cX4_thingsWithout 43 = .ok (.iload_n 2, 1) := by decide +kernel
theorem dX4_thingsWithout_44 : decode cX4_thingsWithout 44 = .ok (.invokevirtual 74, 3) := by decide +kernel
theorem wm_1238 : (Jvm.Cond.methodLink "GrownKinds$Ledger" (74 : Nat) ({ cls := "GrownKinds$Grammar", name := "flip", desc := "(II)V" } : Jvm.MethodName)) ∈ gT := gT_in (List.mem_of_getElem? (i := 1238) (by decide +kernel)) (by decide +kernel)
theorem dX4_thingsWithout_47 : decode cX4_thingsWithout 47 = .ok (.aload_n 0, 1) := by decide +kernel
theorem dX4_thingsWithout_48 : decode cX4_thingsWithout 48 = .ok (.getfield 37, 3) := by decide +kernel
theorem dX4_thingsWithout_51 : decode cX4_thingsWithout 51 = .ok (.iconst (-1), 1) := by decide +kernel
theorem dX4_thingsWithout_52 : decode cX4_thingsWithout 52 = .ok (.invokevirtual 55, 3) := by decide +kernel
theorem dX4_thingsWithout_55 : decode cX4_thingsWithout 55 = .ok (.aload_n 0, 1) := by decide +kernel
theorem dX4_thingsWithout_56 : decode cX4_thingsWithout 56 = .ok (.aload_n 0, 1) := by decide +kernel
theorem dX4_thingsWithout_57 : decode cX4_thingsWithout 57 = .ok (.getfield 30, 3) := by decide +kernel
theorem dX4_thingsWithout_60 : decode cX4_thingsWithout 60 = .ok (.iload 5, 2) := by decide +kernel
theorem dX4_thingsWithout_62 : decode cX4_thingsWithout 62 = .ok (.bipush 48, 2) := by decide +kernel
theorem dX4_thingsWithout_64 : decode cX4_thingsWithout 64 = .ok (.imul, 1) := by decide +kernel
theorem dX4_thingsWithout_65 : decode cX4_thingsWithout 65 = .ok (.invokevirtual 59, 3) := by decide +kernel
theorem dX4_thingsWithout_68 : decode cX4_thingsWithout 68 = .ok (.iload 6, 2) := by decide +kernel
theorem dX4_thingsWithout_70 : decode cX4_thingsWithout 70 = .ok (.ifCond .ne 12, 3) := by decide +kernel
theorem dX4_thingsWithout_73 : decode cX4_thingsWithout 73 = .ok (.aload_n 0, 1) := by decide +kernel
theorem dX4_thingsWithout_74 : decode cX4_thingsWithout 74 = .ok (.getfield 33, 3) := by decide +kernel
theorem dX4_thingsWithout_77 : decode cX4_thingsWithout 77 = .ok (.iload_n 1, 1) := by decide +kernel
theorem dX4_thingsWithout_78 : decode cX4_thingsWithout 78 = .ok (.iload_n 2, 1) := by decide +kernel
theorem dX4_thingsWithout_79 : decode cX4_thingsWithout 79 = .ok (.invokevirtual 74, 3) := by decide +kernel
theorem dX4_thingsWithout_82 : decode cX4_thingsWithout 82 = .ok (.aload_n 0, 1) := by decide +kernel
theorem dX4_thingsWithout_83 : decode cX4_thingsWithout 83 = .ok (.dup, 1) := by decide +kernel
theorem dX4_thingsWithout_84 : decode cX4_thingsWithout 84 = .ok (.getfield 19, 3) := by decide +kernel
theorem dX4_thingsWithout_87 : decode cX4_thingsWithout 87 = .ok (.lconst 1, 1) := by decide +kernel
theorem dX4_thingsWithout_88 : decode cX4_thingsWithout 88 = .ok (.iload 5, 2) := by decide +kernel
theorem dX4_thingsWithout_90 : decode cX4_thingsWithout 90 = .ok (.lshl, 1) := by decide +kernel
theorem dX4_thingsWithout_91 : decode cX4_thingsWithout 91 = .ok (.lor, 1) := by decide +kernel
theorem dX4_thingsWithout_92 : decode cX4_thingsWithout 92 = .ok (.putfield 19, 3) := by decide +kernel
theorem dX4_thingsWithout_95 : decode cX4_thingsWithout 95 = .ok (.aload_n 0, 1) := by decide +kernel
theorem dX4_thingsWithout_96 : decode cX4_thingsWithout 96 = .ok (.getfield 30, 3) := by decide +kernel
theorem dX4_thingsWithout_99 : decode cX4_thingsWithout 99 = .ok (.iload 5, 2) := by decide +kernel
theorem dX4_thingsWithout_101 : decode cX4_thingsWithout 101 = .ok (.bipush 48, 2) := by decide +kernel
theorem dX4_thingsWithout_103 : decode cX4_thingsWithout 103 = .ok (.imul, 1) := by decide +kernel
theorem dX4_thingsWithout_104 : decode cX4_thingsWithout 104 = .ok (.iload_n 3, 1) := by decide +kernel
theorem dX4_thingsWithout_105 : decode cX4_thingsWithout 105 = .ok (.bipush 8, 2) := by decide +kernel
theorem dX4_thingsWithout_107 : decode cX4_thingsWithout 107 = .ok (.imul, 1) := by decide +kernel
theorem dX4_thingsWithout_108 : decode cX4_thingsWithout 108 = .ok (.iadd, 1) := by decide +kernel
theorem dX4_thingsWithout_109 : decode cX4_thingsWithout 109 = .ok (.iload 4, 2) := by decide +kernel
theorem dX4_thingsWithout_111 : decode cX4_thingsWithout 111 = .ok (.iadd, 1) := by decide +kernel
theorem dX4_thingsWithout_112 : decode cX4_thingsWithout 112 = .ok (.laload, 1) := by decide +kernel
theorem dX4_thingsWithout_113 : decode cX4_thingsWithout 113 = .ok (.lreturn, 1) := by decide +kernel
theorem dX11_without_35 : decode cX11_without 35 = .ok (.lreturn, 1) := by decide +kernel
theorem dX11_hangs_0 : decode cX11_hangs 0 = .ok (.aload_n 0, 1) := by decide +kernel
theorem dX11_hangs_1 : decode cX11_hangs 1 = .ok (.iload_n 1, 1) := by decide +kernel
theorem dX11_hangs_2 : decode cX11_hangs 2 = .ok (.iload_n 2, 1) := by decide +kernel
theorem dX11_hangs_3 : decode cX11_hangs 3 = .ok (.invokevirtual 175, 3) := by decide +kernel
theorem dX11_hangs_6 : decode cX11_hangs 6 = .ok (.ifCond .ne 6, 3) := by decide +kernel
theorem dX11_hangs_12 : decode cX11_hangs 12 = .ok (.aload_n 0, 1) := by decide +kernel
theorem dX11_hangs_13 : decode cX11_hangs 13 = .ok (.getfield 42, 3) := by decide +kernel
theorem dX11_hangs_16 : decode cX11_hangs 16 = .ok (.getfield 185, 3) := by decide +kernel
theorem dX11_hangs_19 : decode cX11_hangs 19 = .ok (.iload_n 1, 1) := by decide +kernel
theorem dX11_hangs_20 : decode cX11_hangs 20 = .ok (.invokestatic 188, 3) := by decide +kernel
theorem dX11_hangs_23 : decode cX11_hangs 23 = .ok (.iconst 1, 1) := by decide +kernel
theorem dX11_hangs_24 : decode cX11_hangs 24 = .ok (.iload_n 1, 1) := by decide +kernel
theorem dX11_hangs_25 : decode cX11_hangs 25 = .ok (.ishl, 1) := by decide +kernel
theorem dX11_hangs_26 : decode cX11_hangs 26 = .ok (.ior, 1) := by decide +kernel
theorem dX11_hangs_27 : decode cX11_hangs 27 = .ok (.istore_n 3, 1) := by decide +kernel
theorem dX11_hangs_28 : decode cX11_hangs 28 = .ok (.aload_n 0, 1) := by decide +kernel
theorem dX11_hangs_29 : decode cX11_hangs 29 = .ok (.getfield 51, 3) := by decide +kernel
theorem dX11_hangs_32 : decode cX11_hangs 32 = .ok (.iload_n 1, 1) := by decide +kernel
theorem dX11_hangs_33 : decode cX11_hangs 33 = .ok (.iload_n 2, 1) := by decide +kernel
theorem dX11_hangs_34 : decode cX11_hangs 34 = .ok (.invokevirtual 206, 3) := by decide +kernel
theorem dX11_hangs_37 : decode cX11_hangs 37 = .ok (.lstore 4, 2) := by decide +kernel
theorem dX11_hangs_39 : decode cX11_hangs 39 = .ok (.iconst (-1), 1) := by decide +kernel
theorem dX11_hangs_40 : decode cX11_hangs 40 = .ok (.istore 6, 2) := by decide +kernel
theorem dX11_hangs_42 : decode cX11_hangs 42 = .ok (.iconst 0, 1) := by decide +kernel
theorem dX11_hangs_43 : decode cX11_hangs 43 = .ok (.istore 7, 2) := by decide +kernel
theorem dX11_hangs_45 : decode cX11_hangs 45 = .ok (.iload 7, 2) := by decide +kernel
theorem dX11_hangs_47 : decode cX11_hangs 47 = .ok (.aload_n 0, 1) := by decide +kernel
theorem dX11_hangs_48 : decode cX11_hangs 48 = .ok (.getfield 20, 3) := by decide +kernel
theorem dX11_hangs_51 : decode cX11_hangs 51 = .ok (.getfield 156, 3) := by decide +kernel
theorem dX11_hangs_54 : decode cX11_hangs 54 = .ok (.if_icmp .ge 98, 3) := by decide +kernel
theorem dX11_hangs_57 : decode cX11_hangs 57 = .ok (.iconst 0, 1) := by decide +kernel
theorem dX11_hangs_58 : decode cX11_hangs 58 = .ok (.istore 8, 2) := by decide +kernel
theorem dX11_hangs_60 : decode cX11_hangs 60 = .ok (.iload_n 3, 1) := by decide +kernel
theorem dX11_hangs_61 : decode cX11_hangs 61 = .ok (.iload 7, 2) := by decide +kernel
theorem dX11_hangs_63 : decode cX11_hangs 63 = .ok (.ishr, 1) := by decide +kernel
theorem dX11_hangs_64 : decode cX11_hangs 64 = .ok (.iconst 1, 1) := by decide +kernel
theorem dX11_hangs_65 : decode cX11_hangs 65 = .ok (.iand, 1) := by decide +kernel
theorem dX11_hangs_66 : decode cX11_hangs 66 = .ok (.ifCond .eq 80, 3) := by decide +kernel
theorem dX11_hangs_69 : decode cX11_hangs 69 = .ok (.iload 8, 2) := by decide +kernel
theorem dX11_hangs_71 : decode cX11_hangs 71 = .ok (.aload_n 0, 1) := by decide +kernel
theorem dX11_hangs_72 : decode cX11_hangs 72 = .ok (.getfield 20, 3) := by decide +kernel
theorem dX11_hangs_75 : decode cX11_hangs 75 = .ok (.getfield 172, 3) := by decide +kernel
theorem dX11_hangs_78 : decode cX11_hangs 78 = .ok (.iload 7, 2) := by decide +kernel
theorem dX11_hangs_80 : decode cX11_hangs 80 = .ok (.iaload, 1) := by decide +kernel
theorem dX11_hangs_81 : decode cX11_hangs 81 = .ok (.if_icmp .ge 65, 3) := by decide +kernel
theorem dX11_hangs_84 : decode cX11_hangs 84 = .ok (.aload_n 0, 1) := by decide +kernel
theorem dX11_hangs_85 : decode cX11_hangs 85 = .ok (.getfield 20, 3) := by decide +kernel
theorem dX11_hangs_88 : decode cX11_hangs 88 = .ok (.iload 7, 2) := by decide +kernel
theorem dX11_hangs_90 : decode cX11_hangs 90 = .ok (.iload 8, 2) := by decide +kernel
theorem dX11_hangs_92 : decode cX11_hangs 92 = .ok (.invokevirtual 243, 3) := by decide +kernel
theorem dX11_hangs_95 : decode cX11_hangs 95 = .ok (.ifCond .eq 8, 3) := by decide +kernel
theorem dX11_hangs_103 : decode cX11_hangs 103 = .ok (.aload_n 0, 1) := by decide +kernel
theorem dX11_hangs_104 : decode cX11_hangs 104 = .ok (.getfield 60, 3) := by decide +kernel
theorem dX11_hangs_107 : decode cX11_hangs 107 = .ok (.iload 7, 2) := by decide +kernel
theorem dX11_hangs_109 : decode cX11_hangs 109 = .ok (.iload 8, 2) := by decide +kernel
theorem dX11_hangs_111 : decode cX11_hangs 111 = .ok (.iload_n 1, 1) := by decide +kernel
theorem dX11_hangs_112 : decode cX11_hangs 112 = .ok (.iload_n 2, 1) := by decide +kernel
theorem dX11_hangs_113 : decode cX11_hangs 113 = .ok (.invokevirtual 240, 3) := by decide +kernel
theorem dX11_hangs_98 : decode cX11_hangs 98 = .ok (.lload 4, 2) := by decide +kernel
theorem dX11_hangs_100 : decode cX11_hangs 100 = .ok (.goto 16, 3) := by decide +kernel
theorem dX11_hangs_116 : decode cX11_hangs 116 = .ok (.lstore 9, 2) := by decide +kernel
theorem dX11_hangs_118 : decode cX11_hangs 118 = .ok (.lload 9, 2) := by decide +kernel
theorem dX11_hangs_120 : decode cX11_hangs 120 = .ok (.lload 4, 2) := by decide +kernel
theorem dX11_hangs_122 : decode cX11_hangs 122 = .ok (.lcmp, 1) := by decide +kernel
theorem dX11_hangs_123 : decode cX11_hangs 123 = .ok (.ifCond .ge 17, 3) := by decide +kernel
theorem dX11_hangs_140 : decode cX11_hangs 140 = .ok (.iinc 8 1, 3) := by decide +kernel
theorem dX11_hangs_143 : decode cX11_hangs 143 = .ok (.goto (-83), 3) := by decide +kernel
theorem dX11_hangs_126 : decode cX11_hangs 126 = .ok (.lload 9, 2) := by decide +kernel
theorem dX11_hangs_128 : decode cX11_hangs 128 = .ok (.lstore 4, 2) := by decide +kernel
theorem dX11_hangs_130 : decode cX11_hangs 130 = .ok (.bipush 10, 2) := by decide +kernel
theorem dX11_hangs_132 : decode cX11_hangs 132 = .ok (.iload 7, 2) := by decide +kernel
theorem dX11_hangs_134 : decode cX11_hangs 134 = .ok (.imul, 1) := by decide +kernel
theorem dX11_hangs_135 : decode cX11_hangs 135 = .ok (.iload 8, 2) := by decide +kernel
theorem dX11_hangs_137 : decode cX11_hangs 137 = .ok (.iadd, 1) := by decide +kernel
theorem dX11_hangs_138 : decode cX11_hangs 138 = .ok (.istore 6, 2) := by decide +kernel
theorem dX11_hangs_146 : decode cX11_hangs 146 = .ok (.iinc 7 1, 3) := by decide +kernel
theorem dX11_hangs_149 : decode cX11_hangs 149 = .ok (.goto (-104), 3) := by decide +kernel
theorem dX11_hangs_152 : decode cX11_hangs 152 = .ok (.iload 6, 2) := by decide +kernel
theorem dX11_hangs_154 : decode cX11_hangs 154 = .ok (.ireturn, 1) := by decide +kernel
theorem dX11_hangs_9 : decode cX11_hangs 9 = .ok (.bipush (-2), 2) := by decide +kernel
theorem dX11_hangs_11 : decode cX11_hangs 11 = .ok (.ireturn, 1) := by decide +kernel
theorem wV_11_216 : gWV "GrownKinds" 216 yX4_labelledThings cX4_labelledThings 3 (some .long) := ⟨wm_1182, wm_1183, wm_1184, wm_182, wm_1185, by decide +kernel, by decide +kernel⟩
theorem wV_4_55 : gWV "GrownKinds$Ledger" 55 yX0_take cX0_take 6 none := ⟨wm_1186, wm_983, wm_984, wm_181, wm_985, by decide +kernel, by decide +kernel⟩
def mX0_letterTop_48 (S0 : St) (a1 : Int) : Option (Int) := gd (inI (S0 48 1)) <| if (S0 48 1) < 0 then (some (0)) else (some (a1))
set_option maxHeartbeats 4000000 in
set_option maxRecDepth 100000 in
theorem vX0_letterTop_48 (l : Launch) {D : va_G} {cy : Nat → ClassId} {b n : Nat} (hn : 102 ≤ n) {X : Nat → va_E} {S0 : St} (a1 : Int) {o1 : Int} (hM : mX0_letterTop_48 S0 a1 = some o1) : gI l yX0_letterTop cX0_letterTop 2 (some .int) 0 0 0 D cy b n (enc b cy X S0) [.ref (b + 48), .int (iI a1)] (fun r u => r = iI o1 ∧ u = (n, enc b cy X S0)) := by
  refine gI_of (by decide) (Nat.le_of_ble_eq_true rfl) ?_
  intro p e s m args below meth c S hr hlk hin hsz ls hl hG
  have hx := S.1
  have hb := S.2.1
  have hl : lv_has ls 2 [(0, .ref (b + 48)), (1, .int (iI a1))] := hl
  replace hG : gW D cy b n s s.heap [] (enc b cy X S0) := hG
  obtain ⟨H, eH⟩ : ∃ H, H = s.heap := ⟨_, rfl⟩
  obtain ⟨locs, elocs⟩ : ∃ locs : List Loc, locs = [] := ⟨_, rfl⟩
  rw [← eH, ← elocs] at hG
  rw [← eH, ← elocs]
  clear eH elocs
  unfold mX0_letterTop_48 at hM
  refine lv_aload_n hx hb dX0_letterTop_0 rfl (lv_at hl 0 rfl) ?_
  refine m_get S hG 48 48 1 rfl ec_48 cpX0 wm_404 dX0_letterTop_1 rfl (Nat.lt_of_lt_of_le (Nat.le_of_ble_eq_true rfl) hn) (by decide) ?_
  obtain ⟨hg_1, hM⟩ := gd_some hM
  refine gi_if_lt (tgt := 11) hx hb dX0_letterTop_4 (by decide) hg_1 (fun c_2 => ?_) (fun c_2 => ?_)
  · replace hM := ifp hM c_2
    refine lv_iconst (v := iI 0) hx hb dX0_letterTop_11 (by decide) ?_
    cases hM
    exact g_iret S hr hlk hG hsz dX0_letterTop_12 ⟨Nat.le_of_ble_eq_true rfl, Nat.le_of_ble_eq_true rfl⟩ ⟨rfl, rfl⟩
  · replace hM := ifn hM c_2
    refine lv_iload_n hx hb dX0_letterTop_7 rfl (lv_at hl 1 rfl) ?_
    refine lv_goto (tgt := 12) hx hb dX0_letterTop_8 (by decide) ?_
    cases hM
    exact g_iret S hr hlk hG hsz dX0_letterTop_12 ⟨Nat.le_of_ble_eq_true rfl, Nat.le_of_ble_eq_true rfl⟩ ⟨rfl, rfl⟩
def mX0_clearCells_48_50_3 (a2 : Int) (a3 : Int) : Nat → Int → St → Option (St)
  | 0, _, _ => none
  | f + 1, v_1, S_2 => bd1 (mX0_letterTop_48 S_2 a3) fun r_10 => gd ((inI v_1) ∧ (inI r_10)) <| if r_10 < v_1 then (some (S_2)) else (gd (0 ≤ (a2 + v_1) ∧ (a2 + v_1) < 1536) <| nx (up S_2 50 (a2 + v_1) 0) fun S_14 => mX0_clearCells_48_50_3 a2 a3 f (v_1 + 1) S_14)
def mX0_clearCells_48_50 (S0 : St) (a2 : Int) (a3 : Int) : Option (St) := bd1 (mX0_clearCells_48_50_3 a2 a3 FU 0 S0) fun S_3 => some (S_3)
set_option maxHeartbeats 4000000 in
set_option maxRecDepth 100000 in
theorem vX0_clearCells_48_50 (l : Launch) {D : va_G} {cy : Nat → ClassId} {b n : Nat} (hn : 102 ≤ n) {X : Nat → va_E} {S0 : St} (a2 : Int) (a3 : Int) {o1 : St} (hM : mX0_clearCells_48_50 S0 a2 a3 = some o1) : gV l yX0_clearCells cX0_clearCells 5 1 0 0 D cy b n (enc b cy X S0) [.ref (b + 48), .ref (b + 50), .int (iI a2), .int (iI a3)] (fun u => u = (n, enc b cy X o1)) := by
  refine gV_of (by decide) (Nat.le_of_ble_eq_true rfl) ?_
  intro p e s m args below meth c S hr hlk hin hsz ls hl hG
  have hx := S.1
  have hb := S.2.1
  have hl : lv_has ls 5 [(0, .ref (b + 48)), (1, .ref (b + 50)), (2, .int (iI a2)), (3, .int (iI a3))] := hl
  replace hG : gW D cy b n s s.heap [] (enc b cy X S0) := hG
  obtain ⟨H, eH⟩ : ∃ H, H = s.heap := ⟨_, rfl⟩
  obtain ⟨locs, elocs⟩ : ∃ locs : List Loc, locs = [] := ⟨_, rfl⟩
  rw [← eH, ← elocs] at hG
  rw [← eH, ← elocs]
  clear eH elocs
  unfold mX0_clearCells_48_50 at hM
  refine lv_iconst (v := iI 0) hx hb dX0_clearCells_0 (by decide) ?_
  refine lv_istore (lv' := [(4, .int (iI 0)), (0, .ref (b + 48)), (1, .ref (b + 50)), (2, .int (iI a2)), (3, .int (iI a3))]) hx hb dX0_clearCells_1 hl (by decide) rfl (fun ls hl => ?_)
  obtain ⟨S_3, hc_4, hM⟩ := bd1_some hM
  have hK_5 : ∀ (H : Heap) (locs : List Loc) (ls : Array Slot), gW D cy b n s H locs (enc b cy X S_3) → lv_has ls 5 [] → W p l e (gRm 1 0 0) s m args below meth c H locs 0 0 (gQV D cy b s args below 0 0 (fun u => u = (n, enc b cy X o1))) (F0 m 26 ls []) := by
    intro H locs ls hG hl
    cases hM
    exact g_vret S hr hlk hG hsz dX0_clearCells_26 ⟨Nat.le_of_ble_eq_true rfl, Nat.le_of_ble_eq_true rfl⟩ rfl
  have loop_6 : ∀ (f : Nat) (v_1 : Int) (S_2 : St) (H : Heap) (locs : List Loc) (ls : Array Slot), mX0_clearCells_48_50_3 a2 a3 f v_1 S_2 = some S_3 → gW D cy b n s H locs (enc b cy X S_2) → lv_has ls 5 [(4, .int (iI v_1)), (0, .ref (b + 48)), (1, .ref (b + 50)), (2, .int (iI a2)), (3, .int (iI a3))] → W p l e (gRm 1 0 0) s m args below meth c H locs 0 0 (gQV D cy b s args below 0 0 (fun u => u = (n, enc b cy X o1))) (F0 m 3 ls []) := by
    clear hM
    intro f
    induction f with
    | zero => intro v_1 S_2 H locs ls hM; rw [mX0_clearCells_48_50_3] at hM; cases hM
    | succ f_8 ih_7 =>
      intro v_1 S_2 H locs ls hM hG hl
      rw [mX0_clearCells_48_50_3] at hM
      refine lv_iload hx hb dX0_clearCells_3 (lv_at hl 0 rfl) ?_
      refine lv_aload_n hx hb dX0_clearCells_5 rfl (lv_at hl 1 rfl) ?_
      refine lv_iload_n hx hb dX0_clearCells_6 rfl (lv_at hl 4 rfl) ?_
      obtain ⟨r_10, hc_9, hM⟩ := bd1_some hM
      refine g_vi (As := [.int (iI a3)]) (rest := [.int (iI v_1)]) S hG hsz (vX0_letterTop_48 l hn a3 hc_9) wV_0_108 (ec_48 _) cpX0 (Nat.lt_of_lt_of_le (Nat.le_of_ble_eq_true rfl) hn) dX0_clearCells_7 rfl hl.1 (ar := 1) (by decide +kernel) rfl ⟨Nat.le_of_ble_eq_true rfl, Nat.le_of_ble_eq_true rfl, Nat.le_of_ble_eq_true rfl, Nat.le_of_ble_eq_true rfl⟩ (Nat.le_of_ble_eq_true rfl) (fun rv uu H locs hp hG => ?_)
      obtain ⟨rfl, rfl⟩ := hp
      replace hG : gW D cy b n s H locs (enc b cy X S_2) := hG
      obtain ⟨hg_11, hM⟩ := gd_some hM
      refine gi_icmp_gt (tgt := 26) hx hb dX0_clearCells_10 (by decide) hg_11.1 hg_11.2 (fun c_12 => ?_) (fun c_12 => ?_)
      · replace hM := ifp hM c_12
        cases hM
        exact hK_5 H locs ls hG (lv_sub hl [] rfl)
      · replace hM := ifn hM c_12
        refine lv_aload_n hx hb dX0_clearCells_13 rfl (lv_at hl 2 rfl) ?_
        refine lv_iload_n hx hb dX0_clearCells_14 rfl (lv_at hl 3 rfl) ?_
        refine lv_iload hx hb dX0_clearCells_15 (lv_at hl 0 rfl) ?_
        refine gi_add hx hb dX0_clearCells_17 ?_
        refine lv_lconst (v := jJ 0) hx hb dX0_clearCells_18 (by decide) ?_
        obtain ⟨hg_13, hM⟩ := gd_some hM
        refine mj_ast S hG 50 50 rfl ec_50 (Nat.lt_of_lt_of_le (Nat.le_of_ble_eq_true rfl) hn) dX0_clearCells_19 hg_13 (by decide) (fun H locs S_14 eS_14 hG => ?_)
        replace hM := nx_at hM eS_14
        clear eS_14
        refine lv_iinc (v := iI (v_1 + 1)) (lv' := [(4, .int (iI (v_1 + 1))), (0, .ref (b + 48)), (1, .ref (b + 50)), (2, .int (iI a2)), (3, .int (iI a3))]) hx hb dX0_clearCells_20 hl (k := 0) rfl ((iI_add v_1 (1)).trans (congrArg iI (by omega))) (by decide) rfl (fun ls hl => ?_)
        refine lv_goto (tgt := 3) hx hb dX0_clearCells_23 (by decide) ?_
        exact ih_7 (v_1 + 1) S_14 H locs ls hM hG (lv_sub hl [0, 1, 2, 3, 4] rfl)
  exact loop_6 FU 0 S0 H locs ls hc_4 hG (lv_sub hl [0, 1, 2, 3, 4] rfl)
def mX0_weight_48 (S0 : St) (a1 : Int) (a2 : Int) : Option (Int) := gd (inI (S0 48 1)) <| if (S0 48 1) = (-2) then (gd (0 ≤ ((a1 * 8) + a2) ∧ ((a1 * 8) + a2) < 64) <| gd (inI (sby lCHOOSE ((a1 * 8) + a2))) <| some ((sby lCHOOSE ((a1 * 8) + a2)))) else (some (1))
set_option maxHeartbeats 4000000 in
set_option maxRecDepth 100000 in
theorem vX0_weight_48 (l : Launch) {D : va_G} {cy : Nat → ClassId} {b n : Nat} (hn : 102 ≤ n) {X : Nat → va_E} {S0 : St} (a1 : Int) (a2 : Int) {o1 : Int} (hM : mX0_weight_48 S0 a1 a2 = some o1) : gL l yX0_weight cX0_weight 3 0 0 0 D cy b n (enc b cy X S0) [.ref (b + 48), .int (iI a1), .int (iI a2)] (fun r u => r = jJ o1 ∧ u = (n, enc b cy X S0)) := by
  refine gL_of (by decide) (Nat.le_of_ble_eq_true rfl) ?_
  intro p e s m args below meth c S hr hlk hin hsz ls hl hG
  have hx := S.1
  have hb := S.2.1
  have hl : lv_has ls 3 [(0, .ref (b + 48)), (1, .int (iI a1)), (2, .int (iI a2))] := hl
  replace hG : gW D cy b n s s.heap [] (enc b cy X S0) := hG
  obtain ⟨H, eH⟩ : ∃ H, H = s.heap := ⟨_, rfl⟩
  obtain ⟨locs, elocs⟩ : ∃ locs : List Loc, locs = [] := ⟨_, rfl⟩
  rw [← eH, ← elocs] at hG
  rw [← eH, ← elocs]
  clear eH elocs
  unfold mX0_weight_48 at hM
  refine lv_aload_n hx hb dX0_weight_0 rfl (lv_at hl 0 rfl) ?_
  refine m_get S hG 48 48 1 rfl ec_48 cpX0 wm_404 dX0_weight_1 rfl (Nat.lt_of_lt_of_le (Nat.le_of_ble_eq_true rfl) hn) (by decide) ?_
  refine lv_bipush (v := iI (-2)) hx hb dX0_weight_4 (by decide) ?_
  obtain ⟨hg_1, hM⟩ := gd_some hM
  refine gi_icmp_ne (tgt := 23) hx hb dX0_weight_6 (by decide) hg_1 (by decide) (fun c_2 => ?_) (fun c_2 => ?_)
  · replace hM := ifn hM c_2
    refine lv_lconst (v := jJ 1) hx hb dX0_weight_23 (by decide) ?_
    cases hM
    exact g_lret S hr hlk hG hsz dX0_weight_24 ⟨Nat.le_of_ble_eq_true rfl, Nat.le_of_ble_eq_true rfl⟩ ⟨rfl, rfl⟩
  · replace hM := ifp hM c_2
    refine g_gsaN (host := "GrownKinds") S hG gsa0 (by decide +kernel) dX0_weight_9 ?_
    refine lv_iload_n hx hb dX0_weight_12 rfl (lv_at hl 1 rfl) ?_
    refine lv_bipush (v := iI 8) hx hb dX0_weight_13 (by decide) ?_
    refine gi_mul hx hb dX0_weight_15 ?_
    refine lv_iload_n hx hb dX0_weight_16 rfl (lv_at hl 2 rfl) ?_
    refine gi_add hx hb dX0_weight_17 ?_
    obtain ⟨hg_3, hM⟩ := gd_some hM
    refine g_sald S hG gsa0 dX0_weight_18 hg_3 (by decide) ?_
    obtain ⟨hg_4, hM⟩ := gd_some hM
    refine gi_i2l hx hb dX0_weight_19 hg_4 ?_
    refine lv_goto (tgt := 24) hx hb dX0_weight_20 (by decide) ?_
    cases hM
    exact g_lret S hr hlk hG hsz dX0_weight_24 ⟨Nat.le_of_ble_eq_true rfl, Nat.le_of_ble_eq_true rfl⟩ ⟨rfl, rfl⟩
def mX0_copyCells_48_49_50_3 (a2 : Int) (a4 : Int) (a5 : Int) : Nat → Int → St → Option (St)
  | 0, _, _ => none
  | f + 1, v_1, S_2 => bd1 (mX0_letterTop_48 S_2 a5) fun r_10 => gd ((inI v_1) ∧ (inI r_10)) <| if r_10 < v_1 then (some (S_2)) else (gd (0 ≤ (a2 + v_1) ∧ (a2 + v_1) < 1536) <| gd (0 ≤ (a4 + v_1) ∧ (a4 + v_1) < 1536) <| nx (up S_2 50 (a4 + v_1) (S_2 49 (a2 + v_1))) fun S_15 => mX0_copyCells_48_49_50_3 a2 a4 a5 f (v_1 + 1) S_15)
def mX0_copyCells_48_49_50 (S0 : St) (a2 : Int) (a4 : Int) (a5 : Int) : Option (St) := bd1 (mX0_copyCells_48_49_50_3 a2 a4 a5 FU 0 S0) fun S_3 => some (S_3)
set_option maxHeartbeats 4000000 in
set_option maxRecDepth 100000 in
theorem vX0_copyCells_48_49_50 (l : Launch) {D : va_G} {cy : Nat → ClassId} {b n : Nat} (hn : 102 ≤ n) {X : Nat → va_E} {S0 : St} (a2 : Int) (a4 : Int) (a5 : Int) {o1 : St} (hM : mX0_copyCells_48_49_50 S0 a2 a4 a5 = some o1) : gV l yX0_copyCells cX0_copyCells 7 1 0 0 D cy b n (enc b cy X S0) [.ref (b + 48), .ref (b + 49), .int (iI a2), .ref (b + 50), .int (iI a4), .int (iI a5)] (fun u => u = (n, enc b cy X o1)) := by
  refine gV_of (by decide) (Nat.le_of_ble_eq_true rfl) ?_
  intro p e s m args below meth c S hr hlk hin hsz ls hl hG
  have hx := S.1
  have hb := S.2.1
  have hl : lv_has ls 7 [(0, .ref (b + 48)), (1, .ref (b + 49)), (2, .int (iI a2)), (3, .ref (b + 50)), (4, .int (iI a4)), (5, .int (iI a5))] := hl
  replace hG : gW D cy b n s s.heap [] (enc b cy X S0) := hG
  obtain ⟨H, eH⟩ : ∃ H, H = s.heap := ⟨_, rfl⟩
  obtain ⟨locs, elocs⟩ : ∃ locs : List Loc, locs = [] := ⟨_, rfl⟩
  rw [← eH, ← elocs] at hG
  rw [← eH, ← elocs]
  clear eH elocs
  unfold mX0_copyCells_48_49_50 at hM
  refine lv_iconst (v := iI 0) hx hb dX0_copyCells_0 (by decide) ?_
  refine lv_istore (lv' := [(6, .int (iI 0)), (0, .ref (b + 48)), (1, .ref (b + 49)), (2, .int (iI a2)), (3, .ref (b + 50)), (4, .int (iI a4)), (5, .int (iI a5))]) hx hb dX0_copyCells_1 hl (by decide) rfl (fun ls hl => ?_)
  obtain ⟨S_3, hc_4, hM⟩ := bd1_some hM
  have hK_5 : ∀ (H : Heap) (locs : List Loc) (ls : Array Slot), gW D cy b n s H locs (enc b cy X S_3) → lv_has ls 7 [] → W p l e (gRm 1 0 0) s m args below meth c H locs 0 0 (gQV D cy b s args below 0 0 (fun u => u = (n, enc b cy X o1))) (F0 m 33 ls []) := by
    intro H locs ls hG hl
    cases hM
    exact g_vret S hr hlk hG hsz dX0_copyCells_33 ⟨Nat.le_of_ble_eq_true rfl, Nat.le_of_ble_eq_true rfl⟩ rfl
  have loop_6 : ∀ (f : Nat) (v_1 : Int) (S_2 : St) (H : Heap) (locs : List Loc) (ls : Array Slot), mX0_copyCells_48_49_50_3 a2 a4 a5 f v_1 S_2 = some S_3 → gW D cy b n s H locs (enc b cy X S_2) → lv_has ls 7 [(6, .int (iI v_1)), (0, .ref (b + 48)), (1, .ref (b + 49)), (2, .int (iI a2)), (3, .ref (b + 50)), (4, .int (iI a4)), (5, .int (iI a5))] → W p l e (gRm 1 0 0) s m args below meth c H locs 0 0 (gQV D cy b s args below 0 0 (fun u => u = (n, enc b cy X o1))) (F0 m 3 ls []) := by
    clear hM
    intro f
    induction f with
    | zero => intro v_1 S_2 H locs ls hM; rw [mX0_copyCells_48_49_50_3] at hM; cases hM
    | succ f_8 ih_7 =>
      intro v_1 S_2 H locs ls hM hG hl
      rw [mX0_copyCells_48_49_50_3] at hM
      refine lv_iload hx hb dX0_copyCells_3 (lv_at hl 0 rfl) ?_
      refine lv_aload_n hx hb dX0_copyCells_5 rfl (lv_at hl 1 rfl) ?_
      refine lv_iload hx hb dX0_copyCells_6 (lv_at hl 6 rfl) ?_
      obtain ⟨r_10, hc_9, hM⟩ := bd1_some hM
      refine g_vi (As := [.int (iI a5)]) (rest := [.int (iI v_1)]) S hG hsz (vX0_letterTop_48 l hn a5 hc_9) wV_0_108 (ec_48 _) cpX0 (Nat.lt_of_lt_of_le (Nat.le_of_ble_eq_true rfl) hn) dX0_copyCells_8 rfl hl.1 (ar := 1) (by decide +kernel) rfl ⟨Nat.le_of_ble_eq_true rfl, Nat.le_of_ble_eq_true rfl, Nat.le_of_ble_eq_true rfl, Nat.le_of_ble_eq_true rfl⟩ (Nat.le_of_ble_eq_true rfl) (fun rv uu H locs hp hG => ?_)
      obtain ⟨rfl, rfl⟩ := hp
      replace hG : gW D cy b n s H locs (enc b cy X S_2) := hG
      obtain ⟨hg_11, hM⟩ := gd_some hM
      refine gi_icmp_gt (tgt := 33) hx hb dX0_copyCells_11 (by decide) hg_11.1 hg_11.2 (fun c_12 => ?_) (fun c_12 => ?_)
      · replace hM := ifp hM c_12
        cases hM
        exact hK_5 H locs ls hG (lv_sub hl [] rfl)
      · replace hM := ifn hM c_12
        refine lv_aload_n hx hb dX0_copyCells_14 rfl (lv_at hl 4 rfl) ?_
        refine lv_iload hx hb dX0_copyCells_15 (lv_at hl 5 rfl) ?_
        refine lv_iload hx hb dX0_copyCells_17 (lv_at hl 0 rfl) ?_
        refine gi_add hx hb dX0_copyCells_19 ?_
        refine lv_aload_n hx hb dX0_copyCells_20 rfl (lv_at hl 2 rfl) ?_
        refine lv_iload_n hx hb dX0_copyCells_21 rfl (lv_at hl 3 rfl) ?_
        refine lv_iload hx hb dX0_copyCells_22 (lv_at hl 0 rfl) ?_
        refine gi_add hx hb dX0_copyCells_24 ?_
        obtain ⟨hg_13, hM⟩ := gd_some hM
        refine mj_ald S hG 49 49 rfl ec_49 (Nat.lt_of_lt_of_le (Nat.le_of_ble_eq_true rfl) hn) dX0_copyCells_25 hg_13 (by decide) ?_
        obtain ⟨hg_14, hM⟩ := gd_some hM
        refine mj_ast S hG 50 50 rfl ec_50 (Nat.lt_of_lt_of_le (Nat.le_of_ble_eq_true rfl) hn) dX0_copyCells_26 hg_14 (by decide) (fun H locs S_15 eS_15 hG => ?_)
        replace hM := nx_at hM eS_15
        clear eS_15
        refine lv_iinc (v := iI (v_1 + 1)) (lv' := [(6, .int (iI (v_1 + 1))), (0, .ref (b + 48)), (1, .ref (b + 49)), (2, .int (iI a2)), (3, .ref (b + 50)), (4, .int (iI a4)), (5, .int (iI a5))]) hx hb dX0_copyCells_27 hl (k := 0) rfl ((iI_add v_1 (1)).trans (congrArg iI (by omega))) (by decide) rfl (fun ls hl => ?_)
        refine lv_goto (tgt := 3) hx hb dX0_copyCells_30 (by decide) ?_
        exact ih_7 (v_1 + 1) S_15 H locs ls hM hG (lv_sub hl [0, 1, 2, 3, 4, 5, 6] rfl)
  exact loop_6 FU 0 S0 H locs ls hc_4 hG (lv_sub hl [0, 1, 2, 3, 4, 5, 6] rfl)
def mX0_countTail_48_109 (r_34 : Int) (v_18 : Int) (v_8 : Int) (x_3 : Int) (x_1 : Int) (a1 : Int) (a2 : Int) : Nat → Int → St → Option (St)
  | 0, _, _ => none
  | f + 1, v_35, S_36 => gd (inL r_34) <| if r_34 ≤ 0 then (some (S_36)) else (bd1 (mX0_letterTop_48 S_36 (a2 - v_8)) fun r_46 => gd ((inI v_35) ∧ (inI r_46)) <| if r_46 < v_35 then (some (S_36)) else (gd (0 ≤ (((x_3 * 64) + ((a2 - v_8) * 8)) + v_35) ∧ (((x_3 * 64) + ((a2 - v_8) * 8)) + v_35) < 1536) <| nx (S_36 50 (((x_3 * 64) + ((a2 - v_8) * 8)) + v_35)) fun x_50 => gd (0 ≤ ((x_1 + v_18) + v_35) ∧ ((x_1 + v_18) + v_35) < 1536) <| bd1 (mX11_times r_34 x_50) fun r_53 => bd1 (mX11_plus (S_36 50 ((x_1 + v_18) + v_35)) r_53) fun r_55 => nx (up S_36 50 ((x_1 + v_18) + v_35) r_55) fun S_56 => mX0_countTail_48_109 r_34 v_18 v_8 x_3 x_1 a1 a2 f (v_35 + 1) S_56))
def mX0_countTail_48_65 (v_8 : Int) (x_3 : Int) (x_1 : Int) (a1 : Int) (a2 : Int) : Nat → Int → St → Option (St)
  | 0, _, _ => none
  | f + 1, v_18, S_19 => bd1 (mX0_letterTop_48 S_19 v_8) fun r_27 => gd ((inI v_18) ∧ (inI r_27)) <| if r_27 < v_18 then (some (S_19)) else (gd (0 ≤ (((a1 * 64) + (v_8 * 8)) + v_18) ∧ (((a1 * 64) + (v_8 * 8)) + v_18) < 1536) <| bd1 (mX0_weight_48 S_19 a2 v_8) fun r_32 => bd1 (mX11_times (S_19 49 (((a1 * 64) + (v_8 * 8)) + v_18)) r_32) fun r_34 => bd1 (mX0_countTail_48_109 r_34 v_18 v_8 x_3 x_1 a1 a2 FU 0 S_19) fun S_37 => mX0_countTail_48_65 v_8 x_3 x_1 a1 a2 f (v_18 + 1) S_37)
def mX0_countTail_48_56 (x_3 : Int) (x_1 : Int) (a1 : Int) (a2 : Int) : Nat → Int → St → Option (St)
  | 0, _, _ => none
  | f + 1, v_8, S_9 => gd ((inI v_8) ∧ (inI a2)) <| if a2 < v_8 then (some (S_9)) else (bd1 (mX0_countTail_48_65 v_8 x_3 x_1 a1 a2 FU 0 S_9) fun S_20 => mX0_countTail_48_56 x_3 x_1 a1 a2 f (v_8 + 1) S_20)
def mX0_countTail_48 (S0 : St) (a1 : Int) (a2 : Int) : Option (St) := nx ((a1 * 64) + (a2 * 8)) fun x_1 => gd (0 ≤ a1 ∧ a1 < 24) <| nx (S0 6 a1) fun x_3 => gd (inI x_3) <| if x_3 = (-1) then (bd1 (mX0_copyCells_48_49_50 S0 x_1 x_1 a2) fun S_58 => some (S_58)) else (bd1 (mX0_clearCells_48_50 S0 x_1 a2) fun S_7 => bd1 (mX0_countTail_48_56 x_3 x_1 a1 a2 FU 0 S_7) fun S_10 => some (S_10))
set_option maxHeartbeats 4000000 in
set_option maxRecDepth 100000 in
theorem vX0_countTail_48 (l : Launch) {D : va_G} {cy : Nat → ClassId} {b n : Nat} (hn : 102 ≤ n) {X : Nat → va_E} {S0 : St} (a1 : Int) (a2 : Int) {o1 : St} (hM : mX0_countTail_48 S0 a1 a2 = some o1) : gV l yX0_countTail cX0_countTail 12 2 0 0 D cy b n (enc b cy X S0) [.ref (b + 48), .int (iI a1), .int (iI a2)] (fun u => u = (n, enc b cy X o1)) := by
  refine gV_of (by decide) (Nat.le_of_ble_eq_true rfl) ?_
  intro p e s m args below meth c S hr hlk hin hsz ls hl hG
  have hx := S.1
  have hb := S.2.1
  have hl : lv_has ls 12 [(0, .ref (b + 48)), (1, .int (iI a1)), (2, .int (iI a2))] := hl
  replace hG : gW D cy b n s s.heap [] (enc b cy X S0) := hG
  obtain ⟨H, eH⟩ : ∃ H, H = s.heap := ⟨_, rfl⟩
  obtain ⟨locs, elocs⟩ : ∃ locs : List Loc, locs = [] := ⟨_, rfl⟩
  rw [← eH, ← elocs] at hG
  rw [← eH, ← elocs]
  clear eH elocs
  unfold mX0_countTail_48 at hM
  refine lv_iload_n hx hb dX0_countTail_0 rfl (lv_at hl 1 rfl) ?_
  refine lv_bipush (v := iI 64) hx hb dX0_countTail_1 (by decide) ?_
  refine gi_mul hx hb dX0_countTail_3 ?_
  refine lv_iload_n hx hb dX0_countTail_4 rfl (lv_at hl 2 rfl) ?_
  refine lv_bipush (v := iI 8) hx hb dX0_countTail_5 (by decide) ?_
  refine gi_mul hx hb dX0_countTail_7 ?_
  refine gi_add hx hb dX0_countTail_8 ?_
  refine gi_nm (fun x_1 ex_1 => ?_)
  replace hM := nx_at hM ex_1
  clear ex_1
  refine lv_istore_n (lv' := [(3, .int (iI x_1)), (0, .ref (b + 48)), (1, .int (iI a1)), (2, .int (iI a2))]) hx hb dX0_countTail_9 rfl hl (by decide) rfl (fun ls hl => ?_)
  refine lv_aload_n hx hb dX0_countTail_10 rfl (lv_at hl 1 rfl) ?_
  refine m_get S hG 48 48 0 rfl ec_48 cpX0 wm_403 dX0_countTail_11 rfl (Nat.lt_of_lt_of_le (Nat.le_of_ble_eq_true rfl) hn) (by decide) ?_
  refine m_get S hG 2 2 8 rfl ec_2 cpX2 wm_259 dX0_countTail_14 rfl (Nat.lt_of_lt_of_le (Nat.le_of_ble_eq_true rfl) hn) (by decide) ?_
  refine lv_iload_n hx hb dX0_countTail_17 rfl (lv_at hl 2 rfl) ?_
  obtain ⟨hg_2, hM⟩ := gd_some hM
  refine mi_ald S hG 6 6 rfl ec_6 (Nat.lt_of_lt_of_le (Nat.le_of_ble_eq_true rfl) hn) dX0_countTail_18 hg_2 (by decide) ?_
  refine gi_nm (fun x_3 ex_3 => ?_)
  replace hM := nx_at hM ex_3
  clear ex_3
  refine lv_istore (lv' := [(4, .int (iI x_3)), (3, .int (iI x_1)), (0, .ref (b + 48)), (1, .int (iI a1)), (2, .int (iI a2))]) hx hb dX0_countTail_19 hl (by decide) rfl (fun ls hl => ?_)
  refine lv_iload hx hb dX0_countTail_21 (lv_at hl 0 rfl) ?_
  refine lv_iconst (v := iI (-1)) hx hb dX0_countTail_23 (by decide) ?_
  obtain ⟨hg_4, hM⟩ := gd_some hM
  refine gi_icmp_ne (tgt := 43) hx hb dX0_countTail_24 (by decide) hg_4 (by decide) (fun c_5 => ?_) (fun c_5 => ?_)
  · replace hM := ifn hM c_5
    refine lv_aload_n hx hb dX0_countTail_43 rfl (lv_at hl 2 rfl) ?_
    refine lv_aload_n hx hb dX0_countTail_44 rfl (lv_at hl 2 rfl) ?_
    refine m_get S hG 48 48 3 rfl ec_48 cpX0 wm_406 dX0_countTail_45 rfl (Nat.lt_of_lt_of_le (Nat.le_of_ble_eq_true rfl) hn) (by decide) ?_
    refine lv_iload_n hx hb dX0_countTail_48 rfl (lv_at hl 1 rfl) ?_
    refine lv_iload_n hx hb dX0_countTail_49 rfl (lv_at hl 4 rfl) ?_
    obtain ⟨S_7, hc_6, hM⟩ := bd1_some hM
    refine g_vv (As := [.ref (b + 50), .int (iI x_1), .int (iI a2)]) (rest := []) S hG hsz (vX0_clearCells_48_50 l hn x_1 a2 hc_6) wV_0_129 (ec_48 _) cpX0 (Nat.lt_of_lt_of_le (Nat.le_of_ble_eq_true rfl) hn) dX0_countTail_50 rfl hl.1 (ar := 3) (by decide +kernel) rfl ⟨Nat.le_of_ble_eq_true rfl, Nat.le_of_ble_eq_true rfl, Nat.le_of_ble_eq_true rfl, Nat.le_of_ble_eq_true rfl⟩ (Nat.le_of_ble_eq_true rfl) (fun uu H locs hp hG => ?_)
    obtain rfl := hp
    replace hG : gW D cy b n s H locs (enc b cy X S_7) := hG
    refine lv_iconst (v := iI 0) hx hb dX0_countTail_53 (by decide) ?_
    refine lv_istore (lv' := [(5, .int (iI 0)), (4, .int (iI x_3)), (3, .int (iI x_1)), (0, .ref (b + 48)), (1, .int (iI a1)), (2, .int (iI a2))]) hx hb dX0_countTail_54 hl (by decide) rfl (fun ls hl => ?_)
    obtain ⟨S_10, hc_11, hM⟩ := bd1_some hM
    have hK_12 : ∀ (H : Heap) (locs : List Loc) (ls : Array Slot), gW D cy b n s H locs (enc b cy X S_10) → lv_has ls 12 [] → W p l e (gRm 2 0 0) s m args below meth c H locs 0 0 (gQV D cy b s args below 0 0 (fun u => u = (n, enc b cy X o1))) (F0 m 204 ls []) := by
      intro H locs ls hG hl
      cases hM
      exact g_vret S hr hlk hG hsz dX0_countTail_204 ⟨Nat.le_of_ble_eq_true rfl, Nat.le_of_ble_eq_true rfl⟩ rfl
    have loop_13 : ∀ (f : Nat) (v_8 : Int) (S_9 : St) (H : Heap) (locs : List Loc) (ls : Array Slot), mX0_countTail_48_56 x_3 x_1 a1 a2 f v_8 S_9 = some S_10 → gW D cy b n s H locs (enc b cy X S_9) → lv_has ls 12 [(5, .int (iI v_8)), (4, .int (iI x_3)), (3, .int (iI x_1)), (0, .ref (b + 48)), (1, .int (iI a1)), (2, .int (iI a2))] → W p l e (gRm 2 0 0) s m args below meth c H locs 0 0 (gQV D cy b s args below 0 0 (fun u => u = (n, enc b cy X o1))) (F0 m 56 ls []) := by
      clear hM
      intro f
      induction f with
      | zero => intro v_8 S_9 H locs ls hM; rw [mX0_countTail_48_56] at hM; cases hM
      | succ f_15 ih_14 =>
        intro v_8 S_9 H locs ls hM hG hl
        rw [mX0_countTail_48_56] at hM
        refine lv_iload hx hb dX0_countTail_56 (lv_at hl 0 rfl) ?_
        refine lv_iload_n hx hb dX0_countTail_58 rfl (lv_at hl 5 rfl) ?_
        obtain ⟨hg_16, hM⟩ := gd_some hM
        refine gi_icmp_gt (tgt := 204) hx hb dX0_countTail_59 (by decide) hg_16.1 hg_16.2 (fun c_17 => ?_) (fun c_17 => ?_)
        · replace hM := ifp hM c_17
          cases hM
          exact hK_12 H locs ls hG (lv_sub hl [] rfl)
        · replace hM := ifn hM c_17
          refine lv_iconst (v := iI 0) hx hb dX0_countTail_62 (by decide) ?_
          refine lv_istore (lv' := [(6, .int (iI 0)), (5, .int (iI v_8)), (4, .int (iI x_3)), (3, .int (iI x_1)), (0, .ref (b + 48)), (1, .int (iI a1)), (2, .int (iI a2))]) hx hb dX0_countTail_63 hl (by decide) rfl (fun ls hl => ?_)
          obtain ⟨S_20, hc_21, hM⟩ := bd1_some hM
          have hK_22 : ∀ (H : Heap) (locs : List Loc) (ls : Array Slot), gW D cy b n s H locs (enc b cy X S_20) → lv_has ls 12 [(5, .int (iI v_8)), (4, .int (iI x_3)), (3, .int (iI x_1)), (0, .ref (b + 48)), (1, .int (iI a1)), (2, .int (iI a2))] → W p l e (gRm 2 0 0) s m args below meth c H locs 0 0 (gQV D cy b s args below 0 0 (fun u => u = (n, enc b cy X o1))) (F0 m 198 ls []) := by
            intro H locs ls hG hl
            refine lv_iinc (v := iI (v_8 + 1)) (lv' := [(5, .int (iI (v_8 + 1))), (4, .int (iI x_3)), (3, .int (iI x_1)), (0, .ref (b + 48)), (1, .int (iI a1)), (2, .int (iI a2))]) hx hb dX0_countTail_198 hl (k := 0) rfl ((iI_add v_8 (1)).trans (congrArg iI (by omega))) (by decide) rfl (fun ls hl => ?_)
            refine lv_goto (tgt := 56) hx hb dX0_countTail_201 (by decide) ?_
            exact ih_14 (v_8 + 1) S_20 H locs ls hM hG (lv_sub hl [0, 1, 2, 3, 4, 5] rfl)
          have loop_23 : ∀ (f : Nat) (v_18 : Int) (S_19 : St) (H : Heap) (locs : List Loc) (ls : Array Slot), mX0_countTail_48_65 v_8 x_3 x_1 a1 a2 f v_18 S_19 = some S_20 → gW D cy b n s H locs (enc b cy X S_19) → lv_has ls 12 [(6, .int (iI v_18)), (5, .int (iI v_8)), (4, .int (iI x_3)), (3, .int (iI x_1)), (0, .ref (b + 48)), (1, .int (iI a1)), (2, .int (iI a2))] → W p l e (gRm 2 0 0) s m args below meth c H locs 0 0 (gQV D cy b s args below 0 0 (fun u => u = (n, enc b cy X o1))) (F0 m 65 ls []) := by
            clear hM
            intro f
            induction f with
            | zero => intro v_18 S_19 H locs ls hM; rw [mX0_countTail_48_65] at hM; cases hM
            | succ f_25 ih_24 =>
              intro v_18 S_19 H locs ls hM hG hl
              rw [mX0_countTail_48_65] at hM
              refine lv_iload hx hb dX0_countTail_65 (lv_at hl 0 rfl) ?_
              refine lv_aload_n hx hb dX0_countTail_67 rfl (lv_at hl 4 rfl) ?_
              refine lv_iload hx hb dX0_countTail_68 (lv_at hl 1 rfl) ?_
              obtain ⟨r_27, hc_26, hM⟩ := bd1_some hM
              refine g_vi (As := [.int (iI v_8)]) (rest := [.int (iI v_18)]) S hG hsz (vX0_letterTop_48 l hn v_8 hc_26) wV_0_108 (ec_48 _) cpX0 (Nat.lt_of_lt_of_le (Nat.le_of_ble_eq_true rfl) hn) dX0_countTail_70 rfl hl.1 (ar := 1) (by decide +kernel) rfl ⟨Nat.le_of_ble_eq_true rfl, Nat.le_of_ble_eq_true rfl, Nat.le_of_ble_eq_true rfl, Nat.le_of_ble_eq_true rfl⟩ (Nat.le_of_ble_eq_true rfl) (fun rv uu H locs hp hG => ?_)
              obtain ⟨rfl, rfl⟩ := hp
              replace hG : gW D cy b n s H locs (enc b cy X S_19) := hG
              obtain ⟨hg_28, hM⟩ := gd_some hM
              refine gi_icmp_gt (tgt := 198) hx hb dX0_countTail_73 (by decide) hg_28.1 hg_28.2 (fun c_29 => ?_) (fun c_29 => ?_)
              · replace hM := ifp hM c_29
                cases hM
                exact hK_22 H locs ls hG (lv_sub hl [1, 2, 3, 4, 5, 6] rfl)
              · replace hM := ifn hM c_29
                refine lv_aload_n hx hb dX0_countTail_76 rfl (lv_at hl 4 rfl) ?_
                refine m_get S hG 48 48 2 rfl ec_48 cpX0 wm_405 dX0_countTail_77 rfl (Nat.lt_of_lt_of_le (Nat.le_of_ble_eq_true rfl) hn) (by decide) ?_
                refine lv_iload_n hx hb dX0_countTail_80 rfl (lv_at hl 5 rfl) ?_
                refine lv_bipush (v := iI 64) hx hb dX0_countTail_81 (by decide) ?_
                refine gi_mul hx hb dX0_countTail_83 ?_
                refine lv_iload hx hb dX0_countTail_84 (lv_at hl 1 rfl) ?_
                refine lv_bipush (v := iI 8) hx hb dX0_countTail_86 (by decide) ?_
                refine gi_mul hx hb dX0_countTail_88 ?_
                refine gi_add hx hb dX0_countTail_89 ?_
                refine lv_iload hx hb dX0_countTail_90 (lv_at hl 0 rfl) ?_
                refine gi_add hx hb dX0_countTail_92 ?_
                obtain ⟨hg_30, hM⟩ := gd_some hM
                refine mj_ald S hG 49 49 rfl ec_49 (Nat.lt_of_lt_of_le (Nat.le_of_ble_eq_true rfl) hn) dX0_countTail_93 hg_30 (by decide) ?_
                refine lv_aload_n hx hb dX0_countTail_94 rfl (lv_at hl 4 rfl) ?_
                refine lv_iload_n hx hb dX0_countTail_95 rfl (lv_at hl 6 rfl) ?_
                refine lv_iload hx hb dX0_countTail_96 (lv_at hl 1 rfl) ?_
                obtain ⟨r_32, hc_31, hM⟩ := bd1_some hM
                refine g_vl (As := [.int (iI a2), .int (iI v_8)]) (rest := [.long (jJ (S_19 49 (((a1 * 64) + (v_8 * 8)) + v_18)))]) S hG hsz (vX0_weight_48 l hn a2 v_8 hc_31) wV_0_139 (ec_48 _) cpX0 (Nat.lt_of_lt_of_le (Nat.le_of_ble_eq_true rfl) hn) dX0_countTail_98 rfl hl.1 (ar := 2) (by decide +kernel) rfl ⟨Nat.le_of_ble_eq_true rfl, Nat.le_of_ble_eq_true rfl, Nat.le_of_ble_eq_true rfl, Nat.le_of_ble_eq_true rfl⟩ (Nat.le_of_ble_eq_true rfl) (fun rv uu H locs hp hG => ?_)
                obtain ⟨rfl, rfl⟩ := hp
                replace hG : gW D cy b n s H locs (enc b cy X S_19) := hG
                obtain ⟨r_34, hc_33, hM⟩ := bd1_some hM
                refine g_slN (As := [.long (jJ (S_19 49 (((a1 * 64) + (v_8 * 8)) + v_18))), .long (jJ r_32)]) (rest := []) S hG hsz (vX11_times l hn (S_19 49 (((a1 * 64) + (v_8 * 8)) + v_18)) r_32 hc_33) (y := yX11_times) (host := "GrownKinds") (by decide +kernel) ⟨wm_1053, wm_177, wm_1054, by decide +kernel, by decide +kernel⟩ dX0_countTail_101 rfl hl.1 (ar := 2) (by decide +kernel) rfl ⟨Nat.le_of_ble_eq_true rfl, Nat.le_of_ble_eq_true rfl, Nat.le_of_ble_eq_true rfl, Nat.le_of_ble_eq_true rfl⟩ (Nat.le_of_ble_eq_true rfl) (fun rv uu H locs hp hG => ?_)
                obtain ⟨rfl, rfl⟩ := hp
                replace hG : gW D cy b n s H locs (enc b cy X S_19) := hG
                refine lv_lstore (lv' := [(7, .long (jJ r_34)), (6, .int (iI v_18)), (5, .int (iI v_8)), (4, .int (iI x_3)), (3, .int (iI x_1)), (0, .ref (b + 48)), (1, .int (iI a1)), (2, .int (iI a2))]) hx hb dX0_countTail_104 hl (by decide) rfl (fun ls hl => ?_)
                refine lv_iconst (v := iI 0) hx hb dX0_countTail_106 (by decide) ?_
                refine lv_istore (lv' := [(9, .int (iI 0)), (7, .long (jJ r_34)), (6, .int (iI v_18)), (5, .int (iI v_8)), (4, .int (iI x_3)), (3, .int (iI x_1)), (0, .ref (b + 48)), (1, .int (iI a1)), (2, .int (iI a2))]) hx hb dX0_countTail_107 hl (by decide) rfl (fun ls hl => ?_)
                obtain ⟨S_37, hc_38, hM⟩ := bd1_some hM
                have hK_39 : ∀ (H : Heap) (locs : List Loc) (ls : Array Slot), gW D cy b n s H locs (enc b cy X S_37) → lv_has ls 12 [(6, .int (iI v_18)), (5, .int (iI v_8)), (4, .int (iI x_3)), (3, .int (iI x_1)), (0, .ref (b + 48)), (1, .int (iI a1)), (2, .int (iI a2))] → W p l e (gRm 2 0 0) s m args below meth c H locs 0 0 (gQV D cy b s args below 0 0 (fun u => u = (n, enc b cy X o1))) (F0 m 192 ls []) := by
                  intro H locs ls hG hl
                  refine lv_iinc (v := iI (v_18 + 1)) (lv' := [(6, .int (iI (v_18 + 1))), (5, .int (iI v_8)), (4, .int (iI x_3)), (3, .int (iI x_1)), (0, .ref (b + 48)), (1, .int (iI a1)), (2, .int (iI a2))]) hx hb dX0_countTail_192 hl (k := 0) rfl ((iI_add v_18 (1)).trans (congrArg iI (by omega))) (by decide) rfl (fun ls hl => ?_)
                  refine lv_goto (tgt := 65) hx hb dX0_countTail_195 (by decide) ?_
                  exact ih_24 (v_18 + 1) S_37 H locs ls hM hG (lv_sub hl [0, 1, 2, 3, 4, 5, 6] rfl)
                have loop_40 : ∀ (f : Nat) (v_35 : Int) (S_36 : St) (H : Heap) (locs : List Loc) (ls : Array Slot), mX0_countTail_48_109 r_34 v_18 v_8 x_3 x_1 a1 a2 f v_35 S_36 = some S_37 → gW D cy b n s H locs (enc b cy X S_36) → lv_has ls 12 [(9, .int (iI v_35)), (7, .long (jJ r_34)), (6, .int (iI v_18)), (5, .int (iI v_8)), (4, .int (iI x_3)), (3, .int (iI x_1)), (0, .ref (b + 48)), (1, .int (iI a1)), (2, .int (iI a2))] → W p l e (gRm 2 0 0) s m args below meth c H locs 0 0 (gQV D cy b s args below 0 0 (fun u => u = (n, enc b cy X o1))) (F0 m 109 ls []) := by
                  clear hM
                  intro f
                  induction f with
                  | zero => intro v_35 S_36 H locs ls hM; rw [mX0_countTail_48_109] at hM; cases hM
                  | succ f_42 ih_41 =>
                    intro v_35 S_36 H locs ls hM hG hl
                    rw [mX0_countTail_48_109] at hM
                    refine lv_lload hx hb dX0_countTail_109 (lv_at hl 1 rfl) ?_
                    refine lv_lconst (v := jJ 0) hx hb dX0_countTail_111 (by decide) ?_
                    obtain ⟨hg_43, hM⟩ := gd_some hM
                    refine gj_cmp_le (tgt := 192) hx hb dX0_countTail_112 dX0_countTail_113 (by decide) hg_43 (by decide) (fun c_44 => ?_) (fun c_44 => ?_)
                    · replace hM := ifp hM c_44
                      cases hM
                      exact hK_39 H locs ls hG (lv_sub hl [2, 3, 4, 5, 6, 7, 8] rfl)
                    · replace hM := ifn hM c_44
                      refine lv_iload hx hb dX0_countTail_116 (lv_at hl 0 rfl) ?_
                      refine lv_aload_n hx hb dX0_countTail_118 rfl (lv_at hl 6 rfl) ?_
                      refine lv_iload_n hx hb dX0_countTail_119 rfl (lv_at hl 8 rfl) ?_
                      refine lv_iload hx hb dX0_countTail_120 (lv_at hl 3 rfl) ?_
                      refine gi_sub hx hb dX0_countTail_122 ?_
                      obtain ⟨r_46, hc_45, hM⟩ := bd1_some hM
                      refine g_vi (As := [.int (iI (a2 - v_8))]) (rest := [.int (iI v_35)]) S hG hsz (vX0_letterTop_48 l hn (a2 - v_8) hc_45) wV_0_108 (ec_48 _) cpX0 (Nat.lt_of_lt_of_le (Nat.le_of_ble_eq_true rfl) hn) dX0_countTail_123 rfl hl.1 (ar := 1) (by decide +kernel) rfl ⟨Nat.le_of_ble_eq_true rfl, Nat.le_of_ble_eq_true rfl, Nat.le_of_ble_eq_true rfl, Nat.le_of_ble_eq_true rfl⟩ (Nat.le_of_ble_eq_true rfl) (fun rv uu H locs hp hG => ?_)
                      obtain ⟨rfl, rfl⟩ := hp
                      replace hG : gW D cy b n s H locs (enc b cy X S_36) := hG
                      obtain ⟨hg_47, hM⟩ := gd_some hM
                      refine gi_icmp_gt (tgt := 192) hx hb dX0_countTail_126 (by decide) hg_47.1 hg_47.2 (fun c_48 => ?_) (fun c_48 => ?_)
                      · replace hM := ifp hM c_48
                        cases hM
                        exact hK_39 H locs ls hG (lv_sub hl [2, 3, 4, 5, 6, 7, 8] rfl)
                      · replace hM := ifn hM c_48
                        refine lv_aload_n hx hb dX0_countTail_129 rfl (lv_at hl 6 rfl) ?_
                        refine m_get S hG 48 48 3 rfl ec_48 cpX0 wm_406 dX0_countTail_130 rfl (Nat.lt_of_lt_of_le (Nat.le_of_ble_eq_true rfl) hn) (by decide) ?_
                        refine lv_iload hx hb dX0_countTail_133 (lv_at hl 4 rfl) ?_
                        refine lv_bipush (v := iI 64) hx hb dX0_countTail_135 (by decide) ?_
                        refine gi_mul hx hb dX0_countTail_137 ?_
                        refine lv_iload_n hx hb dX0_countTail_138 rfl (lv_at hl 8 rfl) ?_
                        refine lv_iload hx hb dX0_countTail_139 (lv_at hl 3 rfl) ?_
                        refine gi_sub hx hb dX0_countTail_141 ?_
                        refine lv_bipush (v := iI 8) hx hb dX0_countTail_142 (by decide) ?_
                        refine gi_mul hx hb dX0_countTail_144 ?_
                        refine gi_add hx hb dX0_countTail_145 ?_
                        refine lv_iload hx hb dX0_countTail_146 (lv_at hl 0 rfl) ?_
                        refine gi_add hx hb dX0_countTail_148 ?_
                        obtain ⟨hg_49, hM⟩ := gd_some hM
                        refine mj_ald S hG 50 50 rfl ec_50 (Nat.lt_of_lt_of_le (Nat.le_of_ble_eq_true rfl) hn) dX0_countTail_149 hg_49 (by decide) ?_
                        refine gj_nm (fun x_50 ex_50 => ?_)
                        replace hM := nx_at hM ex_50
                        clear ex_50
                        refine lv_lstore (lv' := [(10, .long (jJ x_50)), (9, .int (iI v_35)), (7, .long (jJ r_34)), (6, .int (iI v_18)), (5, .int (iI v_8)), (4, .int (iI x_3)), (3, .int (iI x_1)), (0, .ref (b + 48)), (1, .int (iI a1)), (2, .int (iI a2))]) hx hb dX0_countTail_150 hl (by decide) rfl (fun ls hl => ?_)
                        refine lv_aload_n hx hb dX0_countTail_152 rfl (lv_at hl 7 rfl) ?_
                        refine m_get S hG 48 48 3 rfl ec_48 cpX0 wm_406 dX0_countTail_153 rfl (Nat.lt_of_lt_of_le (Nat.le_of_ble_eq_true rfl) hn) (by decide) ?_
                        refine lv_iload_n hx hb dX0_countTail_156 rfl (lv_at hl 6 rfl) ?_
                        refine lv_iload hx hb dX0_countTail_157 (lv_at hl 3 rfl) ?_
                        refine gi_add hx hb dX0_countTail_159 ?_
                        refine lv_iload hx hb dX0_countTail_160 (lv_at hl 1 rfl) ?_
                        refine gi_add hx hb dX0_countTail_162 ?_
                        refine lv_aload_n hx hb dX0_countTail_163 rfl (lv_at hl 7 rfl) ?_
                        refine m_get S hG 48 48 3 rfl ec_48 cpX0 wm_406 dX0_countTail_164 rfl (Nat.lt_of_lt_of_le (Nat.le_of_ble_eq_true rfl) hn) (by decide) ?_
                        refine lv_iload_n hx hb dX0_countTail_167 rfl (lv_at hl 6 rfl) ?_
                        refine lv_iload hx hb dX0_countTail_168 (lv_at hl 3 rfl) ?_
                        refine gi_add hx hb dX0_countTail_170 ?_
                        refine lv_iload hx hb dX0_countTail_171 (lv_at hl 1 rfl) ?_
                        refine gi_add hx hb dX0_countTail_173 ?_
                        obtain ⟨hg_51, hM⟩ := gd_some hM
                        refine mj_ald S hG 50 50 rfl ec_50 (Nat.lt_of_lt_of_le (Nat.le_of_ble_eq_true rfl) hn) dX0_countTail_174 hg_51 (by decide) ?_
                        refine lv_lload hx hb dX0_countTail_175 (lv_at hl 2 rfl) ?_
                        refine lv_lload hx hb dX0_countTail_177 (lv_at hl 0 rfl) ?_
                        obtain ⟨r_53, hc_52, hM⟩ := bd1_some hM
                        refine g_slN (As := [.long (jJ r_34), .long (jJ x_50)]) (rest := [.long (jJ (S_36 50 ((x_1 + v_18) + v_35))), .int (iI ((x_1 + v_18) + v_35)), .ref (b + 50)]) S hG hsz (vX11_times l hn r_34 x_50 hc_52) (y := yX11_times) (host := "GrownKinds") (by decide +kernel) ⟨wm_1053, wm_177, wm_1054, by decide +kernel, by decide +kernel⟩ dX0_countTail_179 rfl hl.1 (ar := 2) (by decide +kernel) rfl ⟨Nat.le_of_ble_eq_true rfl, Nat.le_of_ble_eq_true rfl, Nat.le_of_ble_eq_true rfl, Nat.le_of_ble_eq_true rfl⟩ (Nat.le_of_ble_eq_true rfl) (fun rv uu H locs hp hG => ?_)
                        obtain ⟨rfl, rfl⟩ := hp
                        replace hG : gW D cy b n s H locs (enc b cy X S_36) := hG
                        obtain ⟨r_55, hc_54, hM⟩ := bd1_some hM
                        refine g_slN (As := [.long (jJ (S_36 50 ((x_1 + v_18) + v_35))), .long (jJ r_53)]) (rest := [.int (iI ((x_1 + v_18) + v_35)), .ref (b + 50)]) S hG hsz (vX11_plus l hn (S_36 50 ((x_1 + v_18) + v_35)) r_53 hc_54) (y := yX11_plus) (host := "GrownKinds") (by decide +kernel) ⟨wm_997, wm_177, wm_998, by decide +kernel, by decide +kernel⟩ dX0_countTail_182 rfl hl.1 (ar := 2) (by decide +kernel) rfl ⟨Nat.le_of_ble_eq_true rfl, Nat.le_of_ble_eq_true rfl, Nat.le_of_ble_eq_true rfl, Nat.le_of_ble_eq_true rfl⟩ (Nat.le_of_ble_eq_true rfl) (fun rv uu H locs hp hG => ?_)
                        obtain ⟨rfl, rfl⟩ := hp
                        replace hG : gW D cy b n s H locs (enc b cy X S_36) := hG
                        refine mj_ast S hG 50 50 rfl ec_50 (Nat.lt_of_lt_of_le (Nat.le_of_ble_eq_true rfl) hn) dX0_countTail_185 hg_51 (by decide) (fun H locs S_56 eS_56 hG => ?_)
                        replace hM := nx_at hM eS_56
                        clear eS_56
                        refine lv_iinc (v := iI (v_35 + 1)) (lv' := [(9, .int (iI (v_35 + 1))), (10, .long (jJ x_50)), (7, .long (jJ r_34)), (6, .int (iI v_18)), (5, .int (iI v_8)), (4, .int (iI x_3)), (3, .int (iI x_1)), (0, .ref (b + 48)), (1, .int (iI a1)), (2, .int (iI a2))]) hx hb dX0_countTail_186 hl (k := 1) rfl ((iI_add v_35 (1)).trans (congrArg iI (by omega))) (by decide) rfl (fun ls hl => ?_)
                        refine lv_goto (tgt := 109) hx hb dX0_countTail_189 (by decide) ?_
                        exact ih_41 (v_35 + 1) S_56 H locs ls hM hG (lv_sub hl [0, 2, 3, 4, 5, 6, 7, 8, 9] rfl)
                exact loop_40 FU 0 S_19 H locs ls hc_38 hG (lv_sub hl [0, 1, 2, 3, 4, 5, 6, 7, 8] rfl)
          exact loop_23 FU 0 S_9 H locs ls hc_21 hG (lv_sub hl [0, 1, 2, 3, 4, 5, 6] rfl)
    exact loop_13 FU 0 S_7 H locs ls hc_11 hG (lv_sub hl [0, 1, 2, 3, 4, 5] rfl)
  · replace hM := ifp hM c_5
    refine lv_aload_n hx hb dX0_countTail_27 rfl (lv_at hl 2 rfl) ?_
    refine lv_aload_n hx hb dX0_countTail_28 rfl (lv_at hl 2 rfl) ?_
    refine m_get S hG 48 48 2 rfl ec_48 cpX0 wm_405 dX0_countTail_29 rfl (Nat.lt_of_lt_of_le (Nat.le_of_ble_eq_true rfl) hn) (by decide) ?_
    refine lv_iload_n hx hb dX0_countTail_32 rfl (lv_at hl 1 rfl) ?_
    refine lv_aload_n hx hb dX0_countTail_33 rfl (lv_at hl 2 rfl) ?_
    refine m_get S hG 48 48 3 rfl ec_48 cpX0 wm_406 dX0_countTail_34 rfl (Nat.lt_of_lt_of_le (Nat.le_of_ble_eq_true rfl) hn) (by decide) ?_
    refine lv_iload_n hx hb dX0_countTail_37 rfl (lv_at hl 1 rfl) ?_
    refine lv_iload_n hx hb dX0_countTail_38 rfl (lv_at hl 4 rfl) ?_
    obtain ⟨S_58, hc_57, hM⟩ := bd1_some hM
    refine g_vv (As := [.ref (b + 49), .int (iI x_1), .ref (b + 50), .int (iI x_1), .int (iI a2)]) (rest := []) S hG hsz (vX0_copyCells_48_49_50 l hn x_1 x_1 a2 hc_57) wV_0_118 (ec_48 _) cpX0 (Nat.lt_of_lt_of_le (Nat.le_of_ble_eq_true rfl) hn) dX0_countTail_39 rfl hl.1 (ar := 5) (by decide +kernel) rfl ⟨Nat.le_of_ble_eq_true rfl, Nat.le_of_ble_eq_true rfl, Nat.le_of_ble_eq_true rfl, Nat.le_of_ble_eq_true rfl⟩ (Nat.le_of_ble_eq_true rfl) (fun uu H locs hp hG => ?_)
    obtain rfl := hp
    replace hG : gW D cy b n s H locs (enc b cy X S_58) := hG
    cases hM
    exact g_vret S hr hlk hG hsz dX0_countTail_42 ⟨Nat.le_of_ble_eq_true rfl, Nat.le_of_ble_eq_true rfl⟩ rfl
def mX0_clearCells_48_49_3 (a2 : Int) (a3 : Int) : Nat → Int → St → Option (St)
  | 0, _, _ => none
  | f + 1, v_1, S_2 => bd1 (mX0_letterTop_48 S_2 a3) fun r_10 => gd ((inI v_1) ∧ (inI r_10)) <| if r_10 < v_1 then (some (S_2)) else (gd (0 ≤ (a2 + v_1) ∧ (a2 + v_1) < 1536) <| nx (up S_2 49 (a2 + v_1) 0) fun S_14 => mX0_clearCells_48_49_3 a2 a3 f (v_1 + 1) S_14)
def mX0_clearCells_48_49 (S0 : St) (a2 : Int) (a3 : Int) : Option (St) := bd1 (mX0_clearCells_48_49_3 a2 a3 FU 0 S0) fun S_3 => some (S_3)
set_option maxHeartbeats 4000000 in
set_option maxRecDepth 100000 in
theorem vX0_clearCells_48_49 (l : Launch) {D : va_G} {cy : Nat → ClassId} {b n : Nat} (hn : 102 ≤ n) {X : Nat → va_E} {S0 : St} (a2 : Int) (a3 : Int) {o1 : St} (hM : mX0_clearCells_48_49 S0 a2 a3 = some o1) : gV l yX0_clearCells cX0_clearCells 5 1 0 0 D cy b n (enc b cy X S0) [.ref (b + 48), .ref (b + 49), .int (iI a2), .int (iI a3)] (fun u => u = (n, enc b cy X o1)) := by
  refine gV_of (by decide) (Nat.le_of_ble_eq_true rfl) ?_
  intro p e s m args below meth c S hr hlk hin hsz ls hl hG
  have hx := S.1
  have hb := S.2.1
  have hl : lv_has ls 5 [(0, .ref (b + 48)), (1, .ref (b + 49)), (2, .int (iI a2)), (3, .int (iI a3))] := hl
  replace hG : gW D cy b n s s.heap [] (enc b cy X S0) := hG
  obtain ⟨H, eH⟩ : ∃ H, H = s.heap := ⟨_, rfl⟩
  obtain ⟨locs, elocs⟩ : ∃ locs : List Loc, locs = [] := ⟨_, rfl⟩
  rw [← eH, ← elocs] at hG
  rw [← eH, ← elocs]
  clear eH elocs
  unfold mX0_clearCells_48_49 at hM
  refine lv_iconst (v := iI 0) hx hb dX0_clearCells_0 (by decide) ?_
  refine lv_istore (lv' := [(4, .int (iI 0)), (0, .ref (b + 48)), (1, .ref (b + 49)), (2, .int (iI a2)), (3, .int (iI a3))]) hx hb dX0_clearCells_1 hl (by decide) rfl (fun ls hl => ?_)
  obtain ⟨S_3, hc_4, hM⟩ := bd1_some hM
  have hK_5 : ∀ (H : Heap) (locs : List Loc) (ls : Array Slot), gW D cy b n s H locs (enc b cy X S_3) → lv_has ls 5 [] → W p l e (gRm 1 0 0) s m args below meth c H locs 0 0 (gQV D cy b s args below 0 0 (fun u => u = (n, enc b cy X o1))) (F0 m 26 ls []) := by
    intro H locs ls hG hl
    cases hM
    exact g_vret S hr hlk hG hsz dX0_clearCells_26 ⟨Nat.le_of_ble_eq_true rfl, Nat.le_of_ble_eq_true rfl⟩ rfl
  have loop_6 : ∀ (f : Nat) (v_1 : Int) (S_2 : St) (H : Heap) (locs : List Loc) (ls : Array Slot), mX0_clearCells_48_49_3 a2 a3 f v_1 S_2 = some S_3 → gW D cy b n s H locs (enc b cy X S_2) → lv_has ls 5 [(4, .int (iI v_1)), (0, .ref (b + 48)), (1, .ref (b + 49)), (2, .int (iI a2)), (3, .int (iI a3))] → W p l e (gRm 1 0 0) s m args below meth c H locs 0 0 (gQV D cy b s args below 0 0 (fun u => u = (n, enc b cy X o1))) (F0 m 3 ls []) := by
    clear hM
    intro f
    induction f with
    | zero => intro v_1 S_2 H locs ls hM; rw [mX0_clearCells_48_49_3] at hM; cases hM
    | succ f_8 ih_7 =>
      intro v_1 S_2 H locs ls hM hG hl
      rw [mX0_clearCells_48_49_3] at hM
      refine lv_iload hx hb dX0_clearCells_3 (lv_at hl 0 rfl) ?_
      refine lv_aload_n hx hb dX0_clearCells_5 rfl (lv_at hl 1 rfl) ?_
      refine lv_iload_n hx hb dX0_clearCells_6 rfl (lv_at hl 4 rfl) ?_
      obtain ⟨r_10, hc_9, hM⟩ := bd1_some hM
      refine g_vi (As := [.int (iI a3)]) (rest := [.int (iI v_1)]) S hG hsz (vX0_letterTop_48 l hn a3 hc_9) wV_0_108 (ec_48 _) cpX0 (Nat.lt_of_lt_of_le (Nat.le_of_ble_eq_true rfl) hn) dX0_clearCells_7 rfl hl.1 (ar := 1) (by decide +kernel) rfl ⟨Nat.le_of_ble_eq_true rfl, Nat.le_of_ble_eq_true rfl, Nat.le_of_ble_eq_true rfl, Nat.le_of_ble_eq_true rfl⟩ (Nat.le_of_ble_eq_true rfl) (fun rv uu H locs hp hG => ?_)
      obtain ⟨rfl, rfl⟩ := hp
      replace hG : gW D cy b n s H locs (enc b cy X S_2) := hG
      obtain ⟨hg_11, hM⟩ := gd_some hM
      refine gi_icmp_gt (tgt := 26) hx hb dX0_clearCells_10 (by decide) hg_11.1 hg_11.2 (fun c_12 => ?_) (fun c_12 => ?_)
      · replace hM := ifp hM c_12
        cases hM
        exact hK_5 H locs ls hG (lv_sub hl [] rfl)
      · replace hM := ifn hM c_12
        refine lv_aload_n hx hb dX0_clearCells_13 rfl (lv_at hl 2 rfl) ?_
        refine lv_iload_n hx hb dX0_clearCells_14 rfl (lv_at hl 3 rfl) ?_
        refine lv_iload hx hb dX0_clearCells_15 (lv_at hl 0 rfl) ?_
        refine gi_add hx hb dX0_clearCells_17 ?_
        refine lv_lconst (v := jJ 0) hx hb dX0_clearCells_18 (by decide) ?_
        obtain ⟨hg_13, hM⟩ := gd_some hM
        refine mj_ast S hG 49 49 rfl ec_49 (Nat.lt_of_lt_of_le (Nat.le_of_ble_eq_true rfl) hn) dX0_clearCells_19 hg_13 (by decide) (fun H locs S_14 eS_14 hG => ?_)
        replace hM := nx_at hM eS_14
        clear eS_14
        refine lv_iinc (v := iI (v_1 + 1)) (lv' := [(4, .int (iI (v_1 + 1))), (0, .ref (b + 48)), (1, .ref (b + 49)), (2, .int (iI a2)), (3, .int (iI a3))]) hx hb dX0_clearCells_20 hl (k := 0) rfl ((iI_add v_1 (1)).trans (congrArg iI (by omega))) (by decide) rfl (fun ls hl => ?_)
        refine lv_goto (tgt := 3) hx hb dX0_clearCells_23 (by decide) ?_
        exact ih_7 (v_1 + 1) S_14 H locs ls hM hG (lv_sub hl [0, 1, 2, 3, 4] rfl)
  exact loop_6 FU 0 S0 H locs ls hc_4 hG (lv_sub hl [0, 1, 2, 3, 4] rfl)
def mX0_inClasses_48 (S0 : St) (a1 : Int) : Option (Int) := gd (inI (S0 48 1)) <| if (S0 48 1) = (-2) then (some (0)) else (gd (0 ≤ a1 ∧ a1 < 24) <| gd (inI (S0 3 a1)) <| if (S0 3 a1) = 4 then (some (1)) else (if (S0 3 a1) = 5 then (some (1)) else (some (0))))
set_option maxHeartbeats 4000000 in
set_option maxRecDepth 100000 in
theorem vX0_inClasses_48 (l : Launch) {D : va_G} {cy : Nat → ClassId} {b n : Nat} (hn : 102 ≤ n) {X : Nat → va_E} {S0 : St} (a1 : Int) {o1 : Int} (hM : mX0_inClasses_48 S0 a1 = some o1) : gI l yX0_inClasses cX0_inClasses 2 (some .boolean) 0 0 0 D cy b n (enc b cy X S0) [.ref (b + 48), .int (iI a1)] (fun r u => r = iI o1 ∧ u = (n, enc b cy X S0)) := by
  refine gI_of (by decide) (Nat.le_of_ble_eq_true rfl) ?_
  intro p e s m args below meth c S hr hlk hin hsz ls hl hG
  have hx := S.1
  have hb := S.2.1
  have hl : lv_has ls 2 [(0, .ref (b + 48)), (1, .int (iI a1))] := hl
  replace hG : gW D cy b n s s.heap [] (enc b cy X S0) := hG
  obtain ⟨H, eH⟩ : ∃ H, H = s.heap := ⟨_, rfl⟩
  obtain ⟨locs, elocs⟩ : ∃ locs : List Loc, locs = [] := ⟨_, rfl⟩
  rw [← eH, ← elocs] at hG
  rw [← eH, ← elocs]
  clear eH elocs
  unfold mX0_inClasses_48 at hM
  refine lv_aload_n hx hb dX0_inClasses_0 rfl (lv_at hl 0 rfl) ?_
  refine m_get S hG 48 48 1 rfl ec_48 cpX0 wm_404 dX0_inClasses_1 rfl (Nat.lt_of_lt_of_le (Nat.le_of_ble_eq_true rfl) hn) (by decide) ?_
  refine lv_bipush (v := iI (-2)) hx hb dX0_inClasses_4 (by decide) ?_
  obtain ⟨hg_1, hM⟩ := gd_some hM
  refine gi_icmp_eq (tgt := 39) hx hb dX0_inClasses_6 (by decide) hg_1 (by decide) (fun c_2 => ?_) (fun c_2 => ?_)
  · replace hM := ifp hM c_2
    refine lv_iconst (v := iI 0) hx hb dX0_inClasses_39 (by decide) ?_
    cases hM
    exact g_zret S hr hlk hG hsz dX0_inClasses_40 ⟨Nat.le_of_ble_eq_true rfl, Nat.le_of_ble_eq_true rfl⟩ (nar_z (by decide)) ⟨rfl, rfl⟩
  · replace hM := ifn hM c_2
    refine lv_aload_n hx hb dX0_inClasses_9 rfl (lv_at hl 0 rfl) ?_
    refine m_get S hG 48 48 0 rfl ec_48 cpX0 wm_403 dX0_inClasses_10 rfl (Nat.lt_of_lt_of_le (Nat.le_of_ble_eq_true rfl) hn) (by decide) ?_
    refine m_get S hG 2 2 5 rfl ec_2 cpX2 wm_239 dX0_inClasses_13 rfl (Nat.lt_of_lt_of_le (Nat.le_of_ble_eq_true rfl) hn) (by decide) ?_
    refine lv_iload_n hx hb dX0_inClasses_16 rfl (lv_at hl 1 rfl) ?_
    obtain ⟨hg_3, hM⟩ := gd_some hM
    refine mi_ald S hG 3 3 rfl ec_3 (Nat.lt_of_lt_of_le (Nat.le_of_ble_eq_true rfl) hn) dX0_inClasses_17 hg_3 (by decide) ?_
    refine lv_iconst (v := iI 4) hx hb dX0_inClasses_18 (by decide) ?_
    obtain ⟨hg_4, hM⟩ := gd_some hM
    refine gi_icmp_eq (tgt := 35) hx hb dX0_inClasses_19 (by decide) hg_4 (by decide) (fun c_5 => ?_) (fun c_5 => ?_)
    · replace hM := ifp hM c_5
      refine lv_iconst (v := iI 1) hx hb dX0_inClasses_35 (by decide) ?_
      refine lv_goto (tgt := 40) hx hb dX0_inClasses_36 (by decide) ?_
      cases hM
      exact g_zret S hr hlk hG hsz dX0_inClasses_40 ⟨Nat.le_of_ble_eq_true rfl, Nat.le_of_ble_eq_true rfl⟩ (nar_z (by decide)) ⟨rfl, rfl⟩
    · replace hM := ifn hM c_5
      refine lv_aload_n hx hb dX0_inClasses_22 rfl (lv_at hl 0 rfl) ?_
      refine m_get S hG 48 48 0 rfl ec_48 cpX0 wm_403 dX0_inClasses_23 rfl (Nat.lt_of_lt_of_le (Nat.le_of_ble_eq_true rfl) hn) (by decide) ?_
      refine m_get S hG 2 2 5 rfl ec_2 cpX2 wm_239 dX0_inClasses_26 rfl (Nat.lt_of_lt_of_le (Nat.le_of_ble_eq_true rfl) hn) (by decide) ?_
      refine lv_iload_n hx hb dX0_inClasses_29 rfl (lv_at hl 1 rfl) ?_
      refine mi_ald S hG 3 3 rfl ec_3 (Nat.lt_of_lt_of_le (Nat.le_of_ble_eq_true rfl) hn) dX0_inClasses_30 hg_3 (by decide) ?_
      refine lv_iconst (v := iI 5) hx hb dX0_inClasses_31 (by decide) ?_
      refine gi_icmp_ne (tgt := 39) hx hb dX0_inClasses_32 (by decide) hg_4 (by decide) (fun c_6 => ?_) (fun c_6 => ?_)
      · replace hM := ifn hM c_6
        refine lv_iconst (v := iI 0) hx hb dX0_inClasses_39 (by decide) ?_
        cases hM
        exact g_zret S hr hlk hG hsz dX0_inClasses_40 ⟨Nat.le_of_ble_eq_true rfl, Nat.le_of_ble_eq_true rfl⟩ (nar_z (by decide)) ⟨rfl, rfl⟩
      · replace hM := ifp hM c_6
        refine lv_iconst (v := iI 1) hx hb dX0_inClasses_35 (by decide) ?_
        refine lv_goto (tgt := 40) hx hb dX0_inClasses_36 (by decide) ?_
        cases hM
        exact g_zret S hr hlk hG hsz dX0_inClasses_40 ⟨Nat.le_of_ble_eq_true rfl, Nat.le_of_ble_eq_true rfl⟩ (nar_z (by decide)) ⟨rfl, rfl⟩
def mX0_longest_48 (S0 : St) (a1 : Int) : Option (Int) := gd (0 ≤ a1 ∧ a1 < 24) <| gd (inI (S0 4 a1)) <| if (S0 4 a1) = 0 then (some ((S0 2 0))) else (some ((S0 4 a1)))
set_option maxHeartbeats 4000000 in
set_option maxRecDepth 100000 in
theorem vX0_longest_48 (l : Launch) {D : va_G} {cy : Nat → ClassId} {b n : Nat} (hn : 102 ≤ n) {X : Nat → va_E} {S0 : St} (a1 : Int) {o1 : Int} (hM : mX0_longest_48 S0 a1 = some o1) : gI l yX0_longest cX0_longest 2 (some .int) 0 0 0 D cy b n (enc b cy X S0) [.ref (b + 48), .int (iI a1)] (fun r u => r = iI o1 ∧ u = (n, enc b cy X S0)) := by
  refine gI_of (by decide) (Nat.le_of_ble_eq_true rfl) ?_
  intro p e s m args below meth c S hr hlk hin hsz ls hl hG
  have hx := S.1
  have hb := S.2.1
  have hl : lv_has ls 2 [(0, .ref (b + 48)), (1, .int (iI a1))] := hl
  replace hG : gW D cy b n s s.heap [] (enc b cy X S0) := hG
  obtain ⟨H, eH⟩ : ∃ H, H = s.heap := ⟨_, rfl⟩
  obtain ⟨locs, elocs⟩ : ∃ locs : List Loc, locs = [] := ⟨_, rfl⟩
  rw [← eH, ← elocs] at hG
  rw [← eH, ← elocs]
  clear eH elocs
  unfold mX0_longest_48 at hM
  refine lv_aload_n hx hb dX0_longest_0 rfl (lv_at hl 0 rfl) ?_
  refine m_get S hG 48 48 0 rfl ec_48 cpX0 wm_403 dX0_longest_1 rfl (Nat.lt_of_lt_of_le (Nat.le_of_ble_eq_true rfl) hn) (by decide) ?_
  refine m_get S hG 2 2 6 rfl ec_2 cpX2 wm_245 dX0_longest_4 rfl (Nat.lt_of_lt_of_le (Nat.le_of_ble_eq_true rfl) hn) (by decide) ?_
  refine lv_iload_n hx hb dX0_longest_7 rfl (lv_at hl 1 rfl) ?_
  obtain ⟨hg_1, hM⟩ := gd_some hM
  refine mi_ald S hG 4 4 rfl ec_4 (Nat.lt_of_lt_of_le (Nat.le_of_ble_eq_true rfl) hn) dX0_longest_8 hg_1 (by decide) ?_
  obtain ⟨hg_2, hM⟩ := gd_some hM
  refine gi_if_ne (tgt := 22) hx hb dX0_longest_9 (by decide) hg_2 (fun c_3 => ?_) (fun c_3 => ?_)
  · replace hM := ifn hM c_3
    refine lv_aload_n hx hb dX0_longest_22 rfl (lv_at hl 0 rfl) ?_
    refine m_get S hG 48 48 0 rfl ec_48 cpX0 wm_403 dX0_longest_23 rfl (Nat.lt_of_lt_of_le (Nat.le_of_ble_eq_true rfl) hn) (by decide) ?_
    refine m_get S hG 2 2 6 rfl ec_2 cpX2 wm_245 dX0_longest_26 rfl (Nat.lt_of_lt_of_le (Nat.le_of_ble_eq_true rfl) hn) (by decide) ?_
    refine lv_iload_n hx hb dX0_longest_29 rfl (lv_at hl 1 rfl) ?_
    refine mi_ald S hG 4 4 rfl ec_4 (Nat.lt_of_lt_of_le (Nat.le_of_ble_eq_true rfl) hn) dX0_longest_30 hg_1 (by decide) ?_
    cases hM
    exact g_iret S hr hlk hG hsz dX0_longest_31 ⟨Nat.le_of_ble_eq_true rfl, Nat.le_of_ble_eq_true rfl⟩ ⟨rfl, rfl⟩
  · replace hM := ifp hM c_3
    refine lv_aload_n hx hb dX0_longest_12 rfl (lv_at hl 0 rfl) ?_
    refine m_get S hG 48 48 0 rfl ec_48 cpX0 wm_403 dX0_longest_13 rfl (Nat.lt_of_lt_of_le (Nat.le_of_ble_eq_true rfl) hn) (by decide) ?_
    refine m_get S hG 2 2 0 rfl ec_2 cpX2 wm_213 dX0_longest_16 rfl (Nat.lt_of_lt_of_le (Nat.le_of_ble_eq_true rfl) hn) (by decide) ?_
    refine lv_goto (tgt := 31) hx hb dX0_longest_19 (by decide) ?_
    cases hM
    exact g_iret S hr hlk hG hsz dX0_longest_31 ⟨Nat.le_of_ble_eq_true rfl, Nat.le_of_ble_eq_true rfl⟩ ⟨rfl, rfl⟩
def mX0_rowsOf_48 (S0 : St) (a1 : Int) (a2 : Int) (a3 : Int) (a4 : Int) : Option (Int) := gd (inI a2) <| if a2 = 1 then (gd (0 ≤ a1 ∧ a1 < 24) <| gd (0 ≤ ((((S0 5 a1) * 64) + (a3 * 8)) + a4) ∧ ((((S0 5 a1) * 64) + (a3 * 8)) + a4) < 1536) <| some ((S0 49 ((((S0 5 a1) * 64) + (a3 * 8)) + a4)))) else (gd (0 ≤ ((((a1 * 512) + (a2 * 64)) + (a3 * 8)) + a4) ∧ ((((a1 * 512) + (a2 * 64)) + (a3 * 8)) + a4) < 12288) <| some ((S0 52 ((((a1 * 512) + (a2 * 64)) + (a3 * 8)) + a4))))
set_option maxHeartbeats 4000000 in
set_option maxRecDepth 100000 in
theorem vX0_rowsOf_48 (l : Launch) {D : va_G} {cy : Nat → ClassId} {b n : Nat} (hn : 102 ≤ n) {X : Nat → va_E} {S0 : St} (a1 : Int) (a2 : Int) (a3 : Int) (a4 : Int) {o1 : Int} (hM : mX0_rowsOf_48 S0 a1 a2 a3 a4 = some o1) : gL l yX0_rowsOf cX0_rowsOf 5 0 0 0 D cy b n (enc b cy X S0) [.ref (b + 48), .int (iI a1), .int (iI a2), .int (iI a3), .int (iI a4)] (fun r u => r = jJ o1 ∧ u = (n, enc b cy X S0)) := by
  refine gL_of (by decide) (Nat.le_of_ble_eq_true rfl) ?_
  intro p e s m args below meth c S hr hlk hin hsz ls hl hG
  have hx := S.1
  have hb := S.2.1
  have hl : lv_has ls 5 [(0, .ref (b + 48)), (1, .int (iI a1)), (2, .int (iI a2)), (3, .int (iI a3)), (4, .int (iI a4))] := hl
  replace hG : gW D cy b n s s.heap [] (enc b cy X S0) := hG
  obtain ⟨H, eH⟩ : ∃ H, H = s.heap := ⟨_, rfl⟩
  obtain ⟨locs, elocs⟩ : ∃ locs : List Loc, locs = [] := ⟨_, rfl⟩
  rw [← eH, ← elocs] at hG
  rw [← eH, ← elocs]
  clear eH elocs
  unfold mX0_rowsOf_48 at hM
  refine lv_iload_n hx hb dX0_rowsOf_0 rfl (lv_at hl 2 rfl) ?_
  refine lv_iconst (v := iI 1) hx hb dX0_rowsOf_1 (by decide) ?_
  obtain ⟨hg_1, hM⟩ := gd_some hM
  refine gi_icmp_ne (tgt := 31) hx hb dX0_rowsOf_2 (by decide) hg_1 (by decide) (fun c_2 => ?_) (fun c_2 => ?_)
  · replace hM := ifn hM c_2
    refine lv_aload_n hx hb dX0_rowsOf_31 rfl (lv_at hl 0 rfl) ?_
    refine m_get S hG 48 48 5 rfl ec_48 cpX0 wm_408 dX0_rowsOf_32 rfl (Nat.lt_of_lt_of_le (Nat.le_of_ble_eq_true rfl) hn) (by decide) ?_
    refine lv_iload_n hx hb dX0_rowsOf_35 rfl (lv_at hl 1 rfl) ?_
    refine lv_sipush (v := iI 512) hx hb dX0_rowsOf_36 (by decide) ?_
    refine gi_mul hx hb dX0_rowsOf_39 ?_
    refine lv_iload_n hx hb dX0_rowsOf_40 rfl (lv_at hl 2 rfl) ?_
    refine lv_bipush (v := iI 64) hx hb dX0_rowsOf_41 (by decide) ?_
    refine gi_mul hx hb dX0_rowsOf_43 ?_
    refine gi_add hx hb dX0_rowsOf_44 ?_
    refine lv_iload_n hx hb dX0_rowsOf_45 rfl (lv_at hl 3 rfl) ?_
    refine lv_bipush (v := iI 8) hx hb dX0_rowsOf_46 (by decide) ?_
    refine gi_mul hx hb dX0_rowsOf_48 ?_
    refine gi_add hx hb dX0_rowsOf_49 ?_
    refine lv_iload hx hb dX0_rowsOf_50 (lv_at hl 4 rfl) ?_
    refine gi_add hx hb dX0_rowsOf_52 ?_
    obtain ⟨hg_3, hM⟩ := gd_some hM
    refine mj_ald S hG 52 52 rfl ec_52 (Nat.lt_of_lt_of_le (Nat.le_of_ble_eq_true rfl) hn) dX0_rowsOf_53 hg_3 (by decide) ?_
    cases hM
    exact g_lret S hr hlk hG hsz dX0_rowsOf_54 ⟨Nat.le_of_ble_eq_true rfl, Nat.le_of_ble_eq_true rfl⟩ ⟨rfl, rfl⟩
  · replace hM := ifp hM c_2
    refine lv_aload_n hx hb dX0_rowsOf_5 rfl (lv_at hl 0 rfl) ?_
    refine m_get S hG 48 48 2 rfl ec_48 cpX0 wm_405 dX0_rowsOf_6 rfl (Nat.lt_of_lt_of_le (Nat.le_of_ble_eq_true rfl) hn) (by decide) ?_
    refine lv_aload_n hx hb dX0_rowsOf_9 rfl (lv_at hl 0 rfl) ?_
    refine m_get S hG 48 48 0 rfl ec_48 cpX0 wm_403 dX0_rowsOf_10 rfl (Nat.lt_of_lt_of_le (Nat.le_of_ble_eq_true rfl) hn) (by decide) ?_
    refine m_get S hG 2 2 7 rfl ec_2 cpX2 wm_252 dX0_rowsOf_13 rfl (Nat.lt_of_lt_of_le (Nat.le_of_ble_eq_true rfl) hn) (by decide) ?_
    refine lv_iload_n hx hb dX0_rowsOf_16 rfl (lv_at hl 1 rfl) ?_
    obtain ⟨hg_4, hM⟩ := gd_some hM
    refine mi_ald S hG 5 5 rfl ec_5 (Nat.lt_of_lt_of_le (Nat.le_of_ble_eq_true rfl) hn) dX0_rowsOf_17 hg_4 (by decide) ?_
    refine lv_bipush (v := iI 64) hx hb dX0_rowsOf_18 (by decide) ?_
    refine gi_mul hx hb dX0_rowsOf_20 ?_
    refine lv_iload_n hx hb dX0_rowsOf_21 rfl (lv_at hl 3 rfl) ?_
    refine lv_bipush (v := iI 8) hx hb dX0_rowsOf_22 (by decide) ?_
    refine gi_mul hx hb dX0_rowsOf_24 ?_
    refine gi_add hx hb dX0_rowsOf_25 ?_
    refine lv_iload hx hb dX0_rowsOf_26 (lv_at hl 4 rfl) ?_
    refine gi_add hx hb dX0_rowsOf_28 ?_
    obtain ⟨hg_5, hM⟩ := gd_some hM
    refine mj_ald S hG 49 49 rfl ec_49 (Nat.lt_of_lt_of_le (Nat.le_of_ble_eq_true rfl) hn) dX0_rowsOf_29 hg_5 (by decide) ?_
    cases hM
    exact g_lret S hr hlk hG hsz dX0_rowsOf_30 ⟨Nat.le_of_ble_eq_true rfl, Nat.le_of_ble_eq_true rfl⟩ ⟨rfl, rfl⟩
def mX0_growRows_48_80 (r_42 : Int) (v_25 : Int) (v_15 : Int) (x_14 : Int) (v_1 : Int) (a1 : Int) (a2 : Int) : Nat → Int → St → Option (St)
  | 0, _, _ => none
  | f + 1, v_43, S_44 => gd (inL r_42) <| if r_42 ≤ 0 then (some (S_44)) else (bd1 (mX0_letterTop_48 S_44 (a2 - v_15)) fun r_54 => gd ((inI v_43) ∧ (inI r_54)) <| if r_54 < v_43 then (some (S_44)) else (bd1 (mX0_rowsOf_48 S_44 a1 (v_1 - 1) (a2 - v_15) v_43) fun r_58 => gd (0 ≤ ((x_14 + v_25) + v_43) ∧ ((x_14 + v_25) + v_43) < 12288) <| bd1 (mX11_times r_42 r_58) fun r_61 => bd1 (mX11_plus (S_44 52 ((x_14 + v_25) + v_43)) r_61) fun r_63 => nx (up S_44 52 ((x_14 + v_25) + v_43) r_63) fun S_64 => mX0_growRows_48_80 r_42 v_25 v_15 x_14 v_1 a1 a2 f (v_43 + 1) S_64))
def mX0_growRows_48_44 (v_15 : Int) (x_14 : Int) (v_1 : Int) (a1 : Int) (a2 : Int) : Nat → Int → St → Option (St)
  | 0, _, _ => none
  | f + 1, v_25, S_26 => bd1 (mX0_letterTop_48 S_26 v_15) fun r_34 => gd ((inI v_25) ∧ (inI r_34)) <| if r_34 < v_25 then (some (S_26)) else (bd1 (mX0_rowsOf_48 S_26 a1 1 v_15 v_25) fun r_38 => bd1 (mX0_weight_48 S_26 a2 v_15) fun r_40 => bd1 (mX11_times r_38 r_40) fun r_42 => bd1 (mX0_growRows_48_80 r_42 v_25 v_15 x_14 v_1 a1 a2 FU 0 S_26) fun S_45 => mX0_growRows_48_44 v_15 x_14 v_1 a1 a2 f (v_25 + 1) S_45)
def mX0_growRows_48_35 (x_14 : Int) (v_1 : Int) (a1 : Int) (a2 : Int) : Nat → Int → St → Option (St)
  | 0, _, _ => none
  | f + 1, v_15, S_16 => gd (inI v_15) <| if a2 ≤ v_15 then (some (S_16)) else (bd1 (mX0_growRows_48_44 v_15 x_14 v_1 a1 a2 FU 0 S_16) fun S_27 => mX0_growRows_48_35 x_14 v_1 a1 a2 f (v_15 + 1) S_27)
def mX0_growRows_48_2 (a1 : Int) (a2 : Int) : Nat → Int → St → Option (St)
  | 0, _, _ => none
  | f + 1, v_1, S_2 => bd1 (mX0_longest_48 S_2 a1) fun r_10 => gd ((inI a2) ∧ (inI r_10)) <| gd ((inI v_1) ∧ (inI (min a2 r_10))) <| if (min a2 r_10) < v_1 then (some (S_2)) else (nx (((a1 * 512) + (v_1 * 64)) + (a2 * 8)) fun x_14 => bd1 (mX0_growRows_48_35 x_14 v_1 a1 a2 FU 1 S_2) fun S_17 => mX0_growRows_48_2 a1 a2 f (v_1 + 1) S_17)
def mX0_growRows_48 (S0 : St) (a1 : Int) (a2 : Int) : Option (St) := bd1 (mX0_growRows_48_2 a1 a2 FU 2 S0) fun S_3 => some (S_3)
set_option maxHeartbeats 4000000 in
set_option maxRecDepth 100000 in
theorem vX0_growRows_48 (l : Launch) {D : va_G} {cy : Nat → ClassId} {b n : Nat} (hn : 102 ≤ n) {X : Nat → va_E} {S0 : St} (a1 : Int) (a2 : Int) {o1 : St} (hM : mX0_growRows_48 S0 a1 a2 = some o1) : gV l yX0_growRows cX0_growRows 12 1 0 0 D cy b n (enc b cy X S0) [.ref (b + 48), .int (iI a1), .int (iI a2)] (fun u => u = (n, enc b cy X o1)) := by
  refine gV_of (by decide) (Nat.le_of_ble_eq_true rfl) ?_
  intro p e s m args below meth c S hr hlk hin hsz ls hl hG
  have hx := S.1
  have hb := S.2.1
  have hl : lv_has ls 12 [(0, .ref (b + 48)), (1, .int (iI a1)), (2, .int (iI a2))] := hl
  replace hG : gW D cy b n s s.heap [] (enc b cy X S0) := hG
  obtain ⟨H, eH⟩ : ∃ H, H = s.heap := ⟨_, rfl⟩
  obtain ⟨locs, elocs⟩ : ∃ locs : List Loc, locs = [] := ⟨_, rfl⟩
  rw [← eH, ← elocs] at hG
  rw [← eH, ← elocs]
  clear eH elocs
  unfold mX0_growRows_48 at hM
  refine lv_iconst (v := iI 2) hx hb dX0_growRows_0 (by decide) ?_
  refine lv_istore_n (lv' := [(3, .int (iI 2)), (0, .ref (b + 48)), (1, .int (iI a1)), (2, .int (iI a2))]) hx hb dX0_growRows_1 rfl hl (by decide) rfl (fun ls hl => ?_)
  obtain ⟨S_3, hc_4, hM⟩ := bd1_some hM
  have hK_5 : ∀ (H : Heap) (locs : List Loc) (ls : Array Slot), gW D cy b n s H locs (enc b cy X S_3) → lv_has ls 12 [] → W p l e (gRm 1 0 0) s m args below meth c H locs 0 0 (gQV D cy b s args below 0 0 (fun u => u = (n, enc b cy X o1))) (F0 m 176 ls []) := by
    intro H locs ls hG hl
    cases hM
    exact g_vret S hr hlk hG hsz dX0_growRows_176 ⟨Nat.le_of_ble_eq_true rfl, Nat.le_of_ble_eq_true rfl⟩ rfl
  have loop_6 : ∀ (f : Nat) (v_1 : Int) (S_2 : St) (H : Heap) (locs : List Loc) (ls : Array Slot), mX0_growRows_48_2 a1 a2 f v_1 S_2 = some S_3 → gW D cy b n s H locs (enc b cy X S_2) → lv_has ls 12 [(3, .int (iI v_1)), (0, .ref (b + 48)), (1, .int (iI a1)), (2, .int (iI a2))] → W p l e (gRm 1 0 0) s m args below meth c H locs 0 0 (gQV D cy b s args below 0 0 (fun u => u = (n, enc b cy X o1))) (F0 m 2 ls []) := by
    clear hM
    intro f
    induction f with
    | zero => intro v_1 S_2 H locs ls hM; rw [mX0_growRows_48_2] at hM; cases hM
    | succ f_8 ih_7 =>
      intro v_1 S_2 H locs ls hM hG hl
      rw [mX0_growRows_48_2] at hM
      refine lv_iload_n hx hb dX0_growRows_2 rfl (lv_at hl 0 rfl) ?_
      refine lv_iload_n hx hb dX0_growRows_3 rfl (lv_at hl 3 rfl) ?_
      refine lv_aload_n hx hb dX0_growRows_4 rfl (lv_at hl 1 rfl) ?_
      refine lv_iload_n hx hb dX0_growRows_5 rfl (lv_at hl 2 rfl) ?_
      obtain ⟨r_10, hc_9, hM⟩ := bd1_some hM
      refine g_vi (As := [.int (iI a1)]) (rest := [.int (iI a2), .int (iI v_1)]) S hG hsz (vX0_longest_48 l hn a1 hc_9) wV_0_176 (ec_48 _) cpX0 (Nat.lt_of_lt_of_le (Nat.le_of_ble_eq_true rfl) hn) dX0_growRows_6 rfl hl.1 (ar := 1) (by decide +kernel) rfl ⟨Nat.le_of_ble_eq_true rfl, Nat.le_of_ble_eq_true rfl, Nat.le_of_ble_eq_true rfl, Nat.le_of_ble_eq_true rfl⟩ (Nat.le_of_ble_eq_true rfl) (fun rv uu H locs hp hG => ?_)
      obtain ⟨rfl, rfl⟩ := hp
      replace hG : gW D cy b n s H locs (enc b cy X S_2) := hG
      obtain ⟨hg_11, hM⟩ := gd_some hM
      refine gi_min S wm_1051 wm_761 wm_190 wm_762 hl.1 dX0_growRows_9 ⟨Nat.le_of_ble_eq_true rfl, Nat.le_of_ble_eq_true rfl, Nat.le_of_ble_eq_true rfl, Nat.le_of_ble_eq_true rfl⟩ hg_11.1 hg_11.2 ?_
      obtain ⟨hg_12, hM⟩ := gd_some hM
      refine gi_icmp_gt (tgt := 176) hx hb dX0_growRows_12 (by decide) hg_12.1 hg_12.2 (fun c_13 => ?_) (fun c_13 => ?_)
      · replace hM := ifp hM c_13
        cases hM
        exact hK_5 H locs ls hG (lv_sub hl [] rfl)
      · replace hM := ifn hM c_13
        refine lv_iload_n hx hb dX0_growRows_15 rfl (lv_at hl 2 rfl) ?_
        refine lv_sipush (v := iI 512) hx hb dX0_growRows_16 (by decide) ?_
        refine gi_mul hx hb dX0_growRows_19 ?_
        refine lv_iload_n hx hb dX0_growRows_20 rfl (lv_at hl 0 rfl) ?_
        refine lv_bipush (v := iI 64) hx hb dX0_growRows_21 (by decide) ?_
        refine gi_mul hx hb dX0_growRows_23 ?_
        refine gi_add hx hb dX0_growRows_24 ?_
        refine lv_iload_n hx hb dX0_growRows_25 rfl (lv_at hl 3 rfl) ?_
        refine lv_bipush (v := iI 8) hx hb dX0_growRows_26 (by decide) ?_
        refine gi_mul hx hb dX0_growRows_28 ?_
        refine gi_add hx hb dX0_growRows_29 ?_
        refine gi_nm (fun x_14 ex_14 => ?_)
        replace hM := nx_at hM ex_14
        clear ex_14
        refine lv_istore (lv' := [(4, .int (iI x_14)), (3, .int (iI v_1)), (0, .ref (b + 48)), (1, .int (iI a1)), (2, .int (iI a2))]) hx hb dX0_growRows_30 hl (by decide) rfl (fun ls hl => ?_)
        refine lv_iconst (v := iI 1) hx hb dX0_growRows_32 (by decide) ?_
        refine lv_istore (lv' := [(5, .int (iI 1)), (4, .int (iI x_14)), (3, .int (iI v_1)), (0, .ref (b + 48)), (1, .int (iI a1)), (2, .int (iI a2))]) hx hb dX0_growRows_33 hl (by decide) rfl (fun ls hl => ?_)
        obtain ⟨S_17, hc_18, hM⟩ := bd1_some hM
        have hK_19 : ∀ (H : Heap) (locs : List Loc) (ls : Array Slot), gW D cy b n s H locs (enc b cy X S_17) → lv_has ls 12 [(3, .int (iI v_1)), (0, .ref (b + 48)), (1, .int (iI a1)), (2, .int (iI a2))] → W p l e (gRm 1 0 0) s m args below meth c H locs 0 0 (gQV D cy b s args below 0 0 (fun u => u = (n, enc b cy X o1))) (F0 m 170 ls []) := by
          intro H locs ls hG hl
          refine lv_iinc (v := iI (v_1 + 1)) (lv' := [(3, .int (iI (v_1 + 1))), (0, .ref (b + 48)), (1, .int (iI a1)), (2, .int (iI a2))]) hx hb dX0_growRows_170 hl (k := 0) rfl ((iI_add v_1 (1)).trans (congrArg iI (by omega))) (by decide) rfl (fun ls hl => ?_)
          refine lv_goto (tgt := 2) hx hb dX0_growRows_173 (by decide) ?_
          exact ih_7 (v_1 + 1) S_17 H locs ls hM hG (lv_sub hl [0, 1, 2, 3] rfl)
        have loop_20 : ∀ (f : Nat) (v_15 : Int) (S_16 : St) (H : Heap) (locs : List Loc) (ls : Array Slot), mX0_growRows_48_35 x_14 v_1 a1 a2 f v_15 S_16 = some S_17 → gW D cy b n s H locs (enc b cy X S_16) → lv_has ls 12 [(5, .int (iI v_15)), (4, .int (iI x_14)), (3, .int (iI v_1)), (0, .ref (b + 48)), (1, .int (iI a1)), (2, .int (iI a2))] → W p l e (gRm 1 0 0) s m args below meth c H locs 0 0 (gQV D cy b s args below 0 0 (fun u => u = (n, enc b cy X o1))) (F0 m 35 ls []) := by
          clear hM
          intro f
          induction f with
          | zero => intro v_15 S_16 H locs ls hM; rw [mX0_growRows_48_35] at hM; cases hM
          | succ f_22 ih_21 =>
            intro v_15 S_16 H locs ls hM hG hl
            rw [mX0_growRows_48_35] at hM
            refine lv_iload hx hb dX0_growRows_35 (lv_at hl 0 rfl) ?_
            refine lv_iload_n hx hb dX0_growRows_37 rfl (lv_at hl 5 rfl) ?_
            obtain ⟨hg_23, hM⟩ := gd_some hM
            refine gi_icmp_ge (tgt := 170) hx hb dX0_growRows_38 (by decide) hg_23 hg_11.1 (fun c_24 => ?_) (fun c_24 => ?_)
            · replace hM := ifp hM c_24
              cases hM
              exact hK_19 H locs ls hG (lv_sub hl [2, 3, 4, 5] rfl)
            · replace hM := ifn hM c_24
              refine lv_iconst (v := iI 0) hx hb dX0_growRows_41 (by decide) ?_
              refine lv_istore (lv' := [(6, .int (iI 0)), (5, .int (iI v_15)), (4, .int (iI x_14)), (3, .int (iI v_1)), (0, .ref (b + 48)), (1, .int (iI a1)), (2, .int (iI a2))]) hx hb dX0_growRows_42 hl (by decide) rfl (fun ls hl => ?_)
              obtain ⟨S_27, hc_28, hM⟩ := bd1_some hM
              have hK_29 : ∀ (H : Heap) (locs : List Loc) (ls : Array Slot), gW D cy b n s H locs (enc b cy X S_27) → lv_has ls 12 [(5, .int (iI v_15)), (4, .int (iI x_14)), (3, .int (iI v_1)), (0, .ref (b + 48)), (1, .int (iI a1)), (2, .int (iI a2))] → W p l e (gRm 1 0 0) s m args below meth c H locs 0 0 (gQV D cy b s args below 0 0 (fun u => u = (n, enc b cy X o1))) (F0 m 164 ls []) := by
                intro H locs ls hG hl
                refine lv_iinc (v := iI (v_15 + 1)) (lv' := [(5, .int (iI (v_15 + 1))), (4, .int (iI x_14)), (3, .int (iI v_1)), (0, .ref (b + 48)), (1, .int (iI a1)), (2, .int (iI a2))]) hx hb dX0_growRows_164 hl (k := 0) rfl ((iI_add v_15 (1)).trans (congrArg iI (by omega))) (by decide) rfl (fun ls hl => ?_)
                refine lv_goto (tgt := 35) hx hb dX0_growRows_167 (by decide) ?_
                exact ih_21 (v_15 + 1) S_27 H locs ls hM hG (lv_sub hl [0, 1, 2, 3, 4, 5] rfl)
              have loop_30 : ∀ (f : Nat) (v_25 : Int) (S_26 : St) (H : Heap) (locs : List Loc) (ls : Array Slot), mX0_growRows_48_44 v_15 x_14 v_1 a1 a2 f v_25 S_26 = some S_27 → gW D cy b n s H locs (enc b cy X S_26) → lv_has ls 12 [(6, .int (iI v_25)), (5, .int (iI v_15)), (4, .int (iI x_14)), (3, .int (iI v_1)), (0, .ref (b + 48)), (1, .int (iI a1)), (2, .int (iI a2))] → W p l e (gRm 1 0 0) s m args below meth c H locs 0 0 (gQV D cy b s args below 0 0 (fun u => u = (n, enc b cy X o1))) (F0 m 44 ls []) := by
                clear hM
                intro f
                induction f with
                | zero => intro v_25 S_26 H locs ls hM; rw [mX0_growRows_48_44] at hM; cases hM
                | succ f_32 ih_31 =>
                  intro v_25 S_26 H locs ls hM hG hl
                  rw [mX0_growRows_48_44] at hM
                  refine lv_iload hx hb dX0_growRows_44 (lv_at hl 0 rfl) ?_
                  refine lv_aload_n hx hb dX0_growRows_46 rfl (lv_at hl 4 rfl) ?_
                  refine lv_iload hx hb dX0_growRows_47 (lv_at hl 1 rfl) ?_
                  obtain ⟨r_34, hc_33, hM⟩ := bd1_some hM
                  refine g_vi (As := [.int (iI v_15)]) (rest := [.int (iI v_25)]) S hG hsz (vX0_letterTop_48 l hn v_15 hc_33) wV_0_108 (ec_48 _) cpX0 (Nat.lt_of_lt_of_le (Nat.le_of_ble_eq_true rfl) hn) dX0_growRows_49 rfl hl.1 (ar := 1) (by decide +kernel) rfl ⟨Nat.le_of_ble_eq_true rfl, Nat.le_of_ble_eq_true rfl, Nat.le_of_ble_eq_true rfl, Nat.le_of_ble_eq_true rfl⟩ (Nat.le_of_ble_eq_true rfl) (fun rv uu H locs hp hG => ?_)
                  obtain ⟨rfl, rfl⟩ := hp
                  replace hG : gW D cy b n s H locs (enc b cy X S_26) := hG
                  obtain ⟨hg_35, hM⟩ := gd_some hM
                  refine gi_icmp_gt (tgt := 164) hx hb dX0_growRows_52 (by decide) hg_35.1 hg_35.2 (fun c_36 => ?_) (fun c_36 => ?_)
                  · replace hM := ifp hM c_36
                    cases hM
                    exact hK_29 H locs ls hG (lv_sub hl [1, 2, 3, 4, 5, 6] rfl)
                  · replace hM := ifn hM c_36
                    refine lv_aload_n hx hb dX0_growRows_55 rfl (lv_at hl 4 rfl) ?_
                    refine lv_iload_n hx hb dX0_growRows_56 rfl (lv_at hl 5 rfl) ?_
                    refine lv_iconst (v := iI 1) hx hb dX0_growRows_57 (by decide) ?_
                    refine lv_iload hx hb dX0_growRows_58 (lv_at hl 1 rfl) ?_
                    refine lv_iload hx hb dX0_growRows_60 (lv_at hl 0 rfl) ?_
                    obtain ⟨r_38, hc_37, hM⟩ := bd1_some hM
                    refine g_vl (As := [.int (iI a1), .int (iI 1), .int (iI v_15), .int (iI v_25)]) (rest := []) S hG hsz (vX0_rowsOf_48 l hn a1 1 v_15 v_25 hc_37) wV_0_101 (ec_48 _) cpX0 (Nat.lt_of_lt_of_le (Nat.le_of_ble_eq_true rfl) hn) dX0_growRows_62 rfl hl.1 (ar := 4) (by decide +kernel) rfl ⟨Nat.le_of_ble_eq_true rfl, Nat.le_of_ble_eq_true rfl, Nat.le_of_ble_eq_true rfl, Nat.le_of_ble_eq_true rfl⟩ (Nat.le_of_ble_eq_true rfl) (fun rv uu H locs hp hG => ?_)
                    obtain ⟨rfl, rfl⟩ := hp
                    replace hG : gW D cy b n s H locs (enc b cy X S_26) := hG
                    refine lv_aload_n hx hb dX0_growRows_65 rfl (lv_at hl 4 rfl) ?_
                    refine lv_iload_n hx hb dX0_growRows_66 rfl (lv_at hl 6 rfl) ?_
                    refine lv_iload hx hb dX0_growRows_67 (lv_at hl 1 rfl) ?_
                    obtain ⟨r_40, hc_39, hM⟩ := bd1_some hM
                    refine g_vl (As := [.int (iI a2), .int (iI v_15)]) (rest := [.long (jJ r_38)]) S hG hsz (vX0_weight_48 l hn a2 v_15 hc_39) wV_0_139 (ec_48 _) cpX0 (Nat.lt_of_lt_of_le (Nat.le_of_ble_eq_true rfl) hn) dX0_growRows_69 rfl hl.1 (ar := 2) (by decide +kernel) rfl ⟨Nat.le_of_ble_eq_true rfl, Nat.le_of_ble_eq_true rfl, Nat.le_of_ble_eq_true rfl, Nat.le_of_ble_eq_true rfl⟩ (Nat.le_of_ble_eq_true rfl) (fun rv uu H locs hp hG => ?_)
                    obtain ⟨rfl, rfl⟩ := hp
                    replace hG : gW D cy b n s H locs (enc b cy X S_26) := hG
                    obtain ⟨r_42, hc_41, hM⟩ := bd1_some hM
                    refine g_slN (As := [.long (jJ r_38), .long (jJ r_40)]) (rest := []) S hG hsz (vX11_times l hn r_38 r_40 hc_41) (y := yX11_times) (host := "GrownKinds") (by decide +kernel) ⟨wm_1053, wm_177, wm_1054, by decide +kernel, by decide +kernel⟩ dX0_growRows_72 rfl hl.1 (ar := 2) (by decide +kernel) rfl ⟨Nat.le_of_ble_eq_true rfl, Nat.le_of_ble_eq_true rfl, Nat.le_of_ble_eq_true rfl, Nat.le_of_ble_eq_true rfl⟩ (Nat.le_of_ble_eq_true rfl) (fun rv uu H locs hp hG => ?_)
                    obtain ⟨rfl, rfl⟩ := hp
                    replace hG : gW D cy b n s H locs (enc b cy X S_26) := hG
                    refine lv_lstore (lv' := [(7, .long (jJ r_42)), (6, .int (iI v_25)), (5, .int (iI v_15)), (4, .int (iI x_14)), (3, .int (iI v_1)), (0, .ref (b + 48)), (1, .int (iI a1)), (2, .int (iI a2))]) hx hb dX0_growRows_75 hl (by decide) rfl (fun ls hl => ?_)
                    refine lv_iconst (v := iI 0) hx hb dX0_growRows_77 (by decide) ?_
                    refine lv_istore (lv' := [(9, .int (iI 0)), (7, .long (jJ r_42)), (6, .int (iI v_25)), (5, .int (iI v_15)), (4, .int (iI x_14)), (3, .int (iI v_1)), (0, .ref (b + 48)), (1, .int (iI a1)), (2, .int (iI a2))]) hx hb dX0_growRows_78 hl (by decide) rfl (fun ls hl => ?_)
                    obtain ⟨S_45, hc_46, hM⟩ := bd1_some hM
                    have hK_47 : ∀ (H : Heap) (locs : List Loc) (ls : Array Slot), gW D cy b n s H locs (enc b cy X S_45) → lv_has ls 12 [(6, .int (iI v_25)), (5, .int (iI v_15)), (4, .int (iI x_14)), (3, .int (iI v_1)), (0, .ref (b + 48)), (1, .int (iI a1)), (2, .int (iI a2))] → W p l e (gRm 1 0 0) s m args below meth c H locs 0 0 (gQV D cy b s args below 0 0 (fun u => u = (n, enc b cy X o1))) (F0 m 158 ls []) := by
                      intro H locs ls hG hl
                      refine lv_iinc (v := iI (v_25 + 1)) (lv' := [(6, .int (iI (v_25 + 1))), (5, .int (iI v_15)), (4, .int (iI x_14)), (3, .int (iI v_1)), (0, .ref (b + 48)), (1, .int (iI a1)), (2, .int (iI a2))]) hx hb dX0_growRows_158 hl (k := 0) rfl ((iI_add v_25 (1)).trans (congrArg iI (by omega))) (by decide) rfl (fun ls hl => ?_)
                      refine lv_goto (tgt := 44) hx hb dX0_growRows_161 (by decide) ?_
                      exact ih_31 (v_25 + 1) S_45 H locs ls hM hG (lv_sub hl [0, 1, 2, 3, 4, 5, 6] rfl)
                    have loop_48 : ∀ (f : Nat) (v_43 : Int) (S_44 : St) (H : Heap) (locs : List Loc) (ls : Array Slot), mX0_growRows_48_80 r_42 v_25 v_15 x_14 v_1 a1 a2 f v_43 S_44 = some S_45 → gW D cy b n s H locs (enc b cy X S_44) → lv_has ls 12 [(9, .int (iI v_43)), (7, .long (jJ r_42)), (6, .int (iI v_25)), (5, .int (iI v_15)), (4, .int (iI x_14)), (3, .int (iI v_1)), (0, .ref (b + 48)), (1, .int (iI a1)), (2, .int (iI a2))] → W p l e (gRm 1 0 0) s m args below meth c H locs 0 0 (gQV D cy b s args below 0 0 (fun u => u = (n, enc b cy X o1))) (F0 m 80 ls []) := by
                      clear hM
                      intro f
                      induction f with
                      | zero => intro v_43 S_44 H locs ls hM; rw [mX0_growRows_48_80] at hM; cases hM
                      | succ f_50 ih_49 =>
                        intro v_43 S_44 H locs ls hM hG hl
                        rw [mX0_growRows_48_80] at hM
                        refine lv_lload hx hb dX0_growRows_80 (lv_at hl 1 rfl) ?_
                        refine lv_lconst (v := jJ 0) hx hb dX0_growRows_82 (by decide) ?_
                        obtain ⟨hg_51, hM⟩ := gd_some hM
                        refine gj_cmp_le (tgt := 158) hx hb dX0_growRows_83 dX0_growRows_84 (by decide) hg_51 (by decide) (fun c_52 => ?_) (fun c_52 => ?_)
                        · replace hM := ifp hM c_52
                          cases hM
                          exact hK_47 H locs ls hG (lv_sub hl [2, 3, 4, 5, 6, 7, 8] rfl)
                        · replace hM := ifn hM c_52
                          refine lv_iload hx hb dX0_growRows_87 (lv_at hl 0 rfl) ?_
                          refine lv_aload_n hx hb dX0_growRows_89 rfl (lv_at hl 6 rfl) ?_
                          refine lv_iload_n hx hb dX0_growRows_90 rfl (lv_at hl 8 rfl) ?_
                          refine lv_iload hx hb dX0_growRows_91 (lv_at hl 3 rfl) ?_
                          refine gi_sub hx hb dX0_growRows_93 ?_
                          obtain ⟨r_54, hc_53, hM⟩ := bd1_some hM
                          refine g_vi (As := [.int (iI (a2 - v_15))]) (rest := [.int (iI v_43)]) S hG hsz (vX0_letterTop_48 l hn (a2 - v_15) hc_53) wV_0_108 (ec_48 _) cpX0 (Nat.lt_of_lt_of_le (Nat.le_of_ble_eq_true rfl) hn) dX0_growRows_94 rfl hl.1 (ar := 1) (by decide +kernel) rfl ⟨Nat.le_of_ble_eq_true rfl, Nat.le_of_ble_eq_true rfl, Nat.le_of_ble_eq_true rfl, Nat.le_of_ble_eq_true rfl⟩ (Nat.le_of_ble_eq_true rfl) (fun rv uu H locs hp hG => ?_)
                          obtain ⟨rfl, rfl⟩ := hp
                          replace hG : gW D cy b n s H locs (enc b cy X S_44) := hG
                          obtain ⟨hg_55, hM⟩ := gd_some hM
                          refine gi_icmp_gt (tgt := 158) hx hb dX0_growRows_97 (by decide) hg_55.1 hg_55.2 (fun c_56 => ?_) (fun c_56 => ?_)
                          · replace hM := ifp hM c_56
                            cases hM
                            exact hK_47 H locs ls hG (lv_sub hl [2, 3, 4, 5, 6, 7, 8] rfl)
                          · replace hM := ifn hM c_56
                            refine lv_aload_n hx hb dX0_growRows_100 rfl (lv_at hl 6 rfl) ?_
                            refine lv_iload_n hx hb dX0_growRows_101 rfl (lv_at hl 7 rfl) ?_
                            refine lv_iload_n hx hb dX0_growRows_102 rfl (lv_at hl 5 rfl) ?_
                            refine lv_iconst (v := iI 1) hx hb dX0_growRows_103 (by decide) ?_
                            refine gi_sub hx hb dX0_growRows_104 ?_
                            refine lv_iload_n hx hb dX0_growRows_105 rfl (lv_at hl 8 rfl) ?_
                            refine lv_iload hx hb dX0_growRows_106 (lv_at hl 3 rfl) ?_
                            refine gi_sub hx hb dX0_growRows_108 ?_
                            refine lv_iload hx hb dX0_growRows_109 (lv_at hl 0 rfl) ?_
                            obtain ⟨r_58, hc_57, hM⟩ := bd1_some hM
                            refine g_vl (As := [.int (iI a1), .int (iI (v_1 - 1)), .int (iI (a2 - v_15)), .int (iI v_43)]) (rest := []) S hG hsz (vX0_rowsOf_48 l hn a1 (v_1 - 1) (a2 - v_15) v_43 hc_57) wV_0_101 (ec_48 _) cpX0 (Nat.lt_of_lt_of_le (Nat.le_of_ble_eq_true rfl) hn) dX0_growRows_111 rfl hl.1 (ar := 4) (by decide +kernel) rfl ⟨Nat.le_of_ble_eq_true rfl, Nat.le_of_ble_eq_true rfl, Nat.le_of_ble_eq_true rfl, Nat.le_of_ble_eq_true rfl⟩ (Nat.le_of_ble_eq_true rfl) (fun rv uu H locs hp hG => ?_)
                            obtain ⟨rfl, rfl⟩ := hp
                            replace hG : gW D cy b n s H locs (enc b cy X S_44) := hG
                            refine lv_lstore (lv' := [(10, .long (jJ r_58)), (9, .int (iI v_43)), (7, .long (jJ r_42)), (6, .int (iI v_25)), (5, .int (iI v_15)), (4, .int (iI x_14)), (3, .int (iI v_1)), (0, .ref (b + 48)), (1, .int (iI a1)), (2, .int (iI a2))]) hx hb dX0_growRows_114 hl (by decide) rfl (fun ls hl => ?_)
                            refine lv_aload_n hx hb dX0_growRows_116 rfl (lv_at hl 7 rfl) ?_
                            refine m_get S hG 48 48 5 rfl ec_48 cpX0 wm_408 dX0_growRows_117 rfl (Nat.lt_of_lt_of_le (Nat.le_of_ble_eq_true rfl) hn) (by decide) ?_
                            refine lv_iload hx hb dX0_growRows_120 (lv_at hl 5 rfl) ?_
                            refine lv_iload hx hb dX0_growRows_122 (lv_at hl 3 rfl) ?_
                            refine gi_add hx hb dX0_growRows_124 ?_
                            refine lv_iload hx hb dX0_growRows_125 (lv_at hl 1 rfl) ?_
                            refine gi_add hx hb dX0_growRows_127 ?_
                            refine lv_aload_n hx hb dX0_growRows_128 rfl (lv_at hl 7 rfl) ?_
                            refine m_get S hG 48 48 5 rfl ec_48 cpX0 wm_408 dX0_growRows_129 rfl (Nat.lt_of_lt_of_le (Nat.le_of_ble_eq_true rfl) hn) (by decide) ?_
                            refine lv_iload hx hb dX0_growRows_132 (lv_at hl 5 rfl) ?_
                            refine lv_iload hx hb dX0_growRows_134 (lv_at hl 3 rfl) ?_
                            refine gi_add hx hb dX0_growRows_136 ?_
                            refine lv_iload hx hb dX0_growRows_137 (lv_at hl 1 rfl) ?_
                            refine gi_add hx hb dX0_growRows_139 ?_
                            obtain ⟨hg_59, hM⟩ := gd_some hM
                            refine mj_ald S hG 52 52 rfl ec_52 (Nat.lt_of_lt_of_le (Nat.le_of_ble_eq_true rfl) hn) dX0_growRows_140 hg_59 (by decide) ?_
                            refine lv_lload hx hb dX0_growRows_141 (lv_at hl 2 rfl) ?_
                            refine lv_lload hx hb dX0_growRows_143 (lv_at hl 0 rfl) ?_
                            obtain ⟨r_61, hc_60, hM⟩ := bd1_some hM
                            refine g_slN (As := [.long (jJ r_42), .long (jJ r_58)]) (rest := [.long (jJ (S_44 52 ((x_14 + v_25) + v_43))), .int (iI ((x_14 + v_25) + v_43)), .ref (b + 52)]) S hG hsz (vX11_times l hn r_42 r_58 hc_60) (y := yX11_times) (host := "GrownKinds") (by decide +kernel) ⟨wm_1053, wm_177, wm_1054, by decide +kernel, by decide +kernel⟩ dX0_growRows_145 rfl hl.1 (ar := 2) (by decide +kernel) rfl ⟨Nat.le_of_ble_eq_true rfl, Nat.le_of_ble_eq_true rfl, Nat.le_of_ble_eq_true rfl, Nat.le_of_ble_eq_true rfl⟩ (Nat.le_of_ble_eq_true rfl) (fun rv uu H locs hp hG => ?_)
                            obtain ⟨rfl, rfl⟩ := hp
                            replace hG : gW D cy b n s H locs (enc b cy X S_44) := hG
                            obtain ⟨r_63, hc_62, hM⟩ := bd1_some hM
                            refine g_slN (As := [.long (jJ (S_44 52 ((x_14 + v_25) + v_43))), .long (jJ r_61)]) (rest := [.int (iI ((x_14 + v_25) + v_43)), .ref (b + 52)]) S hG hsz (vX11_plus l hn (S_44 52 ((x_14 + v_25) + v_43)) r_61 hc_62) (y := yX11_plus) (host := "GrownKinds") (by decide +kernel) ⟨wm_997, wm_177, wm_998, by decide +kernel, by decide +kernel⟩ dX0_growRows_148 rfl hl.1 (ar := 2) (by decide +kernel) rfl ⟨Nat.le_of_ble_eq_true rfl, Nat.le_of_ble_eq_true rfl, Nat.le_of_ble_eq_true rfl, Nat.le_of_ble_eq_true rfl⟩ (Nat.le_of_ble_eq_true rfl) (fun rv uu H locs hp hG => ?_)
                            obtain ⟨rfl, rfl⟩ := hp
                            replace hG : gW D cy b n s H locs (enc b cy X S_44) := hG
                            refine mj_ast S hG 52 52 rfl ec_52 (Nat.lt_of_lt_of_le (Nat.le_of_ble_eq_true rfl) hn) dX0_growRows_151 hg_59 (by decide) (fun H locs S_64 eS_64 hG => ?_)
                            replace hM := nx_at hM eS_64
                            clear eS_64
                            refine lv_iinc (v := iI (v_43 + 1)) (lv' := [(9, .int (iI (v_43 + 1))), (10, .long (jJ r_58)), (7, .long (jJ r_42)), (6, .int (iI v_25)), (5, .int (iI v_15)), (4, .int (iI x_14)), (3, .int (iI v_1)), (0, .ref (b + 48)), (1, .int (iI a1)), (2, .int (iI a2))]) hx hb dX0_growRows_152 hl (k := 1) rfl ((iI_add v_43 (1)).trans (congrArg iI (by omega))) (by decide) rfl (fun ls hl => ?_)
                            refine lv_goto (tgt := 80) hx hb dX0_growRows_155 (by decide) ?_
                            exact ih_49 (v_43 + 1) S_64 H locs ls hM hG (lv_sub hl [0, 2, 3, 4, 5, 6, 7, 8, 9] rfl)
                    exact loop_48 FU 0 S_26 H locs ls hc_46 hG (lv_sub hl [0, 1, 2, 3, 4, 5, 6, 7, 8] rfl)
              exact loop_30 FU 0 S_16 H locs ls hc_28 hG (lv_sub hl [0, 1, 2, 3, 4, 5, 6] rfl)
        exact loop_20 FU 1 S_2 H locs ls hc_18 hG (lv_sub hl [0, 1, 2, 3, 4, 5] rfl)
  exact loop_6 FU 2 S0 H locs ls hc_4 hG (lv_sub hl [0, 1, 2, 3] rfl)
def mX0_addClass_48_57 (x_28 : Int) (v_18 : Int) (v_6 : Int) (x_1 : Int) (a2 : Int) (a3 : Int) (a4 : Int) : Nat → Int → St → Option (St)
  | 0, _, _ => none
  | f + 1, v_29, S_30 => gd (inI v_29) <| if v_6 < v_29 then (some (S_30)) else (gd (inI (v_29 * a3)) <| if a2 < (v_29 * a3) then (some (S_30)) else (gd (inI (v_29 * a4)) <| if v_18 < (v_29 * a4) then (some (S_30)) else (gd (0 ≤ ((((x_1 + ((v_6 - v_29) * 64)) + ((a2 - (v_29 * a3)) * 8)) + v_18) - (v_29 * a4)) ∧ ((((x_1 + ((v_6 - v_29) * 64)) + ((a2 - (v_29 * a3)) * 8)) + v_18) - (v_29 * a4)) < 12288) <| nx (S_30 52 ((((x_1 + ((v_6 - v_29) * 64)) + ((a2 - (v_29 * a3)) * 8)) + v_18) - (v_29 * a4))) fun x_44 => gd (0 ≤ x_28 ∧ x_28 < 12288) <| gd (0 ≤ v_29 ∧ v_29 < 8) <| bd1 (mX11_times (S_30 53 v_29) x_44) fun r_48 => bd1 (mX11_plus (S_30 52 x_28) r_48) fun r_50 => nx (up S_30 52 x_28 r_50) fun S_51 => mX0_addClass_48_57 x_28 v_18 v_6 x_1 a2 a3 a4 f (v_29 + 1) S_51)))
def mX0_addClass_48_31 (v_6 : Int) (x_1 : Int) (a2 : Int) (a3 : Int) (a4 : Int) : Nat → Int → St → Option (St)
  | 0, _, _ => none
  | f + 1, v_18, S_19 => gd (inI v_18) <| if v_18 < 0 then (some (S_19)) else (nx (((x_1 + (v_6 * 64)) + (a2 * 8)) + v_18) fun x_28 => bd1 (mX0_addClass_48_57 x_28 v_18 v_6 x_1 a2 a3 a4 FU 1 S_19) fun S_31 => mX0_addClass_48_31 v_6 x_1 a2 a3 a4 f (v_18 - 1) S_31)
def mX0_addClass_48_18 (x_1 : Int) (a2 : Int) (a3 : Int) (a4 : Int) : Nat → Int → St → Option (St)
  | 0, _, _ => none
  | f + 1, v_6, S_7 => gd (inI v_6) <| if v_6 < 1 then (some (S_7)) else (bd1 (mX0_letterTop_48 S_7 a2) fun r_17 => bd1 (mX0_addClass_48_31 v_6 x_1 a2 a3 a4 FU r_17 S_7) fun S_20 => mX0_addClass_48_18 x_1 a2 a3 a4 f (v_6 - 1) S_20)
def mX0_addClass_48 (S0 : St) (a1 : Int) (a2 : Int) (a3 : Int) (a4 : Int) : Option (St) := nx (a1 * 512) fun x_1 => bd1 (mX0_longest_48 S0 a1) fun r_3 => gd ((inI a2) ∧ (inI r_3)) <| nx (min a2 r_3) fun x_5 => bd1 (mX0_addClass_48_18 x_1 a2 a3 a4 FU x_5 S0) fun S_8 => some (S_8)
set_option maxHeartbeats 4000000 in
set_option maxRecDepth 100000 in
theorem vX0_addClass_48 (l : Launch) {D : va_G} {cy : Nat → ClassId} {b n : Nat} (hn : 102 ≤ n) {X : Nat → va_E} {S0 : St} (a1 : Int) (a2 : Int) (a3 : Int) (a4 : Int) {o1 : St} (hM : mX0_addClass_48 S0 a1 a2 a3 a4 = some o1) : gV l yX0_addClass cX0_addClass 12 1 0 0 D cy b n (enc b cy X S0) [.ref (b + 48), .int (iI a1), .int (iI a2), .int (iI a3), .int (iI a4)] (fun u => u = (n, enc b cy X o1)) := by
  refine gV_of (by decide) (Nat.le_of_ble_eq_true rfl) ?_
  intro p e s m args below meth c S hr hlk hin hsz ls hl hG
  have hx := S.1
  have hb := S.2.1
  have hl : lv_has ls 12 [(0, .ref (b + 48)), (1, .int (iI a1)), (2, .int (iI a2)), (3, .int (iI a3)), (4, .int (iI a4))] := hl
  replace hG : gW D cy b n s s.heap [] (enc b cy X S0) := hG
  obtain ⟨H, eH⟩ : ∃ H, H = s.heap := ⟨_, rfl⟩
  obtain ⟨locs, elocs⟩ : ∃ locs : List Loc, locs = [] := ⟨_, rfl⟩
  rw [← eH, ← elocs] at hG
  rw [← eH, ← elocs]
  clear eH elocs
  unfold mX0_addClass_48 at hM
  refine lv_iload_n hx hb dX0_addClass_0 rfl (lv_at hl 1 rfl) ?_
  refine lv_sipush (v := iI 512) hx hb dX0_addClass_1 (by decide) ?_
  refine gi_mul hx hb dX0_addClass_4 ?_
  refine gi_nm (fun x_1 ex_1 => ?_)
  replace hM := nx_at hM ex_1
  clear ex_1
  refine lv_istore (lv' := [(5, .int (iI x_1)), (0, .ref (b + 48)), (1, .int (iI a1)), (2, .int (iI a2)), (3, .int (iI a3)), (4, .int (iI a4))]) hx hb dX0_addClass_5 hl (by decide) rfl (fun ls hl => ?_)
  refine lv_iload_n hx hb dX0_addClass_7 rfl (lv_at hl 3 rfl) ?_
  refine lv_aload_n hx hb dX0_addClass_8 rfl (lv_at hl 1 rfl) ?_
  refine lv_iload_n hx hb dX0_addClass_9 rfl (lv_at hl 2 rfl) ?_
  obtain ⟨r_3, hc_2, hM⟩ := bd1_some hM
  refine g_vi (As := [.int (iI a1)]) (rest := [.int (iI a2)]) S hG hsz (vX0_longest_48 l hn a1 hc_2) wV_0_176 (ec_48 _) cpX0 (Nat.lt_of_lt_of_le (Nat.le_of_ble_eq_true rfl) hn) dX0_addClass_10 rfl hl.1 (ar := 1) (by decide +kernel) rfl ⟨Nat.le_of_ble_eq_true rfl, Nat.le_of_ble_eq_true rfl, Nat.le_of_ble_eq_true rfl, Nat.le_of_ble_eq_true rfl⟩ (Nat.le_of_ble_eq_true rfl) (fun rv uu H locs hp hG => ?_)
  obtain ⟨rfl, rfl⟩ := hp
  replace hG : gW D cy b n s H locs (enc b cy X S0) := hG
  obtain ⟨hg_4, hM⟩ := gd_some hM
  refine gi_min S wm_1051 wm_761 wm_190 wm_762 hl.1 dX0_addClass_13 ⟨Nat.le_of_ble_eq_true rfl, Nat.le_of_ble_eq_true rfl, Nat.le_of_ble_eq_true rfl, Nat.le_of_ble_eq_true rfl⟩ hg_4.1 hg_4.2 ?_
  refine gi_nm (fun x_5 ex_5 => ?_)
  replace hM := nx_at hM ex_5
  clear ex_5
  refine lv_istore (lv' := [(6, .int (iI x_5)), (5, .int (iI x_1)), (0, .ref (b + 48)), (1, .int (iI a1)), (2, .int (iI a2)), (3, .int (iI a3)), (4, .int (iI a4))]) hx hb dX0_addClass_16 hl (by decide) rfl (fun ls hl => ?_)
  obtain ⟨S_8, hc_9, hM⟩ := bd1_some hM
  have hK_10 : ∀ (H : Heap) (locs : List Loc) (ls : Array Slot), gW D cy b n s H locs (enc b cy X S_8) → lv_has ls 12 [] → W p l e (gRm 1 0 0) s m args below meth c H locs 0 0 (gQV D cy b s args below 0 0 (fun u => u = (n, enc b cy X o1))) (F0 m 166 ls []) := by
    intro H locs ls hG hl
    cases hM
    exact g_vret S hr hlk hG hsz dX0_addClass_166 ⟨Nat.le_of_ble_eq_true rfl, Nat.le_of_ble_eq_true rfl⟩ rfl
  have loop_11 : ∀ (f : Nat) (v_6 : Int) (S_7 : St) (H : Heap) (locs : List Loc) (ls : Array Slot), mX0_addClass_48_18 x_1 a2 a3 a4 f v_6 S_7 = some S_8 → gW D cy b n s H locs (enc b cy X S_7) → lv_has ls 12 [(6, .int (iI v_6)), (5, .int (iI x_1)), (0, .ref (b + 48)), (2, .int (iI a2)), (3, .int (iI a3)), (4, .int (iI a4))] → W p l e (gRm 1 0 0) s m args below meth c H locs 0 0 (gQV D cy b s args below 0 0 (fun u => u = (n, enc b cy X o1))) (F0 m 18 ls []) := by
    clear hM
    intro f
    induction f with
    | zero => intro v_6 S_7 H locs ls hM; rw [mX0_addClass_48_18] at hM; cases hM
    | succ f_13 ih_12 =>
      intro v_6 S_7 H locs ls hM hG hl
      rw [mX0_addClass_48_18] at hM
      refine lv_iload hx hb dX0_addClass_18 (lv_at hl 0 rfl) ?_
      refine lv_iconst (v := iI 1) hx hb dX0_addClass_20 (by decide) ?_
      obtain ⟨hg_14, hM⟩ := gd_some hM
      refine gi_icmp_lt (tgt := 166) hx hb dX0_addClass_21 (by decide) hg_14 (by decide) (fun c_15 => ?_) (fun c_15 => ?_)
      · replace hM := ifp hM c_15
        cases hM
        exact hK_10 H locs ls hG (lv_sub hl [] rfl)
      · replace hM := ifn hM c_15
        refine lv_aload_n hx hb dX0_addClass_24 rfl (lv_at hl 2 rfl) ?_
        refine lv_iload_n hx hb dX0_addClass_25 rfl (lv_at hl 3 rfl) ?_
        obtain ⟨r_17, hc_16, hM⟩ := bd1_some hM
        refine g_vi (As := [.int (iI a2)]) (rest := []) S hG hsz (vX0_letterTop_48 l hn a2 hc_16) wV_0_108 (ec_48 _) cpX0 (Nat.lt_of_lt_of_le (Nat.le_of_ble_eq_true rfl) hn) dX0_addClass_26 rfl hl.1 (ar := 1) (by decide +kernel) rfl ⟨Nat.le_of_ble_eq_true rfl, Nat.le_of_ble_eq_true rfl, Nat.le_of_ble_eq_true rfl, Nat.le_of_ble_eq_true rfl⟩ (Nat.le_of_ble_eq_true rfl) (fun rv uu H locs hp hG => ?_)
        obtain ⟨rfl, rfl⟩ := hp
        replace hG : gW D cy b n s H locs (enc b cy X S_7) := hG
        refine lv_istore (lv' := [(7, .int (iI r_17)), (6, .int (iI v_6)), (5, .int (iI x_1)), (0, .ref (b + 48)), (2, .int (iI a2)), (3, .int (iI a3)), (4, .int (iI a4))]) hx hb dX0_addClass_29 hl (by decide) rfl (fun ls hl => ?_)
        obtain ⟨S_20, hc_21, hM⟩ := bd1_some hM
        have hK_22 : ∀ (H : Heap) (locs : List Loc) (ls : Array Slot), gW D cy b n s H locs (enc b cy X S_20) → lv_has ls 12 [(6, .int (iI v_6)), (5, .int (iI x_1)), (0, .ref (b + 48)), (2, .int (iI a2)), (3, .int (iI a3)), (4, .int (iI a4))] → W p l e (gRm 1 0 0) s m args below meth c H locs 0 0 (gQV D cy b s args below 0 0 (fun u => u = (n, enc b cy X o1))) (F0 m 160 ls []) := by
          intro H locs ls hG hl
          refine lv_iinc (v := iI (v_6 - 1)) (lv' := [(6, .int (iI (v_6 - 1))), (5, .int (iI x_1)), (0, .ref (b + 48)), (2, .int (iI a2)), (3, .int (iI a3)), (4, .int (iI a4))]) hx hb dX0_addClass_160 hl (k := 0) rfl ((iI_add v_6 (-1)).trans (congrArg iI (by omega))) (by decide) rfl (fun ls hl => ?_)
          refine lv_goto (tgt := 18) hx hb dX0_addClass_163 (by decide) ?_
          exact ih_12 (v_6 - 1) S_20 H locs ls hM hG (lv_sub hl [0, 1, 2, 3, 4, 5] rfl)
        have loop_23 : ∀ (f : Nat) (v_18 : Int) (S_19 : St) (H : Heap) (locs : List Loc) (ls : Array Slot), mX0_addClass_48_31 v_6 x_1 a2 a3 a4 f v_18 S_19 = some S_20 → gW D cy b n s H locs (enc b cy X S_19) → lv_has ls 12 [(7, .int (iI v_18)), (6, .int (iI v_6)), (5, .int (iI x_1)), (0, .ref (b + 48)), (2, .int (iI a2)), (3, .int (iI a3)), (4, .int (iI a4))] → W p l e (gRm 1 0 0) s m args below meth c H locs 0 0 (gQV D cy b s args below 0 0 (fun u => u = (n, enc b cy X o1))) (F0 m 31 ls []) := by
          clear hM
          intro f
          induction f with
          | zero => intro v_18 S_19 H locs ls hM; rw [mX0_addClass_48_31] at hM; cases hM
          | succ f_25 ih_24 =>
            intro v_18 S_19 H locs ls hM hG hl
            rw [mX0_addClass_48_31] at hM
            refine lv_iload hx hb dX0_addClass_31 (lv_at hl 0 rfl) ?_
            obtain ⟨hg_26, hM⟩ := gd_some hM
            refine gi_if_lt (tgt := 160) hx hb dX0_addClass_33 (by decide) hg_26 (fun c_27 => ?_) (fun c_27 => ?_)
            · replace hM := ifp hM c_27
              cases hM
              exact hK_22 H locs ls hG (lv_sub hl [1, 2, 3, 4, 5, 6] rfl)
            · replace hM := ifn hM c_27
              refine lv_iload hx hb dX0_addClass_36 (lv_at hl 2 rfl) ?_
              refine lv_iload hx hb dX0_addClass_38 (lv_at hl 1 rfl) ?_
              refine lv_bipush (v := iI 64) hx hb dX0_addClass_40 (by decide) ?_
              refine gi_mul hx hb dX0_addClass_42 ?_
              refine gi_add hx hb dX0_addClass_43 ?_
              refine lv_iload_n hx hb dX0_addClass_44 rfl (lv_at hl 4 rfl) ?_
              refine lv_bipush (v := iI 8) hx hb dX0_addClass_45 (by decide) ?_
              refine gi_mul hx hb dX0_addClass_47 ?_
              refine gi_add hx hb dX0_addClass_48 ?_
              refine lv_iload hx hb dX0_addClass_49 (lv_at hl 0 rfl) ?_
              refine gi_add hx hb dX0_addClass_51 ?_
              refine gi_nm (fun x_28 ex_28 => ?_)
              replace hM := nx_at hM ex_28
              clear ex_28
              refine lv_istore (lv' := [(8, .int (iI x_28)), (7, .int (iI v_18)), (6, .int (iI v_6)), (5, .int (iI x_1)), (0, .ref (b + 48)), (2, .int (iI a2)), (3, .int (iI a3)), (4, .int (iI a4))]) hx hb dX0_addClass_52 hl (by decide) rfl (fun ls hl => ?_)
              refine lv_iconst (v := iI 1) hx hb dX0_addClass_54 (by decide) ?_
              refine lv_istore (lv' := [(9, .int (iI 1)), (8, .int (iI x_28)), (7, .int (iI v_18)), (6, .int (iI v_6)), (5, .int (iI x_1)), (0, .ref (b + 48)), (2, .int (iI a2)), (3, .int (iI a3)), (4, .int (iI a4))]) hx hb dX0_addClass_55 hl (by decide) rfl (fun ls hl => ?_)
              obtain ⟨S_31, hc_32, hM⟩ := bd1_some hM
              have hK_33 : ∀ (H : Heap) (locs : List Loc) (ls : Array Slot), gW D cy b n s H locs (enc b cy X S_31) → lv_has ls 12 [(7, .int (iI v_18)), (6, .int (iI v_6)), (5, .int (iI x_1)), (0, .ref (b + 48)), (2, .int (iI a2)), (3, .int (iI a3)), (4, .int (iI a4))] → W p l e (gRm 1 0 0) s m args below meth c H locs 0 0 (gQV D cy b s args below 0 0 (fun u => u = (n, enc b cy X o1))) (F0 m 154 ls []) := by
                intro H locs ls hG hl
                refine lv_iinc (v := iI (v_18 - 1)) (lv' := [(7, .int (iI (v_18 - 1))), (6, .int (iI v_6)), (5, .int (iI x_1)), (0, .ref (b + 48)), (2, .int (iI a2)), (3, .int (iI a3)), (4, .int (iI a4))]) hx hb dX0_addClass_154 hl (k := 0) rfl ((iI_add v_18 (-1)).trans (congrArg iI (by omega))) (by decide) rfl (fun ls hl => ?_)
                refine lv_goto (tgt := 31) hx hb dX0_addClass_157 (by decide) ?_
                exact ih_24 (v_18 - 1) S_31 H locs ls hM hG (lv_sub hl [0, 1, 2, 3, 4, 5, 6] rfl)
              have loop_34 : ∀ (f : Nat) (v_29 : Int) (S_30 : St) (H : Heap) (locs : List Loc) (ls : Array Slot), mX0_addClass_48_57 x_28 v_18 v_6 x_1 a2 a3 a4 f v_29 S_30 = some S_31 → gW D cy b n s H locs (enc b cy X S_30) → lv_has ls 12 [(9, .int (iI v_29)), (8, .int (iI x_28)), (7, .int (iI v_18)), (6, .int (iI v_6)), (5, .int (iI x_1)), (0, .ref (b + 48)), (2, .int (iI a2)), (3, .int (iI a3)), (4, .int (iI a4))] → W p l e (gRm 1 0 0) s m args below meth c H locs 0 0 (gQV D cy b s args below 0 0 (fun u => u = (n, enc b cy X o1))) (F0 m 57 ls []) := by
                clear hM
                intro f
                induction f with
                | zero => intro v_29 S_30 H locs ls hM; rw [mX0_addClass_48_57] at hM; cases hM
                | succ f_36 ih_35 =>
                  intro v_29 S_30 H locs ls hM hG hl
                  rw [mX0_addClass_48_57] at hM
                  refine lv_iload hx hb dX0_addClass_57 (lv_at hl 0 rfl) ?_
                  refine lv_iload hx hb dX0_addClass_59 (lv_at hl 3 rfl) ?_
                  obtain ⟨hg_37, hM⟩ := gd_some hM
                  refine gi_icmp_gt (tgt := 154) hx hb dX0_addClass_61 (by decide) hg_37 hg_14 (fun c_38 => ?_) (fun c_38 => ?_)
                  · replace hM := ifp hM c_38
                    cases hM
                    exact hK_33 H locs ls hG (lv_sub hl [2, 3, 4, 5, 6, 7, 8] rfl)
                  · replace hM := ifn hM c_38
                    refine lv_iload hx hb dX0_addClass_64 (lv_at hl 0 rfl) ?_
                    refine lv_iload_n hx hb dX0_addClass_66 rfl (lv_at hl 7 rfl) ?_
                    refine gi_mul hx hb dX0_addClass_67 ?_
                    refine lv_iload_n hx hb dX0_addClass_68 rfl (lv_at hl 6 rfl) ?_
                    obtain ⟨hg_39, hM⟩ := gd_some hM
                    refine gi_icmp_gt (tgt := 154) hx hb dX0_addClass_69 (by decide) hg_39 hg_4.1 (fun c_40 => ?_) (fun c_40 => ?_)
                    · replace hM := ifp hM c_40
                      cases hM
                      exact hK_33 H locs ls hG (lv_sub hl [2, 3, 4, 5, 6, 7, 8] rfl)
                    · replace hM := ifn hM c_40
                      refine lv_iload hx hb dX0_addClass_72 (lv_at hl 0 rfl) ?_
                      refine lv_iload hx hb dX0_addClass_74 (lv_at hl 8 rfl) ?_
                      refine gi_mul hx hb dX0_addClass_76 ?_
                      refine lv_iload hx hb dX0_addClass_77 (lv_at hl 2 rfl) ?_
                      obtain ⟨hg_41, hM⟩ := gd_some hM
                      refine gi_icmp_gt (tgt := 154) hx hb dX0_addClass_79 (by decide) hg_41 hg_26 (fun c_42 => ?_) (fun c_42 => ?_)
                      · replace hM := ifp hM c_42
                        cases hM
                        exact hK_33 H locs ls hG (lv_sub hl [2, 3, 4, 5, 6, 7, 8] rfl)
                      · replace hM := ifn hM c_42
                        refine lv_aload_n hx hb dX0_addClass_82 rfl (lv_at hl 5 rfl) ?_
                        refine m_get S hG 48 48 5 rfl ec_48 cpX0 wm_408 dX0_addClass_83 rfl (Nat.lt_of_lt_of_le (Nat.le_of_ble_eq_true rfl) hn) (by decide) ?_
                        refine lv_iload hx hb dX0_addClass_86 (lv_at hl 4 rfl) ?_
                        refine lv_iload hx hb dX0_addClass_88 (lv_at hl 3 rfl) ?_
                        refine lv_iload hx hb dX0_addClass_90 (lv_at hl 0 rfl) ?_
                        refine gi_sub hx hb dX0_addClass_92 ?_
                        refine lv_bipush (v := iI 64) hx hb dX0_addClass_93 (by decide) ?_
                        refine gi_mul hx hb dX0_addClass_95 ?_
                        refine gi_add hx hb dX0_addClass_96 ?_
                        refine lv_iload_n hx hb dX0_addClass_97 rfl (lv_at hl 6 rfl) ?_
                        refine lv_iload hx hb dX0_addClass_98 (lv_at hl 0 rfl) ?_
                        refine lv_iload_n hx hb dX0_addClass_100 rfl (lv_at hl 7 rfl) ?_
                        refine gi_mul hx hb dX0_addClass_101 ?_
                        refine gi_sub hx hb dX0_addClass_102 ?_
                        refine lv_bipush (v := iI 8) hx hb dX0_addClass_103 (by decide) ?_
                        refine gi_mul hx hb dX0_addClass_105 ?_
                        refine gi_add hx hb dX0_addClass_106 ?_
                        refine lv_iload hx hb dX0_addClass_107 (lv_at hl 2 rfl) ?_
                        refine gi_add hx hb dX0_addClass_109 ?_
                        refine lv_iload hx hb dX0_addClass_110 (lv_at hl 0 rfl) ?_
                        refine lv_iload hx hb dX0_addClass_112 (lv_at hl 8 rfl) ?_
                        refine gi_mul hx hb dX0_addClass_114 ?_
                        refine gi_sub hx hb dX0_addClass_115 ?_
                        obtain ⟨hg_43, hM⟩ := gd_some hM
                        refine mj_ald S hG 52 52 rfl ec_52 (Nat.lt_of_lt_of_le (Nat.le_of_ble_eq_true rfl) hn) dX0_addClass_116 hg_43 (by decide) ?_
                        refine gj_nm (fun x_44 ex_44 => ?_)
                        replace hM := nx_at hM ex_44
                        clear ex_44
                        refine lv_lstore (lv' := [(10, .long (jJ x_44)), (9, .int (iI v_29)), (8, .int (iI x_28)), (7, .int (iI v_18)), (6, .int (iI v_6)), (5, .int (iI x_1)), (0, .ref (b + 48)), (2, .int (iI a2)), (3, .int (iI a3)), (4, .int (iI a4))]) hx hb dX0_addClass_117 hl (by decide) rfl (fun ls hl => ?_)
                        refine lv_aload_n hx hb dX0_addClass_119 rfl (lv_at hl 6 rfl) ?_
                        refine m_get S hG 48 48 5 rfl ec_48 cpX0 wm_408 dX0_addClass_120 rfl (Nat.lt_of_lt_of_le (Nat.le_of_ble_eq_true rfl) hn) (by decide) ?_
                        refine lv_iload hx hb dX0_addClass_123 (lv_at hl 2 rfl) ?_
                        refine lv_aload_n hx hb dX0_addClass_125 rfl (lv_at hl 6 rfl) ?_
                        refine m_get S hG 48 48 5 rfl ec_48 cpX0 wm_408 dX0_addClass_126 rfl (Nat.lt_of_lt_of_le (Nat.le_of_ble_eq_true rfl) hn) (by decide) ?_
                        refine lv_iload hx hb dX0_addClass_129 (lv_at hl 2 rfl) ?_
                        obtain ⟨hg_45, hM⟩ := gd_some hM
                        refine mj_ald S hG 52 52 rfl ec_52 (Nat.lt_of_lt_of_le (Nat.le_of_ble_eq_true rfl) hn) dX0_addClass_131 hg_45 (by decide) ?_
                        refine lv_aload_n hx hb dX0_addClass_132 rfl (lv_at hl 6 rfl) ?_
                        refine m_get S hG 48 48 6 rfl ec_48 cpX0 wm_409 dX0_addClass_133 rfl (Nat.lt_of_lt_of_le (Nat.le_of_ble_eq_true rfl) hn) (by decide) ?_
                        refine lv_iload hx hb dX0_addClass_136 (lv_at hl 1 rfl) ?_
                        obtain ⟨hg_46, hM⟩ := gd_some hM
                        refine mj_ald S hG 53 53 rfl ec_53 (Nat.lt_of_lt_of_le (Nat.le_of_ble_eq_true rfl) hn) dX0_addClass_138 hg_46 (by decide) ?_
                        refine lv_lload hx hb dX0_addClass_139 (lv_at hl 0 rfl) ?_
                        obtain ⟨r_48, hc_47, hM⟩ := bd1_some hM
                        refine g_slN (As := [.long (jJ (S_30 53 v_29)), .long (jJ x_44)]) (rest := [.long (jJ (S_30 52 x_28)), .int (iI x_28), .ref (b + 52)]) S hG hsz (vX11_times l hn (S_30 53 v_29) x_44 hc_47) (y := yX11_times) (host := "GrownKinds") (by decide +kernel) ⟨wm_1053, wm_177, wm_1054, by decide +kernel, by decide +kernel⟩ dX0_addClass_141 rfl hl.1 (ar := 2) (by decide +kernel) rfl ⟨Nat.le_of_ble_eq_true rfl, Nat.le_of_ble_eq_true rfl, Nat.le_of_ble_eq_true rfl, Nat.le_of_ble_eq_true rfl⟩ (Nat.le_of_ble_eq_true rfl) (fun rv uu H locs hp hG => ?_)
                        obtain ⟨rfl, rfl⟩ := hp
                        replace hG : gW D cy b n s H locs (enc b cy X S_30) := hG
                        obtain ⟨r_50, hc_49, hM⟩ := bd1_some hM
                        refine g_slN (As := [.long (jJ (S_30 52 x_28)), .long (jJ r_48)]) (rest := [.int (iI x_28), .ref (b + 52)]) S hG hsz (vX11_plus l hn (S_30 52 x_28) r_48 hc_49) (y := yX11_plus) (host := "GrownKinds") (by decide +kernel) ⟨wm_997, wm_177, wm_998, by decide +kernel, by decide +kernel⟩ dX0_addClass_144 rfl hl.1 (ar := 2) (by decide +kernel) rfl ⟨Nat.le_of_ble_eq_true rfl, Nat.le_of_ble_eq_true rfl, Nat.le_of_ble_eq_true rfl, Nat.le_of_ble_eq_true rfl⟩ (Nat.le_of_ble_eq_true rfl) (fun rv uu H locs hp hG => ?_)
                        obtain ⟨rfl, rfl⟩ := hp
                        replace hG : gW D cy b n s H locs (enc b cy X S_30) := hG
                        refine mj_ast S hG 52 52 rfl ec_52 (Nat.lt_of_lt_of_le (Nat.le_of_ble_eq_true rfl) hn) dX0_addClass_147 hg_45 (by decide) (fun H locs S_51 eS_51 hG => ?_)
                        replace hM := nx_at hM eS_51
                        clear eS_51
                        refine lv_iinc (v := iI (v_29 + 1)) (lv' := [(9, .int (iI (v_29 + 1))), (10, .long (jJ x_44)), (8, .int (iI x_28)), (7, .int (iI v_18)), (6, .int (iI v_6)), (5, .int (iI x_1)), (0, .ref (b + 48)), (2, .int (iI a2)), (3, .int (iI a3)), (4, .int (iI a4))]) hx hb dX0_addClass_148 hl (k := 1) rfl ((iI_add v_29 (1)).trans (congrArg iI (by omega))) (by decide) rfl (fun ls hl => ?_)
                        refine lv_goto (tgt := 57) hx hb dX0_addClass_151 (by decide) ?_
                        exact ih_35 (v_29 + 1) S_51 H locs ls hM hG (lv_sub hl [0, 2, 3, 4, 5, 6, 7, 8, 9] rfl)
              exact loop_34 FU 1 S_19 H locs ls hc_32 hG (lv_sub hl [0, 1, 2, 3, 4, 5, 6, 7, 8] rfl)
        exact loop_23 FU r_17 S_7 H locs ls hc_21 hG (lv_sub hl [0, 1, 2, 3, 4, 5, 6] rfl)
  exact loop_11 FU x_5 S0 H locs ls hc_9 hG (lv_sub hl [0, 1, 2, 4, 5, 6] rfl)
def mX0_keepStage_48 (S0 : St) (a1 : Int) (a2 : Int) : Option (St) := gd (inI (S0 48 1)) <| if (S0 48 1) = (-1) then (some (S0)) else (some (S0))
set_option maxHeartbeats 4000000 in
set_option maxRecDepth 100000 in
theorem vX0_keepStage_48 (l : Launch) {D : va_G} {cy : Nat → ClassId} {b n : Nat} (hn : 102 ≤ n) {X : Nat → va_E} {S0 : St} (a1 : Int) (a2 : Int) {o1 : St} (hM : mX0_keepStage_48 S0 a1 a2 = some o1) : gV l yX0_keepStage cX0_keepStage 10 0 0 0 D cy b n (enc b cy X S0) [.ref (b + 48), .int (iI a1), .int (iI a2)] (fun u => u = (n, enc b cy X o1)) := by
  refine gV_of (by decide) (Nat.le_of_ble_eq_true rfl) ?_
  intro p e s m args below meth c S hr hlk hin hsz ls hl hG
  have hx := S.1
  have hb := S.2.1
  have hl : lv_has ls 10 [(0, .ref (b + 48)), (1, .int (iI a1)), (2, .int (iI a2))] := hl
  replace hG : gW D cy b n s s.heap [] (enc b cy X S0) := hG
  obtain ⟨H, eH⟩ : ∃ H, H = s.heap := ⟨_, rfl⟩
  obtain ⟨locs, elocs⟩ : ∃ locs : List Loc, locs = [] := ⟨_, rfl⟩
  rw [← eH, ← elocs] at hG
  rw [← eH, ← elocs]
  clear eH elocs
  unfold mX0_keepStage_48 at hM
  refine lv_aload_n hx hb dX0_keepStage_0 rfl (lv_at hl 0 rfl) ?_
  refine m_get S hG 48 48 1 rfl ec_48 cpX0 wm_404 dX0_keepStage_1 rfl (Nat.lt_of_lt_of_le (Nat.le_of_ble_eq_true rfl) hn) (by decide) ?_
  refine lv_iconst (v := iI (-1)) hx hb dX0_keepStage_4 (by decide) ?_
  obtain ⟨hg_1, hM⟩ := gd_some hM
  refine gi_icmp_ne (tgt := 16) hx hb dX0_keepStage_5 (by decide) hg_1 (by decide) (fun c_2 => ?_) (fun c_2 => ?_)
  · replace hM := ifn hM c_2
    cases hM
    exact g_vret S hr hlk hG hsz dX0_keepStage_16 ⟨Nat.le_of_ble_eq_true rfl, Nat.le_of_ble_eq_true rfl⟩ rfl
  · replace hM := ifp hM c_2
    refine lv_aload_n hx hb dX0_keepStage_8 rfl (lv_at hl 0 rfl) ?_
    refine m_get S hG 48 48 7 rfl ec_48 cpX0 wm_410 dX0_keepStage_9 rfl (Nat.lt_of_lt_of_le (Nat.le_of_ble_eq_true rfl) hn) (by decide) ?_
    refine m_alen S hG 54 2 ec_54 rfl (Nat.lt_of_lt_of_le (Nat.le_of_ble_eq_true rfl) hn) dX0_keepStage_12 (N := 0) (show Int32.ofNat 0 = iI 0 by decide) ?_
    refine gi_if_ne (tgt := 17) hx hb dX0_keepStage_13 (by decide) (by decide) (fun c_3 => absurd c_3 (by decide)) (fun _ => ?_)
    cases hM
    exact g_vret S hr hlk hG hsz dX0_keepStage_16 ⟨Nat.le_of_ble_eq_true rfl, Nat.le_of_ble_eq_true rfl⟩ rfl
def mX0_addClasses_48_103 (v_1 : Int) (a1 : Int) (a2 : Int) : Nat → Int → St → Option (St)
  | 0, _, _ => none
  | f + 1, v_27, S_28 => gd (inI v_27) <| if v_27 < a2 then (some (S_28)) else (bd1 (mX0_addClass_48 S_28 a1 v_27 a2 v_1) fun S_38 => mX0_addClasses_48_103 v_1 a1 a2 f (v_27 - 1) S_38)
def mX0_addClasses_48_35 (r_18 : Int) (v_1 : Int) (a1 : Int) (a2 : Int) : Nat → Int → St → Option (St)
  | 0, _, _ => none
  | f + 1, v_21, S_22 => gd (inI v_21) <| if 8 ≤ v_21 then (some (S_22)) else (gd ((inI (v_21 * a2)) ∧ (inI (S_22 2 0))) <| if (S_22 2 0) < (v_21 * a2) then (some (S_22)) else (gd (0 ≤ a1 ∧ a1 < 24) <| gd (inI (S_22 3 a1)) <| if (S_22 3 a1) = 5 then (bd1 (mX11_picks r_18 v_21 1) fun r_54 => gd (0 ≤ v_21 ∧ v_21 < 8) <| nx (up S_22 53 v_21 r_54) fun S_56 => mX0_addClasses_48_35 r_18 v_1 a1 a2 f (v_21 + 1) S_56) else (bd1 (mX11_picks r_18 v_21 0) fun r_50 => gd (0 ≤ v_21 ∧ v_21 < 8) <| nx (up S_22 53 v_21 r_50) fun S_52 => mX0_addClasses_48_35 r_18 v_1 a1 a2 f (v_21 + 1) S_52)))
def mX0_addClasses_48_2 (a1 : Int) (a2 : Int) : Nat → Int → St → Option (St)
  | 0, _, _ => none
  | f + 1, v_1, S_2 => gd (inI a2) <| if a2 ≤ 0 then (some (S_2)) else (bd1 (mX0_letterTop_48 S_2 a2) fun r_14 => gd ((inI v_1) ∧ (inI r_14)) <| if r_14 < v_1 then (some (S_2)) else (bd1 (mX0_rowsOf_48 S_2 a1 1 a2 v_1) fun r_18 => gd (inL r_18) <| if r_18 ≤ 0 then (mX0_addClasses_48_2 a1 a2 f (v_1 + 1) S_2) else (bd1 (mX0_addClasses_48_35 r_18 v_1 a1 a2 FU 1 S_2) fun S_23 => nx (S_23 2 0) fun x_26 => bd1 (mX0_addClasses_48_103 v_1 a1 a2 FU x_26 S_23) fun S_29 => mX0_addClasses_48_2 a1 a2 f (v_1 + 1) S_29)))
def mX0_addClasses_48 (S0 : St) (a1 : Int) (a2 : Int) : Option (St) := bd1 (mX0_addClasses_48_2 a1 a2 FU 0 S0) fun S_3 => bd1 (mX0_keepStage_48 S_3 a1 a2) fun S_7 => some (S_7)
set_option maxHeartbeats 4000000 in
set_option maxRecDepth 100000 in
theorem vX0_addClasses_48 (l : Launch) {D : va_G} {cy : Nat → ClassId} {b n : Nat} (hn : 102 ≤ n) {X : Nat → va_E} {S0 : St} (a1 : Int) (a2 : Int) {o1 : St} (hM : mX0_addClasses_48 S0 a1 a2 = some o1) : gV l yX0_addClasses cX0_addClasses 7 2 0 0 D cy b n (enc b cy X S0) [.ref (b + 48), .int (iI a1), .int (iI a2)] (fun u => u = (n, enc b cy X o1)) := by
  refine gV_of (by decide) (Nat.le_of_ble_eq_true rfl) ?_
  intro p e s m args below meth c S hr hlk hin hsz ls hl hG
  have hx := S.1
  have hb := S.2.1
  have hl : lv_has ls 7 [(0, .ref (b + 48)), (1, .int (iI a1)), (2, .int (iI a2))] := hl
  replace hG : gW D cy b n s s.heap [] (enc b cy X S0) := hG
  obtain ⟨H, eH⟩ : ∃ H, H = s.heap := ⟨_, rfl⟩
  obtain ⟨locs, elocs⟩ : ∃ locs : List Loc, locs = [] := ⟨_, rfl⟩
  rw [← eH, ← elocs] at hG
  rw [← eH, ← elocs]
  clear eH elocs
  unfold mX0_addClasses_48 at hM
  refine lv_iconst (v := iI 0) hx hb dX0_addClasses_0 (by decide) ?_
  refine lv_istore_n (lv' := [(3, .int (iI 0)), (0, .ref (b + 48)), (1, .int (iI a1)), (2, .int (iI a2))]) hx hb dX0_addClasses_1 rfl hl (by decide) rfl (fun ls hl => ?_)
  obtain ⟨S_3, hc_4, hM⟩ := bd1_some hM
  have hK_5 : ∀ (H : Heap) (locs : List Loc) (ls : Array Slot), gW D cy b n s H locs (enc b cy X S_3) → lv_has ls 7 [(0, .ref (b + 48)), (1, .int (iI a1)), (2, .int (iI a2))] → W p l e (gRm 2 0 0) s m args below meth c H locs 0 0 (gQV D cy b s args below 0 0 (fun u => u = (n, enc b cy X o1))) (F0 m 130 ls []) := by
    intro H locs ls hG hl
    refine lv_aload_n hx hb dX0_addClasses_130 rfl (lv_at hl 0 rfl) ?_
    refine lv_iload_n hx hb dX0_addClasses_131 rfl (lv_at hl 1 rfl) ?_
    refine lv_iload_n hx hb dX0_addClasses_132 rfl (lv_at hl 2 rfl) ?_
    obtain ⟨S_7, hc_6, hM⟩ := bd1_some hM
    refine g_vv (As := [.int (iI a1), .int (iI a2)]) (rest := []) S hG hsz (vX0_keepStage_48 l hn a1 a2 hc_6) wV_0_149 (ec_48 _) cpX0 (Nat.lt_of_lt_of_le (Nat.le_of_ble_eq_true rfl) hn) dX0_addClasses_133 rfl hl.1 (ar := 2) (by decide +kernel) rfl ⟨Nat.le_of_ble_eq_true rfl, Nat.le_of_ble_eq_true rfl, Nat.le_of_ble_eq_true rfl, Nat.le_of_ble_eq_true rfl⟩ (Nat.le_of_ble_eq_true rfl) (fun uu H locs hp hG => ?_)
    obtain rfl := hp
    replace hG : gW D cy b n s H locs (enc b cy X S_7) := hG
    cases hM
    exact g_vret S hr hlk hG hsz dX0_addClasses_136 ⟨Nat.le_of_ble_eq_true rfl, Nat.le_of_ble_eq_true rfl⟩ rfl
  have loop_8 : ∀ (f : Nat) (v_1 : Int) (S_2 : St) (H : Heap) (locs : List Loc) (ls : Array Slot), mX0_addClasses_48_2 a1 a2 f v_1 S_2 = some S_3 → gW D cy b n s H locs (enc b cy X S_2) → lv_has ls 7 [(3, .int (iI v_1)), (0, .ref (b + 48)), (1, .int (iI a1)), (2, .int (iI a2))] → W p l e (gRm 2 0 0) s m args below meth c H locs 0 0 (gQV D cy b s args below 0 0 (fun u => u = (n, enc b cy X o1))) (F0 m 2 ls []) := by
    clear hM
    intro f
    induction f with
    | zero => intro v_1 S_2 H locs ls hM; rw [mX0_addClasses_48_2] at hM; cases hM
    | succ f_10 ih_9 =>
      intro v_1 S_2 H locs ls hM hG hl
      rw [mX0_addClasses_48_2] at hM
      refine lv_iload_n hx hb dX0_addClasses_2 rfl (lv_at hl 3 rfl) ?_
      obtain ⟨hg_11, hM⟩ := gd_some hM
      refine gi_if_le (tgt := 130) hx hb dX0_addClasses_3 (by decide) hg_11 (fun c_12 => ?_) (fun c_12 => ?_)
      · replace hM := ifp hM c_12
        cases hM
        exact hK_5 H locs ls hG (lv_sub hl [1, 2, 3] rfl)
      · replace hM := ifn hM c_12
        refine lv_iload_n hx hb dX0_addClasses_6 rfl (lv_at hl 0 rfl) ?_
        refine lv_aload_n hx hb dX0_addClasses_7 rfl (lv_at hl 1 rfl) ?_
        refine lv_iload_n hx hb dX0_addClasses_8 rfl (lv_at hl 3 rfl) ?_
        obtain ⟨r_14, hc_13, hM⟩ := bd1_some hM
        refine g_vi (As := [.int (iI a2)]) (rest := [.int (iI v_1)]) S hG hsz (vX0_letterTop_48 l hn a2 hc_13) wV_0_108 (ec_48 _) cpX0 (Nat.lt_of_lt_of_le (Nat.le_of_ble_eq_true rfl) hn) dX0_addClasses_9 rfl hl.1 (ar := 1) (by decide +kernel) rfl ⟨Nat.le_of_ble_eq_true rfl, Nat.le_of_ble_eq_true rfl, Nat.le_of_ble_eq_true rfl, Nat.le_of_ble_eq_true rfl⟩ (Nat.le_of_ble_eq_true rfl) (fun rv uu H locs hp hG => ?_)
        obtain ⟨rfl, rfl⟩ := hp
        replace hG : gW D cy b n s H locs (enc b cy X S_2) := hG
        obtain ⟨hg_15, hM⟩ := gd_some hM
        refine gi_icmp_gt (tgt := 130) hx hb dX0_addClasses_12 (by decide) hg_15.1 hg_15.2 (fun c_16 => ?_) (fun c_16 => ?_)
        · replace hM := ifp hM c_16
          cases hM
          exact hK_5 H locs ls hG (lv_sub hl [1, 2, 3] rfl)
        · replace hM := ifn hM c_16
          refine lv_aload_n hx hb dX0_addClasses_15 rfl (lv_at hl 1 rfl) ?_
          refine lv_iload_n hx hb dX0_addClasses_16 rfl (lv_at hl 2 rfl) ?_
          refine lv_iconst (v := iI 1) hx hb dX0_addClasses_17 (by decide) ?_
          refine lv_iload_n hx hb dX0_addClasses_18 rfl (lv_at hl 3 rfl) ?_
          refine lv_iload_n hx hb dX0_addClasses_19 rfl (lv_at hl 0 rfl) ?_
          obtain ⟨r_18, hc_17, hM⟩ := bd1_some hM
          refine g_vl (As := [.int (iI a1), .int (iI 1), .int (iI a2), .int (iI v_1)]) (rest := []) S hG hsz (vX0_rowsOf_48 l hn a1 1 a2 v_1 hc_17) wV_0_101 (ec_48 _) cpX0 (Nat.lt_of_lt_of_le (Nat.le_of_ble_eq_true rfl) hn) dX0_addClasses_20 rfl hl.1 (ar := 4) (by decide +kernel) rfl ⟨Nat.le_of_ble_eq_true rfl, Nat.le_of_ble_eq_true rfl, Nat.le_of_ble_eq_true rfl, Nat.le_of_ble_eq_true rfl⟩ (Nat.le_of_ble_eq_true rfl) (fun rv uu H locs hp hG => ?_)
          obtain ⟨rfl, rfl⟩ := hp
          replace hG : gW D cy b n s H locs (enc b cy X S_2) := hG
          refine lv_lstore (lv' := [(4, .long (jJ r_18)), (3, .int (iI v_1)), (0, .ref (b + 48)), (1, .int (iI a1)), (2, .int (iI a2))]) hx hb dX0_addClasses_23 hl (by decide) rfl (fun ls hl => ?_)
          refine lv_lload hx hb dX0_addClasses_25 (lv_at hl 0 rfl) ?_
          refine lv_lconst (v := jJ 0) hx hb dX0_addClasses_27 (by decide) ?_
          obtain ⟨hg_19, hM⟩ := gd_some hM
          refine gj_cmp_le (tgt := 124) hx hb dX0_addClasses_28 dX0_addClasses_29 (by decide) hg_19 (by decide) (fun c_20 => ?_) (fun c_20 => ?_)
          · replace hM := ifp hM c_20
            refine lv_iinc (v := iI (v_1 + 1)) (lv' := [(3, .int (iI (v_1 + 1))), (4, .long (jJ r_18)), (0, .ref (b + 48)), (1, .int (iI a1)), (2, .int (iI a2))]) hx hb dX0_addClasses_124 hl (k := 1) rfl ((iI_add v_1 (1)).trans (congrArg iI (by omega))) (by decide) rfl (fun ls hl => ?_)
            refine lv_goto (tgt := 2) hx hb dX0_addClasses_127 (by decide) ?_
            exact ih_9 (v_1 + 1) S_2 H locs ls hM hG (lv_sub hl [0, 2, 3, 4] rfl)
          · replace hM := ifn hM c_20
            refine lv_iconst (v := iI 1) hx hb dX0_addClasses_32 (by decide) ?_
            refine lv_istore (lv' := [(6, .int (iI 1)), (4, .long (jJ r_18)), (3, .int (iI v_1)), (0, .ref (b + 48)), (1, .int (iI a1)), (2, .int (iI a2))]) hx hb dX0_addClasses_33 hl (by decide) rfl (fun ls hl => ?_)
            obtain ⟨S_23, hc_24, hM⟩ := bd1_some hM
            have hK_25 : ∀ (H : Heap) (locs : List Loc) (ls : Array Slot), gW D cy b n s H locs (enc b cy X S_23) → lv_has ls 7 [(3, .int (iI v_1)), (0, .ref (b + 48)), (1, .int (iI a1)), (2, .int (iI a2))] → W p l e (gRm 2 0 0) s m args below meth c H locs 0 0 (gQV D cy b s args below 0 0 (fun u => u = (n, enc b cy X o1))) (F0 m 94 ls []) := by
              intro H locs ls hG hl
              refine lv_aload_n hx hb dX0_addClasses_94 rfl (lv_at hl 1 rfl) ?_
              refine m_get S hG 48 48 0 rfl ec_48 cpX0 wm_403 dX0_addClasses_95 rfl (Nat.lt_of_lt_of_le (Nat.le_of_ble_eq_true rfl) hn) (by decide) ?_
              refine m_get S hG 2 2 0 rfl ec_2 cpX2 wm_213 dX0_addClasses_98 rfl (Nat.lt_of_lt_of_le (Nat.le_of_ble_eq_true rfl) hn) (by decide) ?_
              refine gi_nm (fun x_26 ex_26 => ?_)
              replace hM := nx_at hM ex_26
              clear ex_26
              refine lv_istore (lv' := [(6, .int (iI x_26)), (3, .int (iI v_1)), (0, .ref (b + 48)), (1, .int (iI a1)), (2, .int (iI a2))]) hx hb dX0_addClasses_101 hl (by decide) rfl (fun ls hl => ?_)
              obtain ⟨S_29, hc_30, hM⟩ := bd1_some hM
              have hK_31 : ∀ (H : Heap) (locs : List Loc) (ls : Array Slot), gW D cy b n s H locs (enc b cy X S_29) → lv_has ls 7 [(3, .int (iI v_1)), (0, .ref (b + 48)), (1, .int (iI a1)), (2, .int (iI a2))] → W p l e (gRm 2 0 0) s m args below meth c H locs 0 0 (gQV D cy b s args below 0 0 (fun u => u = (n, enc b cy X o1))) (F0 m 124 ls []) := by
                intro H locs ls hG hl
                refine lv_iinc (v := iI (v_1 + 1)) (lv' := [(3, .int (iI (v_1 + 1))), (0, .ref (b + 48)), (1, .int (iI a1)), (2, .int (iI a2))]) hx hb dX0_addClasses_124 hl (k := 0) rfl ((iI_add v_1 (1)).trans (congrArg iI (by omega))) (by decide) rfl (fun ls hl => ?_)
                refine lv_goto (tgt := 2) hx hb dX0_addClasses_127 (by decide) ?_
                exact ih_9 (v_1 + 1) S_29 H locs ls hM hG (lv_sub hl [0, 1, 2, 3] rfl)
              have loop_32 : ∀ (f : Nat) (v_27 : Int) (S_28 : St) (H : Heap) (locs : List Loc) (ls : Array Slot), mX0_addClasses_48_103 v_1 a1 a2 f v_27 S_28 = some S_29 → gW D cy b n s H locs (enc b cy X S_28) → lv_has ls 7 [(6, .int (iI v_27)), (3, .int (iI v_1)), (0, .ref (b + 48)), (1, .int (iI a1)), (2, .int (iI a2))] → W p l e (gRm 2 0 0) s m args below meth c H locs 0 0 (gQV D cy b s args below 0 0 (fun u => u = (n, enc b cy X o1))) (F0 m 103 ls []) := by
                clear hM
                intro f
                induction f with
                | zero => intro v_27 S_28 H locs ls hM; rw [mX0_addClasses_48_103] at hM; cases hM
                | succ f_34 ih_33 =>
                  intro v_27 S_28 H locs ls hM hG hl
                  rw [mX0_addClasses_48_103] at hM
                  refine lv_iload hx hb dX0_addClasses_103 (lv_at hl 0 rfl) ?_
                  refine lv_iload_n hx hb dX0_addClasses_105 rfl (lv_at hl 4 rfl) ?_
                  obtain ⟨hg_35, hM⟩ := gd_some hM
                  refine gi_icmp_lt (tgt := 124) hx hb dX0_addClasses_106 (by decide) hg_35 hg_11 (fun c_36 => ?_) (fun c_36 => ?_)
                  · replace hM := ifp hM c_36
                    cases hM
                    exact hK_31 H locs ls hG (lv_sub hl [1, 2, 3, 4] rfl)
                  · replace hM := ifn hM c_36
                    refine lv_aload_n hx hb dX0_addClasses_109 rfl (lv_at hl 2 rfl) ?_
                    refine lv_iload_n hx hb dX0_addClasses_110 rfl (lv_at hl 3 rfl) ?_
                    refine lv_iload hx hb dX0_addClasses_111 (lv_at hl 0 rfl) ?_
                    refine lv_iload_n hx hb dX0_addClasses_113 rfl (lv_at hl 4 rfl) ?_
                    refine lv_iload_n hx hb dX0_addClasses_114 rfl (lv_at hl 1 rfl) ?_
                    obtain ⟨S_38, hc_37, hM⟩ := bd1_some hM
                    refine g_vv (As := [.int (iI a1), .int (iI v_27), .int (iI a2), .int (iI v_1)]) (rest := []) S hG hsz (vX0_addClass_48 l hn a1 v_27 a2 v_1 hc_37) wV_0_185 (ec_48 _) cpX0 (Nat.lt_of_lt_of_le (Nat.le_of_ble_eq_true rfl) hn) dX0_addClasses_115 rfl hl.1 (ar := 4) (by decide +kernel) rfl ⟨Nat.le_of_ble_eq_true rfl, Nat.le_of_ble_eq_true rfl, Nat.le_of_ble_eq_true rfl, Nat.le_of_ble_eq_true rfl⟩ (Nat.le_of_ble_eq_true rfl) (fun uu H locs hp hG => ?_)
                    obtain rfl := hp
                    replace hG : gW D cy b n s H locs (enc b cy X S_38) := hG
                    refine lv_iinc (v := iI (v_27 - 1)) (lv' := [(6, .int (iI (v_27 - 1))), (3, .int (iI v_1)), (0, .ref (b + 48)), (1, .int (iI a1)), (2, .int (iI a2))]) hx hb dX0_addClasses_118 hl (k := 0) rfl ((iI_add v_27 (-1)).trans (congrArg iI (by omega))) (by decide) rfl (fun ls hl => ?_)
                    refine lv_goto (tgt := 103) hx hb dX0_addClasses_121 (by decide) ?_
                    exact ih_33 (v_27 - 1) S_38 H locs ls hM hG (lv_sub hl [0, 1, 2, 3, 4] rfl)
              exact loop_32 FU x_26 S_23 H locs ls hc_30 hG (lv_sub hl [0, 1, 2, 3, 4] rfl)
            have loop_39 : ∀ (f : Nat) (v_21 : Int) (S_22 : St) (H : Heap) (locs : List Loc) (ls : Array Slot), mX0_addClasses_48_35 r_18 v_1 a1 a2 f v_21 S_22 = some S_23 → gW D cy b n s H locs (enc b cy X S_22) → lv_has ls 7 [(6, .int (iI v_21)), (4, .long (jJ r_18)), (3, .int (iI v_1)), (0, .ref (b + 48)), (1, .int (iI a1)), (2, .int (iI a2))] → W p l e (gRm 2 0 0) s m args below meth c H locs 0 0 (gQV D cy b s args below 0 0 (fun u => u = (n, enc b cy X o1))) (F0 m 35 ls []) := by
              clear hM
              intro f
              induction f with
              | zero => intro v_21 S_22 H locs ls hM; rw [mX0_addClasses_48_35] at hM; cases hM
              | succ f_41 ih_40 =>
                intro v_21 S_22 H locs ls hM hG hl
                rw [mX0_addClasses_48_35] at hM
                refine lv_iload hx hb dX0_addClasses_35 (lv_at hl 0 rfl) ?_
                refine lv_bipush (v := iI 8) hx hb dX0_addClasses_37 (by decide) ?_
                obtain ⟨hg_42, hM⟩ := gd_some hM
                refine gi_icmp_ge (tgt := 94) hx hb dX0_addClasses_39 (by decide) hg_42 (by decide) (fun c_43 => ?_) (fun c_43 => ?_)
                · replace hM := ifp hM c_43
                  cases hM
                  exact hK_25 H locs ls hG (lv_sub hl [2, 3, 4, 5] rfl)
                · replace hM := ifn hM c_43
                  refine lv_iload hx hb dX0_addClasses_42 (lv_at hl 0 rfl) ?_
                  refine lv_iload_n hx hb dX0_addClasses_44 rfl (lv_at hl 5 rfl) ?_
                  refine gi_mul hx hb dX0_addClasses_45 ?_
                  refine lv_aload_n hx hb dX0_addClasses_46 rfl (lv_at hl 3 rfl) ?_
                  refine m_get S hG 48 48 0 rfl ec_48 cpX0 wm_403 dX0_addClasses_47 rfl (Nat.lt_of_lt_of_le (Nat.le_of_ble_eq_true rfl) hn) (by decide) ?_
                  refine m_get S hG 2 2 0 rfl ec_2 cpX2 wm_213 dX0_addClasses_50 rfl (Nat.lt_of_lt_of_le (Nat.le_of_ble_eq_true rfl) hn) (by decide) ?_
                  obtain ⟨hg_44, hM⟩ := gd_some hM
                  refine gi_icmp_gt (tgt := 94) hx hb dX0_addClasses_53 (by decide) hg_44.1 hg_44.2 (fun c_45 => ?_) (fun c_45 => ?_)
                  · replace hM := ifp hM c_45
                    cases hM
                    exact hK_25 H locs ls hG (lv_sub hl [2, 3, 4, 5] rfl)
                  · replace hM := ifn hM c_45
                    refine lv_aload_n hx hb dX0_addClasses_56 rfl (lv_at hl 3 rfl) ?_
                    refine m_get S hG 48 48 6 rfl ec_48 cpX0 wm_409 dX0_addClasses_57 rfl (Nat.lt_of_lt_of_le (Nat.le_of_ble_eq_true rfl) hn) (by decide) ?_
                    refine lv_iload hx hb dX0_addClasses_60 (lv_at hl 0 rfl) ?_
                    refine lv_lload hx hb dX0_addClasses_62 (lv_at hl 1 rfl) ?_
                    refine lv_iload hx hb dX0_addClasses_64 (lv_at hl 0 rfl) ?_
                    refine lv_aload_n hx hb dX0_addClasses_66 rfl (lv_at hl 3 rfl) ?_
                    refine m_get S hG 48 48 0 rfl ec_48 cpX0 wm_403 dX0_addClasses_67 rfl (Nat.lt_of_lt_of_le (Nat.le_of_ble_eq_true rfl) hn) (by decide) ?_
                    refine m_get S hG 2 2 5 rfl ec_2 cpX2 wm_239 dX0_addClasses_70 rfl (Nat.lt_of_lt_of_le (Nat.le_of_ble_eq_true rfl) hn) (by decide) ?_
                    refine lv_iload_n hx hb dX0_addClasses_73 rfl (lv_at hl 4 rfl) ?_
                    obtain ⟨hg_46, hM⟩ := gd_some hM
                    refine mi_ald S hG 3 3 rfl ec_3 (Nat.lt_of_lt_of_le (Nat.le_of_ble_eq_true rfl) hn) dX0_addClasses_74 hg_46 (by decide) ?_
                    refine lv_iconst (v := iI 5) hx hb dX0_addClasses_75 (by decide) ?_
                    obtain ⟨hg_47, hM⟩ := gd_some hM
                    refine gi_icmp_ne (tgt := 83) hx hb dX0_addClasses_76 (by decide) hg_47 (by decide) (fun c_48 => ?_) (fun c_48 => ?_)
                    · replace hM := ifn hM c_48
                      refine lv_iconst (v := iI 0) hx hb dX0_addClasses_83 (by decide) ?_
                      obtain ⟨r_50, hc_49, hM⟩ := bd1_some hM
                      refine g_slN (As := [.long (jJ r_18), .int (iI v_21), .int (iI 0)]) (rest := [.int (iI v_21), .ref (b + 53)]) S hG hsz (vX11_picks l hn r_18 v_21 0 hc_49) (y := yX11_picks) (host := "GrownKinds") (by decide +kernel) ⟨wm_1045, wm_177, wm_1046, by decide +kernel, by decide +kernel⟩ dX0_addClasses_84 rfl hl.1 (ar := 3) (by decide +kernel) rfl ⟨Nat.le_of_ble_eq_true rfl, Nat.le_of_ble_eq_true rfl, Nat.le_of_ble_eq_true rfl, Nat.le_of_ble_eq_true rfl⟩ (Nat.le_of_ble_eq_true rfl) (fun rv uu H locs hp hG => ?_)
                      obtain ⟨rfl, rfl⟩ := hp
                      replace hG : gW D cy b n s H locs (enc b cy X S_22) := hG
                      obtain ⟨hg_51, hM⟩ := gd_some hM
                      refine mj_ast S hG 53 53 rfl ec_53 (Nat.lt_of_lt_of_le (Nat.le_of_ble_eq_true rfl) hn) dX0_addClasses_87 hg_51 (by decide) (fun H locs S_52 eS_52 hG => ?_)
                      replace hM := nx_at hM eS_52
                      clear eS_52
                      refine lv_iinc (v := iI (v_21 + 1)) (lv' := [(6, .int (iI (v_21 + 1))), (4, .long (jJ r_18)), (3, .int (iI v_1)), (0, .ref (b + 48)), (1, .int (iI a1)), (2, .int (iI a2))]) hx hb dX0_addClasses_88 hl (k := 0) rfl ((iI_add v_21 (1)).trans (congrArg iI (by omega))) (by decide) rfl (fun ls hl => ?_)
                      refine lv_goto (tgt := 35) hx hb dX0_addClasses_91 (by decide) ?_
                      exact ih_40 (v_21 + 1) S_52 H locs ls hM hG (lv_sub hl [0, 1, 2, 3, 4, 5] rfl)
                    · replace hM := ifp hM c_48
                      refine lv_iconst (v := iI 1) hx hb dX0_addClasses_79 (by decide) ?_
                      refine lv_goto (tgt := 84) hx hb dX0_addClasses_80 (by decide) ?_
                      obtain ⟨r_54, hc_53, hM⟩ := bd1_some hM
                      refine g_slN (As := [.long (jJ r_18), .int (iI v_21), .int (iI 1)]) (rest := [.int (iI v_21), .ref (b + 53)]) S hG hsz (vX11_picks l hn r_18 v_21 1 hc_53) (y := yX11_picks) (host := "GrownKinds") (by decide +kernel) ⟨wm_1045, wm_177, wm_1046, by decide +kernel, by decide +kernel⟩ dX0_addClasses_84 rfl hl.1 (ar := 3) (by decide +kernel) rfl ⟨Nat.le_of_ble_eq_true rfl, Nat.le_of_ble_eq_true rfl, Nat.le_of_ble_eq_true rfl, Nat.le_of_ble_eq_true rfl⟩ (Nat.le_of_ble_eq_true rfl) (fun rv uu H locs hp hG => ?_)
                      obtain ⟨rfl, rfl⟩ := hp
                      replace hG : gW D cy b n s H locs (enc b cy X S_22) := hG
                      obtain ⟨hg_55, hM⟩ := gd_some hM
                      refine mj_ast S hG 53 53 rfl ec_53 (Nat.lt_of_lt_of_le (Nat.le_of_ble_eq_true rfl) hn) dX0_addClasses_87 hg_55 (by decide) (fun H locs S_56 eS_56 hG => ?_)
                      replace hM := nx_at hM eS_56
                      clear eS_56
                      refine lv_iinc (v := iI (v_21 + 1)) (lv' := [(6, .int (iI (v_21 + 1))), (4, .long (jJ r_18)), (3, .int (iI v_1)), (0, .ref (b + 48)), (1, .int (iI a1)), (2, .int (iI a2))]) hx hb dX0_addClasses_88 hl (k := 0) rfl ((iI_add v_21 (1)).trans (congrArg iI (by omega))) (by decide) rfl (fun ls hl => ?_)
                      refine lv_goto (tgt := 35) hx hb dX0_addClasses_91 (by decide) ?_
                      exact ih_40 (v_21 + 1) S_56 H locs ls hM hG (lv_sub hl [0, 1, 2, 3, 4, 5] rfl)
            exact loop_39 FU 1 S_2 H locs ls hc_24 hG (lv_sub hl [0, 1, 2, 3, 4, 5] rfl)
  exact loop_8 FU 0 S0 H locs ls hc_4 hG (lv_sub hl [0, 1, 2, 3] rfl)
def mX0_ringsOf_48_6 (S0 : St) (a1 : Int) (a2 : Int) (a3 : Int) (a4 : Int) : Nat → Int → Int → Option (Int)
  | 0, _, _ => none
  | f + 1, v_1, v_2 => bd1 (gd (inI (S0 48 1)) <| if (S0 48 1) = (-2) then (some (1)) else (some (a2))) fun z_12 => gd ((inI v_1) ∧ (inI z_12)) <| if z_12 < v_1 then (some (v_2)) else (gd ((0 ≤ a2 ∧ a2 ≤ 2147483647) ∧ (0 < v_1 ∧ v_1 ≤ 2147483647)) <| gd (inI (a2 % v_1)) <| if (a2 % v_1) = 0 then (gd (0 ≤ a3 ∧ a3 ≤ 2147483647) <| gd (inI (a3 % v_1)) <| if (a3 % v_1) = 0 then (gd (0 ≤ a4 ∧ a4 ≤ 2147483647) <| gd (inI (a4 % v_1)) <| if (a4 % v_1) = 0 then (gd (0 ≤ v_1 ∧ v_1 < 8) <| gd (inI (sby lTOTIENT v_1)) <| bd1 (mX0_rowsOf_48 S0 a1 (a2 / v_1) (a3 / v_1) (a4 / v_1)) fun r_29 => nx (v_2 + ((sby lTOTIENT v_1) * r_29)) fun x_30 => mX0_ringsOf_48_6 S0 a1 a2 a3 a4 f (v_1 + 1) x_30) else (mX0_ringsOf_48_6 S0 a1 a2 a3 a4 f (v_1 + 1) v_2)) else (mX0_ringsOf_48_6 S0 a1 a2 a3 a4 f (v_1 + 1) v_2)) else (mX0_ringsOf_48_6 S0 a1 a2 a3 a4 f (v_1 + 1) v_2))
def mX0_ringsOf_48 (S0 : St) (a1 : Int) (a2 : Int) (a3 : Int) (a4 : Int) : Option (Int) := bd1 (mX0_ringsOf_48_6 S0 a1 a2 a3 a4 FU 1 0) fun y_3 => gd (inI a2) <| if 1 ≤ a2 then (gd ((0 ≤ y_3 ∧ y_3 ≤ 9223372036854775807) ∧ (0 < a2 ∧ a2 ≤ 9223372036854775807)) <| some ((y_3 / a2))) else (some (0))
set_option maxHeartbeats 4000000 in
set_option maxRecDepth 100000 in
theorem vX0_ringsOf_48 (l : Launch) {D : va_G} {cy : Nat → ClassId} {b n : Nat} (hn : 102 ≤ n) {X : Nat → va_E} {S0 : St} (a1 : Int) (a2 : Int) (a3 : Int) (a4 : Int) {o1 : Int} (hM : mX0_ringsOf_48 S0 a1 a2 a3 a4 = some o1) : gL l yX0_ringsOf cX0_ringsOf 8 1 0 0 D cy b n (enc b cy X S0) [.ref (b + 48), .int (iI a1), .int (iI a2), .int (iI a3), .int (iI a4)] (fun r u => r = jJ o1 ∧ u = (n, enc b cy X S0)) := by
  refine gL_of (by decide) (Nat.le_of_ble_eq_true rfl) ?_
  intro p e s m args below meth c S hr hlk hin hsz ls hl hG
  have hx := S.1
  have hb := S.2.1
  have hl : lv_has ls 8 [(0, .ref (b + 48)), (1, .int (iI a1)), (2, .int (iI a2)), (3, .int (iI a3)), (4, .int (iI a4))] := hl
  replace hG : gW D cy b n s s.heap [] (enc b cy X S0) := hG
  obtain ⟨H, eH⟩ : ∃ H, H = s.heap := ⟨_, rfl⟩
  obtain ⟨locs, elocs⟩ : ∃ locs : List Loc, locs = [] := ⟨_, rfl⟩
  rw [← eH, ← elocs] at hG
  rw [← eH, ← elocs]
  clear eH elocs
  unfold mX0_ringsOf_48 at hM
  refine lv_lconst (v := jJ 0) hx hb dX0_ringsOf_0 (by decide) ?_
  refine lv_lstore (lv' := [(5, .long (jJ 0)), (0, .ref (b + 48)), (1, .int (iI a1)), (2, .int (iI a2)), (3, .int (iI a3)), (4, .int (iI a4))]) hx hb dX0_ringsOf_1 hl (by decide) rfl (fun ls hl => ?_)
  refine lv_iconst (v := iI 1) hx hb dX0_ringsOf_3 (by decide) ?_
  refine lv_istore (lv' := [(7, .int (iI 1)), (5, .long (jJ 0)), (0, .ref (b + 48)), (1, .int (iI a1)), (2, .int (iI a2)), (3, .int (iI a3)), (4, .int (iI a4))]) hx hb dX0_ringsOf_4 hl (by decide) rfl (fun ls hl => ?_)
  obtain ⟨y_3, hc_4, hM⟩ := bd1_some hM
  have hK_5 : ∀ (H : Heap) (locs : List Loc) (ls : Array Slot), gW D cy b n s H locs (enc b cy X S0) → lv_has ls 8 [(2, .int (iI a2)), (5, .long (jJ y_3))] → W p l e (gRm 1 0 0) s m args below meth c H locs 0 0 (gQL D cy b s args below 0 0 (fun r u => r = jJ o1 ∧ u = (n, enc b cy X S0))) (F0 m 84 ls []) := by
    intro H locs ls hG hl
    refine lv_iload_n hx hb dX0_ringsOf_84 rfl (lv_at hl 0 rfl) ?_
    refine lv_iconst (v := iI 1) hx hb dX0_ringsOf_85 (by decide) ?_
    obtain ⟨hg_6, hM⟩ := gd_some hM
    refine gi_icmp_ge (tgt := 93) hx hb dX0_ringsOf_86 (by decide) hg_6 (by decide) (fun c_7 => ?_) (fun c_7 => ?_)
    · replace hM := ifp hM c_7
      refine lv_lload hx hb dX0_ringsOf_93 (lv_at hl 1 rfl) ?_
      refine lv_iload_n hx hb dX0_ringsOf_95 rfl (lv_at hl 0 rfl) ?_
      refine gi_i2l hx hb dX0_ringsOf_96 hg_6 ?_
      obtain ⟨hg_8, hM⟩ := gd_some hM
      refine gj_div hx hb dX0_ringsOf_97 hg_8.1 hg_8.2 ?_
      cases hM
      exact g_lret S hr hlk hG hsz dX0_ringsOf_98 ⟨Nat.le_of_ble_eq_true rfl, Nat.le_of_ble_eq_true rfl⟩ ⟨rfl, rfl⟩
    · replace hM := ifn hM c_7
      refine lv_lconst (v := jJ 0) hx hb dX0_ringsOf_89 (by decide) ?_
      refine lv_goto (tgt := 98) hx hb dX0_ringsOf_90 (by decide) ?_
      cases hM
      exact g_lret S hr hlk hG hsz dX0_ringsOf_98 ⟨Nat.le_of_ble_eq_true rfl, Nat.le_of_ble_eq_true rfl⟩ ⟨rfl, rfl⟩
  have loop_9 : ∀ (f : Nat) (v_1 : Int) (v_2 : Int) (H : Heap) (locs : List Loc) (ls : Array Slot), mX0_ringsOf_48_6 S0 a1 a2 a3 a4 f v_1 v_2 = some y_3 → gW D cy b n s H locs (enc b cy X S0) → lv_has ls 8 [(7, .int (iI v_1)), (5, .long (jJ v_2)), (0, .ref (b + 48)), (1, .int (iI a1)), (2, .int (iI a2)), (3, .int (iI a3)), (4, .int (iI a4))] → W p l e (gRm 1 0 0) s m args below meth c H locs 0 0 (gQL D cy b s args below 0 0 (fun r u => r = jJ o1 ∧ u = (n, enc b cy X S0))) (F0 m 6 ls []) := by
    clear hM
    intro f
    induction f with
    | zero => intro v_1 v_2 H locs ls hM; rw [mX0_ringsOf_48_6] at hM; cases hM
    | succ f_11 ih_10 =>
      intro v_1 v_2 H locs ls hM hG hl
      rw [mX0_ringsOf_48_6] at hM
      refine lv_iload hx hb dX0_ringsOf_6 (lv_at hl 0 rfl) ?_
      refine lv_aload_n hx hb dX0_ringsOf_8 rfl (lv_at hl 2 rfl) ?_
      refine m_get S hG 48 48 1 rfl ec_48 cpX0 wm_404 dX0_ringsOf_9 rfl (Nat.lt_of_lt_of_le (Nat.le_of_ble_eq_true rfl) hn) (by decide) ?_
      refine lv_bipush (v := iI (-2)) hx hb dX0_ringsOf_12 (by decide) ?_
      obtain ⟨z_12, hc_13, hM⟩ := bd1_some hM
      have hK_14 : ∀ (H : Heap) (locs : List Loc) (ls : Array Slot), gW D cy b n s H locs (enc b cy X S0) → lv_has ls 8 [(7, .int (iI v_1)), (5, .long (jJ v_2)), (0, .ref (b + 48)), (1, .int (iI a1)), (2, .int (iI a2)), (3, .int (iI a3)), (4, .int (iI a4))] → W p l e (gRm 1 0 0) s m args below meth c H locs 0 0 (gQL D cy b s args below 0 0 (fun r u => r = jJ o1 ∧ u = (n, enc b cy X S0))) (F0 m 22 ls [.int (iI z_12), .int (iI v_1)]) := by
        intro H locs ls hG hl
        obtain ⟨hg_15, hM⟩ := gd_some hM
        refine gi_icmp_gt (tgt := 84) hx hb dX0_ringsOf_22 (by decide) hg_15.1 hg_15.2 (fun c_16 => ?_) (fun c_16 => ?_)
        · replace hM := ifp hM c_16
          cases hM
          exact hK_5 H locs ls hG (lv_sub hl [4, 1] rfl)
        · replace hM := ifn hM c_16
          refine lv_iload_n hx hb dX0_ringsOf_25 rfl (lv_at hl 4 rfl) ?_
          refine lv_iload hx hb dX0_ringsOf_26 (lv_at hl 0 rfl) ?_
          obtain ⟨hg_17, hM⟩ := gd_some hM
          refine gi_rem hx hb dX0_ringsOf_28 hg_17.1 hg_17.2 ?_
          obtain ⟨hg_18, hM⟩ := gd_some hM
          refine gi_if_ne (tgt := 78) hx hb dX0_ringsOf_29 (by decide) hg_18 (fun c_19 => ?_) (fun c_19 => ?_)
          · replace hM := ifn hM c_19
            refine lv_iinc (v := iI (v_1 + 1)) (lv' := [(7, .int (iI (v_1 + 1))), (5, .long (jJ v_2)), (0, .ref (b + 48)), (1, .int (iI a1)), (2, .int (iI a2)), (3, .int (iI a3)), (4, .int (iI a4))]) hx hb dX0_ringsOf_78 hl (k := 0) rfl ((iI_add v_1 (1)).trans (congrArg iI (by omega))) (by decide) rfl (fun ls hl => ?_)
            refine lv_goto (tgt := 6) hx hb dX0_ringsOf_81 (by decide) ?_
            exact ih_10 (v_1 + 1) v_2 H locs ls hM hG (lv_sub hl [0, 1, 2, 3, 4, 5, 6] rfl)
          · replace hM := ifp hM c_19
            refine lv_iload_n hx hb dX0_ringsOf_32 rfl (lv_at hl 5 rfl) ?_
            refine lv_iload hx hb dX0_ringsOf_33 (lv_at hl 0 rfl) ?_
            obtain ⟨hg_20, hM⟩ := gd_some hM
            refine gi_rem hx hb dX0_ringsOf_35 hg_20 hg_17.2 ?_
            obtain ⟨hg_21, hM⟩ := gd_some hM
            refine gi_if_ne (tgt := 78) hx hb dX0_ringsOf_36 (by decide) hg_21 (fun c_22 => ?_) (fun c_22 => ?_)
            · replace hM := ifn hM c_22
              refine lv_iinc (v := iI (v_1 + 1)) (lv' := [(7, .int (iI (v_1 + 1))), (5, .long (jJ v_2)), (0, .ref (b + 48)), (1, .int (iI a1)), (2, .int (iI a2)), (3, .int (iI a3)), (4, .int (iI a4))]) hx hb dX0_ringsOf_78 hl (k := 0) rfl ((iI_add v_1 (1)).trans (congrArg iI (by omega))) (by decide) rfl (fun ls hl => ?_)
              refine lv_goto (tgt := 6) hx hb dX0_ringsOf_81 (by decide) ?_
              exact ih_10 (v_1 + 1) v_2 H locs ls hM hG (lv_sub hl [0, 1, 2, 3, 4, 5, 6] rfl)
            · replace hM := ifp hM c_22
              refine lv_iload hx hb dX0_ringsOf_39 (lv_at hl 6 rfl) ?_
              refine lv_iload hx hb dX0_ringsOf_41 (lv_at hl 0 rfl) ?_
              obtain ⟨hg_23, hM⟩ := gd_some hM
              refine gi_rem hx hb dX0_ringsOf_43 hg_23 hg_17.2 ?_
              obtain ⟨hg_24, hM⟩ := gd_some hM
              refine gi_if_ne (tgt := 78) hx hb dX0_ringsOf_44 (by decide) hg_24 (fun c_25 => ?_) (fun c_25 => ?_)
              · replace hM := ifn hM c_25
                refine lv_iinc (v := iI (v_1 + 1)) (lv' := [(7, .int (iI (v_1 + 1))), (5, .long (jJ v_2)), (0, .ref (b + 48)), (1, .int (iI a1)), (2, .int (iI a2)), (3, .int (iI a3)), (4, .int (iI a4))]) hx hb dX0_ringsOf_78 hl (k := 0) rfl ((iI_add v_1 (1)).trans (congrArg iI (by omega))) (by decide) rfl (fun ls hl => ?_)
                refine lv_goto (tgt := 6) hx hb dX0_ringsOf_81 (by decide) ?_
                exact ih_10 (v_1 + 1) v_2 H locs ls hM hG (lv_sub hl [0, 1, 2, 3, 4, 5, 6] rfl)
              · replace hM := ifp hM c_25
                refine lv_lload hx hb dX0_ringsOf_47 (lv_at hl 1 rfl) ?_
                refine g_gsaN (host := "GrownKinds") S hG gsa1 (by decide +kernel) dX0_ringsOf_49 ?_
                refine lv_iload hx hb dX0_ringsOf_52 (lv_at hl 0 rfl) ?_
                obtain ⟨hg_26, hM⟩ := gd_some hM
                refine g_sald S hG gsa1 dX0_ringsOf_54 hg_26 (by decide) ?_
                obtain ⟨hg_27, hM⟩ := gd_some hM
                refine gi_i2l hx hb dX0_ringsOf_55 hg_27 ?_
                refine lv_aload_n hx hb dX0_ringsOf_56 rfl (lv_at hl 2 rfl) ?_
                refine lv_iload_n hx hb dX0_ringsOf_57 rfl (lv_at hl 3 rfl) ?_
                refine lv_iload_n hx hb dX0_ringsOf_58 rfl (lv_at hl 4 rfl) ?_
                refine lv_iload hx hb dX0_ringsOf_59 (lv_at hl 0 rfl) ?_
                refine gi_div hx hb dX0_ringsOf_61 hg_17.1 hg_17.2 ?_
                refine lv_iload_n hx hb dX0_ringsOf_62 rfl (lv_at hl 5 rfl) ?_
                refine lv_iload hx hb dX0_ringsOf_63 (lv_at hl 0 rfl) ?_
                refine gi_div hx hb dX0_ringsOf_65 hg_20 hg_17.2 ?_
                refine lv_iload hx hb dX0_ringsOf_66 (lv_at hl 6 rfl) ?_
                refine lv_iload hx hb dX0_ringsOf_68 (lv_at hl 0 rfl) ?_
                refine gi_div hx hb dX0_ringsOf_70 hg_23 hg_17.2 ?_
                obtain ⟨r_29, hc_28, hM⟩ := bd1_some hM
                refine g_vl (As := [.int (iI a1), .int (iI (a2 / v_1)), .int (iI (a3 / v_1)), .int (iI (a4 / v_1))]) (rest := [.long (jJ (sby lTOTIENT v_1)), .long (jJ v_2)]) S hG hsz (vX0_rowsOf_48 l hn a1 (a2 / v_1) (a3 / v_1) (a4 / v_1) hc_28) wV_0_101 (ec_48 _) cpX0 (Nat.lt_of_lt_of_le (Nat.le_of_ble_eq_true rfl) hn) dX0_ringsOf_71 rfl hl.1 (ar := 4) (by decide +kernel) rfl ⟨Nat.le_of_ble_eq_true rfl, Nat.le_of_ble_eq_true rfl, Nat.le_of_ble_eq_true rfl, Nat.le_of_ble_eq_true rfl⟩ (Nat.le_of_ble_eq_true rfl) (fun rv uu H locs hp hG => ?_)
                obtain ⟨rfl, rfl⟩ := hp
                replace hG : gW D cy b n s H locs (enc b cy X S0) := hG
                refine gj_mul hx hb dX0_ringsOf_74 ?_
                refine gj_add hx hb dX0_ringsOf_75 ?_
                refine gj_nm (fun x_30 ex_30 => ?_)
                replace hM := nx_at hM ex_30
                clear ex_30
                refine lv_lstore (lv' := [(5, .long (jJ x_30)), (7, .int (iI v_1)), (0, .ref (b + 48)), (1, .int (iI a1)), (2, .int (iI a2)), (3, .int (iI a3)), (4, .int (iI a4))]) hx hb dX0_ringsOf_76 hl (by decide) rfl (fun ls hl => ?_)
                refine lv_iinc (v := iI (v_1 + 1)) (lv' := [(7, .int (iI (v_1 + 1))), (5, .long (jJ x_30)), (0, .ref (b + 48)), (1, .int (iI a1)), (2, .int (iI a2)), (3, .int (iI a3)), (4, .int (iI a4))]) hx hb dX0_ringsOf_78 hl (k := 1) rfl ((iI_add v_1 (1)).trans (congrArg iI (by omega))) (by decide) rfl (fun ls hl => ?_)
                refine lv_goto (tgt := 6) hx hb dX0_ringsOf_81 (by decide) ?_
                exact ih_10 (v_1 + 1) x_30 H locs ls hM hG (lv_sub hl [0, 1, 2, 3, 4, 5, 6] rfl)
      clear hM
      replace hM := hc_13
      obtain ⟨hg_31, hM⟩ := gd_some hM
      refine gi_icmp_ne (tgt := 21) hx hb dX0_ringsOf_14 (by decide) hg_31 (by decide) (fun c_32 => ?_) (fun c_32 => ?_)
      · replace hM := ifn hM c_32
        refine lv_iload_n hx hb dX0_ringsOf_21 rfl (lv_at hl 4 rfl) ?_
        cases hM
        exact hK_14 H locs ls hG (lv_sub hl [0, 1, 2, 3, 4, 5, 6] rfl)
      · replace hM := ifp hM c_32
        refine lv_iconst (v := iI 1) hx hb dX0_ringsOf_17 (by decide) ?_
        refine lv_goto (tgt := 22) hx hb dX0_ringsOf_18 (by decide) ?_
        cases hM
        exact hK_14 H locs ls hG (lv_sub hl [0, 1, 2, 3, 4, 5, 6] rfl)
  exact loop_9 FU 1 0 H locs ls hc_4 hG (lv_sub hl [0, 1, 2, 3, 4, 5, 6] rfl)
def mX0_sequencesOf_48 (S0 : St) (a1 : Int) (a2 : Int) (a3 : Int) (a4 : Int) : Option (Int) := gd (0 ≤ a1 ∧ a1 < 24) <| nx (S0 3 a1) fun x_2 => bd1 (mX0_inClasses_48 S0 a1) fun r_4 => gd (inI r_4) <| if r_4 = 0 then (gd (inI x_2) <| if x_2 = 6 then (bd1 (mX0_ringsOf_48 S0 a1 a2 a3 a4) fun r_17 => some (r_17)) else (bd1 (mX0_rowsOf_48 S0 a1 a2 a3 a4) fun r_10 => if x_2 = 3 then (gd (0 ≤ r_10 ∧ r_10 ≤ 9223372036854775807) <| some ((r_10 / 1))) else (gd (0 ≤ a2 ∧ a2 < 8) <| gd (inI (sby lFACTORIAL a2)) <| gd ((0 ≤ r_10 ∧ r_10 ≤ 9223372036854775807) ∧ (0 < (sby lFACTORIAL a2) ∧ (sby lFACTORIAL a2) ≤ 9223372036854775807)) <| some ((r_10 / (sby lFACTORIAL a2)))))) else (gd (0 ≤ ((((a1 * 512) + (a2 * 64)) + (a3 * 8)) + a4) ∧ ((((a1 * 512) + (a2 * 64)) + (a3 * 8)) + a4) < 12288) <| some ((S0 52 ((((a1 * 512) + (a2 * 64)) + (a3 * 8)) + a4))))
set_option maxHeartbeats 4000000 in
set_option maxRecDepth 100000 in
theorem vX0_sequencesOf_48 (l : Launch) {D : va_G} {cy : Nat → ClassId} {b n : Nat} (hn : 102 ≤ n) {X : Nat → va_E} {S0 : St} (a1 : Int) (a2 : Int) (a3 : Int) (a4 : Int) {o1 : Int} (hM : mX0_sequencesOf_48 S0 a1 a2 a3 a4 = some o1) : gL l yX0_sequencesOf cX0_sequencesOf 6 2 0 0 D cy b n (enc b cy X S0) [.ref (b + 48), .int (iI a1), .int (iI a2), .int (iI a3), .int (iI a4)] (fun r u => r = jJ o1 ∧ u = (n, enc b cy X S0)) := by
  refine gL_of (by decide) (Nat.le_of_ble_eq_true rfl) ?_
  intro p e s m args below meth c S hr hlk hin hsz ls hl hG
  have hx := S.1
  have hb := S.2.1
  have hl : lv_has ls 6 [(0, .ref (b + 48)), (1, .int (iI a1)), (2, .int (iI a2)), (3, .int (iI a3)), (4, .int (iI a4))] := hl
  replace hG : gW D cy b n s s.heap [] (enc b cy X S0) := hG
  obtain ⟨H, eH⟩ : ∃ H, H = s.heap := ⟨_, rfl⟩
  obtain ⟨locs, elocs⟩ : ∃ locs : List Loc, locs = [] := ⟨_, rfl⟩
  rw [← eH, ← elocs] at hG
  rw [← eH, ← elocs]
  clear eH elocs
  unfold mX0_sequencesOf_48 at hM
  refine lv_aload_n hx hb dX0_sequencesOf_0 rfl (lv_at hl 0 rfl) ?_
  refine m_get S hG 48 48 0 rfl ec_48 cpX0 wm_403 dX0_sequencesOf_1 rfl (Nat.lt_of_lt_of_le (Nat.le_of_ble_eq_true rfl) hn) (by decide) ?_
  refine m_get S hG 2 2 5 rfl ec_2 cpX2 wm_239 dX0_sequencesOf_4 rfl (Nat.lt_of_lt_of_le (Nat.le_of_ble_eq_true rfl) hn) (by decide) ?_
  refine lv_iload_n hx hb dX0_sequencesOf_7 rfl (lv_at hl 1 rfl) ?_
  obtain ⟨hg_1, hM⟩ := gd_some hM
  refine mi_ald S hG 3 3 rfl ec_3 (Nat.lt_of_lt_of_le (Nat.le_of_ble_eq_true rfl) hn) dX0_sequencesOf_8 hg_1 (by decide) ?_
  refine gi_nm (fun x_2 ex_2 => ?_)
  replace hM := nx_at hM ex_2
  clear ex_2
  refine lv_istore (lv' := [(5, .int (iI x_2)), (0, .ref (b + 48)), (1, .int (iI a1)), (2, .int (iI a2)), (3, .int (iI a3)), (4, .int (iI a4))]) hx hb dX0_sequencesOf_9 hl (by decide) rfl (fun ls hl => ?_)
  refine lv_aload_n hx hb dX0_sequencesOf_11 rfl (lv_at hl 1 rfl) ?_
  refine lv_iload_n hx hb dX0_sequencesOf_12 rfl (lv_at hl 2 rfl) ?_
  obtain ⟨r_4, hc_3, hM⟩ := bd1_some hM
  refine g_vi (As := [.int (iI a1)]) (rest := []) S hG hsz (vX0_inClasses_48 l hn a1 hc_3) wV_0_155 (ec_48 _) cpX0 (Nat.lt_of_lt_of_le (Nat.le_of_ble_eq_true rfl) hn) dX0_sequencesOf_13 rfl hl.1 (ar := 1) (by decide +kernel) rfl ⟨Nat.le_of_ble_eq_true rfl, Nat.le_of_ble_eq_true rfl, Nat.le_of_ble_eq_true rfl, Nat.le_of_ble_eq_true rfl⟩ (Nat.le_of_ble_eq_true rfl) (fun rv uu H locs hp hG => ?_)
  obtain ⟨rfl, rfl⟩ := hp
  replace hG : gW D cy b n s H locs (enc b cy X S0) := hG
  obtain ⟨hg_5, hM⟩ := gd_some hM
  refine gi_if_eq (tgt := 43) hx hb dX0_sequencesOf_16 (by decide) hg_5 (fun c_6 => ?_) (fun c_6 => ?_)
  · replace hM := ifp hM c_6
    refine lv_iload hx hb dX0_sequencesOf_43 (lv_at hl 0 rfl) ?_
    refine lv_bipush (v := iI 6) hx hb dX0_sequencesOf_45 (by decide) ?_
    obtain ⟨hg_7, hM⟩ := gd_some hM
    refine gi_icmp_ne (tgt := 60) hx hb dX0_sequencesOf_47 (by decide) hg_7 (by decide) (fun c_8 => ?_) (fun c_8 => ?_)
    · replace hM := ifn hM c_8
      refine lv_aload_n hx hb dX0_sequencesOf_60 rfl (lv_at hl 1 rfl) ?_
      refine lv_iload_n hx hb dX0_sequencesOf_61 rfl (lv_at hl 2 rfl) ?_
      refine lv_iload_n hx hb dX0_sequencesOf_62 rfl (lv_at hl 3 rfl) ?_
      refine lv_iload_n hx hb dX0_sequencesOf_63 rfl (lv_at hl 4 rfl) ?_
      refine lv_iload hx hb dX0_sequencesOf_64 (lv_at hl 5 rfl) ?_
      obtain ⟨r_10, hc_9, hM⟩ := bd1_some hM
      refine g_vl (As := [.int (iI a1), .int (iI a2), .int (iI a3), .int (iI a4)]) (rest := []) S hG hsz (vX0_rowsOf_48 l hn a1 a2 a3 a4 hc_9) wV_0_101 (ec_48 _) cpX0 (Nat.lt_of_lt_of_le (Nat.le_of_ble_eq_true rfl) hn) dX0_sequencesOf_66 rfl hl.1 (ar := 4) (by decide +kernel) rfl ⟨Nat.le_of_ble_eq_true rfl, Nat.le_of_ble_eq_true rfl, Nat.le_of_ble_eq_true rfl, Nat.le_of_ble_eq_true rfl⟩ (Nat.le_of_ble_eq_true rfl) (fun rv uu H locs hp hG => ?_)
      obtain ⟨rfl, rfl⟩ := hp
      replace hG : gW D cy b n s H locs (enc b cy X S0) := hG
      refine lv_iload hx hb dX0_sequencesOf_69 (lv_at hl 0 rfl) ?_
      refine lv_iconst (v := iI 3) hx hb dX0_sequencesOf_71 (by decide) ?_
      refine gi_icmp_ne (tgt := 79) hx hb dX0_sequencesOf_72 (by decide) hg_7 (by decide) (fun c_11 => ?_) (fun c_11 => ?_)
      · replace hM := ifn hM c_11
        refine g_gsaN (host := "GrownKinds") S hG gsa2 (by decide +kernel) dX0_sequencesOf_79 ?_
        refine lv_iload_n hx hb dX0_sequencesOf_82 rfl (lv_at hl 3 rfl) ?_
        obtain ⟨hg_12, hM⟩ := gd_some hM
        refine g_sald S hG gsa2 dX0_sequencesOf_83 hg_12 (by decide) ?_
        obtain ⟨hg_13, hM⟩ := gd_some hM
        refine gi_i2l hx hb dX0_sequencesOf_84 hg_13 ?_
        obtain ⟨hg_14, hM⟩ := gd_some hM
        refine gj_div hx hb dX0_sequencesOf_85 hg_14.1 hg_14.2 ?_
        cases hM
        exact g_lret S hr hlk hG hsz dX0_sequencesOf_86 ⟨Nat.le_of_ble_eq_true rfl, Nat.le_of_ble_eq_true rfl⟩ ⟨rfl, rfl⟩
      · replace hM := ifp hM c_11
        refine lv_iconst (v := iI 1) hx hb dX0_sequencesOf_75 (by decide) ?_
        refine lv_goto (tgt := 84) hx hb dX0_sequencesOf_76 (by decide) ?_
        refine gi_i2l hx hb dX0_sequencesOf_84 (by decide) ?_
        obtain ⟨hg_15, hM⟩ := gd_some hM
        refine gj_div hx hb dX0_sequencesOf_85 hg_15 (by decide) ?_
        cases hM
        exact g_lret S hr hlk hG hsz dX0_sequencesOf_86 ⟨Nat.le_of_ble_eq_true rfl, Nat.le_of_ble_eq_true rfl⟩ ⟨rfl, rfl⟩
    · replace hM := ifp hM c_8
      refine lv_aload_n hx hb dX0_sequencesOf_50 rfl (lv_at hl 1 rfl) ?_
      refine lv_iload_n hx hb dX0_sequencesOf_51 rfl (lv_at hl 2 rfl) ?_
      refine lv_iload_n hx hb dX0_sequencesOf_52 rfl (lv_at hl 3 rfl) ?_
      refine lv_iload_n hx hb dX0_sequencesOf_53 rfl (lv_at hl 4 rfl) ?_
      refine lv_iload hx hb dX0_sequencesOf_54 (lv_at hl 5 rfl) ?_
      obtain ⟨r_17, hc_16, hM⟩ := bd1_some hM
      refine g_vl (As := [.int (iI a1), .int (iI a2), .int (iI a3), .int (iI a4)]) (rest := []) S hG hsz (vX0_ringsOf_48 l hn a1 a2 a3 a4 hc_16) wV_0_167 (ec_48 _) cpX0 (Nat.lt_of_lt_of_le (Nat.le_of_ble_eq_true rfl) hn) dX0_sequencesOf_56 rfl hl.1 (ar := 4) (by decide +kernel) rfl ⟨Nat.le_of_ble_eq_true rfl, Nat.le_of_ble_eq_true rfl, Nat.le_of_ble_eq_true rfl, Nat.le_of_ble_eq_true rfl⟩ (Nat.le_of_ble_eq_true rfl) (fun rv uu H locs hp hG => ?_)
      obtain ⟨rfl, rfl⟩ := hp
      replace hG : gW D cy b n s H locs (enc b cy X S0) := hG
      cases hM
      exact g_lret S hr hlk hG hsz dX0_sequencesOf_59 ⟨Nat.le_of_ble_eq_true rfl, Nat.le_of_ble_eq_true rfl⟩ ⟨rfl, rfl⟩
  · replace hM := ifn hM c_6
    refine lv_aload_n hx hb dX0_sequencesOf_19 rfl (lv_at hl 1 rfl) ?_
    refine m_get S hG 48 48 5 rfl ec_48 cpX0 wm_408 dX0_sequencesOf_20 rfl (Nat.lt_of_lt_of_le (Nat.le_of_ble_eq_true rfl) hn) (by decide) ?_
    refine lv_iload_n hx hb dX0_sequencesOf_23 rfl (lv_at hl 2 rfl) ?_
    refine lv_sipush (v := iI 512) hx hb dX0_sequencesOf_24 (by decide) ?_
    refine gi_mul hx hb dX0_sequencesOf_27 ?_
    refine lv_iload_n hx hb dX0_sequencesOf_28 rfl (lv_at hl 3 rfl) ?_
    refine lv_bipush (v := iI 64) hx hb dX0_sequencesOf_29 (by decide) ?_
    refine gi_mul hx hb dX0_sequencesOf_31 ?_
    refine gi_add hx hb dX0_sequencesOf_32 ?_
    refine lv_iload_n hx hb dX0_sequencesOf_33 rfl (lv_at hl 4 rfl) ?_
    refine lv_bipush (v := iI 8) hx hb dX0_sequencesOf_34 (by decide) ?_
    refine gi_mul hx hb dX0_sequencesOf_36 ?_
    refine gi_add hx hb dX0_sequencesOf_37 ?_
    refine lv_iload hx hb dX0_sequencesOf_38 (lv_at hl 5 rfl) ?_
    refine gi_add hx hb dX0_sequencesOf_40 ?_
    obtain ⟨hg_18, hM⟩ := gd_some hM
    refine mj_ald S hG 52 52 rfl ec_52 (Nat.lt_of_lt_of_le (Nat.le_of_ble_eq_true rfl) hn) dX0_sequencesOf_41 hg_18 (by decide) ?_
    cases hM
    exact g_lret S hr hlk hG hsz dX0_sequencesOf_42 ⟨Nat.le_of_ble_eq_true rfl, Nat.le_of_ble_eq_true rfl⟩ ⟨rfl, rfl⟩
def mX0_copyCells_48_49_49_3 (a2 : Int) (a4 : Int) (a5 : Int) : Nat → Int → St → Option (St)
  | 0, _, _ => none
  | f + 1, v_1, S_2 => bd1 (mX0_letterTop_48 S_2 a5) fun r_10 => gd ((inI v_1) ∧ (inI r_10)) <| if r_10 < v_1 then (some (S_2)) else (gd (0 ≤ (a2 + v_1) ∧ (a2 + v_1) < 1536) <| gd (0 ≤ (a4 + v_1) ∧ (a4 + v_1) < 1536) <| nx (up S_2 49 (a4 + v_1) (S_2 49 (a2 + v_1))) fun S_15 => mX0_copyCells_48_49_49_3 a2 a4 a5 f (v_1 + 1) S_15)
def mX0_copyCells_48_49_49 (S0 : St) (a2 : Int) (a4 : Int) (a5 : Int) : Option (St) := bd1 (mX0_copyCells_48_49_49_3 a2 a4 a5 FU 0 S0) fun S_3 => some (S_3)
set_option maxHeartbeats 4000000 in
set_option maxRecDepth 100000 in
theorem vX0_copyCells_48_49_49 (l : Launch) {D : va_G} {cy : Nat → ClassId} {b n : Nat} (hn : 102 ≤ n) {X : Nat → va_E} {S0 : St} (a2 : Int) (a4 : Int) (a5 : Int) {o1 : St} (hM : mX0_copyCells_48_49_49 S0 a2 a4 a5 = some o1) : gV l yX0_copyCells cX0_copyCells 7 1 0 0 D cy b n (enc b cy X S0) [.ref (b + 48), .ref (b + 49), .int (iI a2), .ref (b + 49), .int (iI a4), .int (iI a5)] (fun u => u = (n, enc b cy X o1)) := by
  refine gV_of (by decide) (Nat.le_of_ble_eq_true rfl) ?_
  intro p e s m args below meth c S hr hlk hin hsz ls hl hG
  have hx := S.1
  have hb := S.2.1
  have hl : lv_has ls 7 [(0, .ref (b + 48)), (1, .ref (b + 49)), (2, .int (iI a2)), (3, .ref (b + 49)), (4, .int (iI a4)), (5, .int (iI a5))] := hl
  replace hG : gW D cy b n s s.heap [] (enc b cy X S0) := hG
  obtain ⟨H, eH⟩ : ∃ H, H = s.heap := ⟨_, rfl⟩
  obtain ⟨locs, elocs⟩ : ∃ locs : List Loc, locs = [] := ⟨_, rfl⟩
  rw [← eH, ← elocs] at hG
  rw [← eH, ← elocs]
  clear eH elocs
  unfold mX0_copyCells_48_49_49 at hM
  refine lv_iconst (v := iI 0) hx hb dX0_copyCells_0 (by decide) ?_
  refine lv_istore (lv' := [(6, .int (iI 0)), (0, .ref (b + 48)), (1, .ref (b + 49)), (2, .int (iI a2)), (3, .ref (b + 49)), (4, .int (iI a4)), (5, .int (iI a5))]) hx hb dX0_copyCells_1 hl (by decide) rfl (fun ls hl => ?_)
  obtain ⟨S_3, hc_4, hM⟩ := bd1_some hM
  have hK_5 : ∀ (H : Heap) (locs : List Loc) (ls : Array Slot), gW D cy b n s H locs (enc b cy X S_3) → lv_has ls 7 [] → W p l e (gRm 1 0 0) s m args below meth c H locs 0 0 (gQV D cy b s args below 0 0 (fun u => u = (n, enc b cy X o1))) (F0 m 33 ls []) := by
    intro H locs ls hG hl
    cases hM
    exact g_vret S hr hlk hG hsz dX0_copyCells_33 ⟨Nat.le_of_ble_eq_true rfl, Nat.le_of_ble_eq_true rfl⟩ rfl
  have loop_6 : ∀ (f : Nat) (v_1 : Int) (S_2 : St) (H : Heap) (locs : List Loc) (ls : Array Slot), mX0_copyCells_48_49_49_3 a2 a4 a5 f v_1 S_2 = some S_3 → gW D cy b n s H locs (enc b cy X S_2) → lv_has ls 7 [(6, .int (iI v_1)), (0, .ref (b + 48)), (1, .ref (b + 49)), (2, .int (iI a2)), (3, .ref (b + 49)), (4, .int (iI a4)), (5, .int (iI a5))] → W p l e (gRm 1 0 0) s m args below meth c H locs 0 0 (gQV D cy b s args below 0 0 (fun u => u = (n, enc b cy X o1))) (F0 m 3 ls []) := by
    clear hM
    intro f
    induction f with
    | zero => intro v_1 S_2 H locs ls hM; rw [mX0_copyCells_48_49_49_3] at hM; cases hM
    | succ f_8 ih_7 =>
      intro v_1 S_2 H locs ls hM hG hl
      rw [mX0_copyCells_48_49_49_3] at hM
      refine lv_iload hx hb dX0_copyCells_3 (lv_at hl 0 rfl) ?_
      refine lv_aload_n hx hb dX0_copyCells_5 rfl (lv_at hl 1 rfl) ?_
      refine lv_iload hx hb dX0_copyCells_6 (lv_at hl 6 rfl) ?_
      obtain ⟨r_10, hc_9, hM⟩ := bd1_some hM
      refine g_vi (As := [.int (iI a5)]) (rest := [.int (iI v_1)]) S hG hsz (vX0_letterTop_48 l hn a5 hc_9) wV_0_108 (ec_48 _) cpX0 (Nat.lt_of_lt_of_le (Nat.le_of_ble_eq_true rfl) hn) dX0_copyCells_8 rfl hl.1 (ar := 1) (by decide +kernel) rfl ⟨Nat.le_of_ble_eq_true rfl, Nat.le_of_ble_eq_true rfl, Nat.le_of_ble_eq_true rfl, Nat.le_of_ble_eq_true rfl⟩ (Nat.le_of_ble_eq_true rfl) (fun rv uu H locs hp hG => ?_)
      obtain ⟨rfl, rfl⟩ := hp
      replace hG : gW D cy b n s H locs (enc b cy X S_2) := hG
      obtain ⟨hg_11, hM⟩ := gd_some hM
      refine gi_icmp_gt (tgt := 33) hx hb dX0_copyCells_11 (by decide) hg_11.1 hg_11.2 (fun c_12 => ?_) (fun c_12 => ?_)
      · replace hM := ifp hM c_12
        cases hM
        exact hK_5 H locs ls hG (lv_sub hl [] rfl)
      · replace hM := ifn hM c_12
        refine lv_aload_n hx hb dX0_copyCells_14 rfl (lv_at hl 4 rfl) ?_
        refine lv_iload hx hb dX0_copyCells_15 (lv_at hl 5 rfl) ?_
        refine lv_iload hx hb dX0_copyCells_17 (lv_at hl 0 rfl) ?_
        refine gi_add hx hb dX0_copyCells_19 ?_
        refine lv_aload_n hx hb dX0_copyCells_20 rfl (lv_at hl 2 rfl) ?_
        refine lv_iload_n hx hb dX0_copyCells_21 rfl (lv_at hl 3 rfl) ?_
        refine lv_iload hx hb dX0_copyCells_22 (lv_at hl 0 rfl) ?_
        refine gi_add hx hb dX0_copyCells_24 ?_
        obtain ⟨hg_13, hM⟩ := gd_some hM
        refine mj_ald S hG 49 49 rfl ec_49 (Nat.lt_of_lt_of_le (Nat.le_of_ble_eq_true rfl) hn) dX0_copyCells_25 hg_13 (by decide) ?_
        obtain ⟨hg_14, hM⟩ := gd_some hM
        refine mj_ast S hG 49 49 rfl ec_49 (Nat.lt_of_lt_of_le (Nat.le_of_ble_eq_true rfl) hn) dX0_copyCells_26 hg_14 (by decide) (fun H locs S_15 eS_15 hG => ?_)
        replace hM := nx_at hM eS_15
        clear eS_15
        refine lv_iinc (v := iI (v_1 + 1)) (lv' := [(6, .int (iI (v_1 + 1))), (0, .ref (b + 48)), (1, .ref (b + 49)), (2, .int (iI a2)), (3, .ref (b + 49)), (4, .int (iI a4)), (5, .int (iI a5))]) hx hb dX0_copyCells_27 hl (k := 0) rfl ((iI_add v_1 (1)).trans (congrArg iI (by omega))) (by decide) rfl (fun ls hl => ?_)
        refine lv_goto (tgt := 3) hx hb dX0_copyCells_30 (by decide) ?_
        exact ih_7 (v_1 + 1) S_15 H locs ls hM hG (lv_sub hl [0, 1, 2, 3, 4, 5, 6] rfl)
  exact loop_6 FU 0 S0 H locs ls hc_4 hG (lv_sub hl [0, 1, 2, 3, 4, 5, 6] rfl)
def mX0_clearCells_48_52_3 (a2 : Int) (a3 : Int) : Nat → Int → St → Option (St)
  | 0, _, _ => none
  | f + 1, v_1, S_2 => bd1 (mX0_letterTop_48 S_2 a3) fun r_10 => gd ((inI v_1) ∧ (inI r_10)) <| if r_10 < v_1 then (some (S_2)) else (gd (0 ≤ (a2 + v_1) ∧ (a2 + v_1) < 12288) <| nx (up S_2 52 (a2 + v_1) 0) fun S_14 => mX0_clearCells_48_52_3 a2 a3 f (v_1 + 1) S_14)
def mX0_clearCells_48_52 (S0 : St) (a2 : Int) (a3 : Int) : Option (St) := bd1 (mX0_clearCells_48_52_3 a2 a3 FU 0 S0) fun S_3 => some (S_3)
set_option maxHeartbeats 4000000 in
set_option maxRecDepth 100000 in
theorem vX0_clearCells_48_52 (l : Launch) {D : va_G} {cy : Nat → ClassId} {b n : Nat} (hn : 102 ≤ n) {X : Nat → va_E} {S0 : St} (a2 : Int) (a3 : Int) {o1 : St} (hM : mX0_clearCells_48_52 S0 a2 a3 = some o1) : gV l yX0_clearCells cX0_clearCells 5 1 0 0 D cy b n (enc b cy X S0) [.ref (b + 48), .ref (b + 52), .int (iI a2), .int (iI a3)] (fun u => u = (n, enc b cy X o1)) := by
  refine gV_of (by decide) (Nat.le_of_ble_eq_true rfl) ?_
  intro p e s m args below meth c S hr hlk hin hsz ls hl hG
  have hx := S.1
  have hb := S.2.1
  have hl : lv_has ls 5 [(0, .ref (b + 48)), (1, .ref (b + 52)), (2, .int (iI a2)), (3, .int (iI a3))] := hl
  replace hG : gW D cy b n s s.heap [] (enc b cy X S0) := hG
  obtain ⟨H, eH⟩ : ∃ H, H = s.heap := ⟨_, rfl⟩
  obtain ⟨locs, elocs⟩ : ∃ locs : List Loc, locs = [] := ⟨_, rfl⟩
  rw [← eH, ← elocs] at hG
  rw [← eH, ← elocs]
  clear eH elocs
  unfold mX0_clearCells_48_52 at hM
  refine lv_iconst (v := iI 0) hx hb dX0_clearCells_0 (by decide) ?_
  refine lv_istore (lv' := [(4, .int (iI 0)), (0, .ref (b + 48)), (1, .ref (b + 52)), (2, .int (iI a2)), (3, .int (iI a3))]) hx hb dX0_clearCells_1 hl (by decide) rfl (fun ls hl => ?_)
  obtain ⟨S_3, hc_4, hM⟩ := bd1_some hM
  have hK_5 : ∀ (H : Heap) (locs : List Loc) (ls : Array Slot), gW D cy b n s H locs (enc b cy X S_3) → lv_has ls 5 [] → W p l e (gRm 1 0 0) s m args below meth c H locs 0 0 (gQV D cy b s args below 0 0 (fun u => u = (n, enc b cy X o1))) (F0 m 26 ls []) := by
    intro H locs ls hG hl
    cases hM
    exact g_vret S hr hlk hG hsz dX0_clearCells_26 ⟨Nat.le_of_ble_eq_true rfl, Nat.le_of_ble_eq_true rfl⟩ rfl
  have loop_6 : ∀ (f : Nat) (v_1 : Int) (S_2 : St) (H : Heap) (locs : List Loc) (ls : Array Slot), mX0_clearCells_48_52_3 a2 a3 f v_1 S_2 = some S_3 → gW D cy b n s H locs (enc b cy X S_2) → lv_has ls 5 [(4, .int (iI v_1)), (0, .ref (b + 48)), (1, .ref (b + 52)), (2, .int (iI a2)), (3, .int (iI a3))] → W p l e (gRm 1 0 0) s m args below meth c H locs 0 0 (gQV D cy b s args below 0 0 (fun u => u = (n, enc b cy X o1))) (F0 m 3 ls []) := by
    clear hM
    intro f
    induction f with
    | zero => intro v_1 S_2 H locs ls hM; rw [mX0_clearCells_48_52_3] at hM; cases hM
    | succ f_8 ih_7 =>
      intro v_1 S_2 H locs ls hM hG hl
      rw [mX0_clearCells_48_52_3] at hM
      refine lv_iload hx hb dX0_clearCells_3 (lv_at hl 0 rfl) ?_
      refine lv_aload_n hx hb dX0_clearCells_5 rfl (lv_at hl 1 rfl) ?_
      refine lv_iload_n hx hb dX0_clearCells_6 rfl (lv_at hl 4 rfl) ?_
      obtain ⟨r_10, hc_9, hM⟩ := bd1_some hM
      refine g_vi (As := [.int (iI a3)]) (rest := [.int (iI v_1)]) S hG hsz (vX0_letterTop_48 l hn a3 hc_9) wV_0_108 (ec_48 _) cpX0 (Nat.lt_of_lt_of_le (Nat.le_of_ble_eq_true rfl) hn) dX0_clearCells_7 rfl hl.1 (ar := 1) (by decide +kernel) rfl ⟨Nat.le_of_ble_eq_true rfl, Nat.le_of_ble_eq_true rfl, Nat.le_of_ble_eq_true rfl, Nat.le_of_ble_eq_true rfl⟩ (Nat.le_of_ble_eq_true rfl) (fun rv uu H locs hp hG => ?_)
      obtain ⟨rfl, rfl⟩ := hp
      replace hG : gW D cy b n s H locs (enc b cy X S_2) := hG
      obtain ⟨hg_11, hM⟩ := gd_some hM
      refine gi_icmp_gt (tgt := 26) hx hb dX0_clearCells_10 (by decide) hg_11.1 hg_11.2 (fun c_12 => ?_) (fun c_12 => ?_)
      · replace hM := ifp hM c_12
        cases hM
        exact hK_5 H locs ls hG (lv_sub hl [] rfl)
      · replace hM := ifn hM c_12
        refine lv_aload_n hx hb dX0_clearCells_13 rfl (lv_at hl 2 rfl) ?_
        refine lv_iload_n hx hb dX0_clearCells_14 rfl (lv_at hl 3 rfl) ?_
        refine lv_iload hx hb dX0_clearCells_15 (lv_at hl 0 rfl) ?_
        refine gi_add hx hb dX0_clearCells_17 ?_
        refine lv_lconst (v := jJ 0) hx hb dX0_clearCells_18 (by decide) ?_
        obtain ⟨hg_13, hM⟩ := gd_some hM
        refine mj_ast S hG 52 52 rfl ec_52 (Nat.lt_of_lt_of_le (Nat.le_of_ble_eq_true rfl) hn) dX0_clearCells_19 hg_13 (by decide) (fun H locs S_14 eS_14 hG => ?_)
        replace hM := nx_at hM eS_14
        clear eS_14
        refine lv_iinc (v := iI (v_1 + 1)) (lv' := [(4, .int (iI (v_1 + 1))), (0, .ref (b + 48)), (1, .ref (b + 52)), (2, .int (iI a2)), (3, .int (iI a3))]) hx hb dX0_clearCells_20 hl (k := 0) rfl ((iI_add v_1 (1)).trans (congrArg iI (by omega))) (by decide) rfl (fun ls hl => ?_)
        refine lv_goto (tgt := 3) hx hb dX0_clearCells_23 (by decide) ?_
        exact ih_7 (v_1 + 1) S_14 H locs ls hM hG (lv_sub hl [0, 1, 2, 3, 4] rfl)
  exact loop_6 FU 0 S0 H locs ls hc_4 hG (lv_sub hl [0, 1, 2, 3, 4] rfl)
def mX0_clearRows_48_10 (v_1 : Int) (a1 : Int) : Nat → Int → St → Option (St)
  | 0, _, _ => none
  | f + 1, v_13, S_14 => gd ((inI v_13) ∧ (inI (S_14 2 0))) <| if (S_14 2 0) < v_13 then (some (S_14)) else (bd1 (mX0_clearCells_48_52 S_14 (((a1 * 512) + (v_1 * 64)) + (v_13 * 8)) v_13) fun S_24 => mX0_clearRows_48_10 v_1 a1 f (v_13 + 1) S_24)
def mX0_clearRows_48_2 (a1 : Int) : Nat → Int → St → Option (St)
  | 0, _, _ => none
  | f + 1, v_1, S_2 => gd (inI v_1) <| if 8 ≤ v_1 then (some (S_2)) else (bd1 (mX0_clearRows_48_10 v_1 a1 FU 0 S_2) fun S_15 => mX0_clearRows_48_2 a1 f (v_1 + 1) S_15)
def mX0_clearRows_48 (S0 : St) (a1 : Int) : Option (St) := bd1 (mX0_clearRows_48_2 a1 FU 0 S0) fun S_3 => gd (0 ≤ (a1 * 512) ∧ (a1 * 512) < 12288) <| nx (up S_3 52 (a1 * 512) 1) fun S_7 => some (S_7)
set_option maxHeartbeats 4000000 in
set_option maxRecDepth 100000 in
theorem vX0_clearRows_48 (l : Launch) {D : va_G} {cy : Nat → ClassId} {b n : Nat} (hn : 102 ≤ n) {X : Nat → va_E} {S0 : St} (a1 : Int) {o1 : St} (hM : mX0_clearRows_48 S0 a1 = some o1) : gV l yX0_clearRows cX0_clearRows 4 2 0 0 D cy b n (enc b cy X S0) [.ref (b + 48), .int (iI a1)] (fun u => u = (n, enc b cy X o1)) := by
  refine gV_of (by decide) (Nat.le_of_ble_eq_true rfl) ?_
  intro p e s m args below meth c S hr hlk hin hsz ls hl hG
  have hx := S.1
  have hb := S.2.1
  have hl : lv_has ls 4 [(0, .ref (b + 48)), (1, .int (iI a1))] := hl
  replace hG : gW D cy b n s s.heap [] (enc b cy X S0) := hG
  obtain ⟨H, eH⟩ : ∃ H, H = s.heap := ⟨_, rfl⟩
  obtain ⟨locs, elocs⟩ : ∃ locs : List Loc, locs = [] := ⟨_, rfl⟩
  rw [← eH, ← elocs] at hG
  rw [← eH, ← elocs]
  clear eH elocs
  unfold mX0_clearRows_48 at hM
  refine lv_iconst (v := iI 0) hx hb dX0_clearRows_0 (by decide) ?_
  refine lv_istore_n (lv' := [(2, .int (iI 0)), (0, .ref (b + 48)), (1, .int (iI a1))]) hx hb dX0_clearRows_1 rfl hl (by decide) rfl (fun ls hl => ?_)
  obtain ⟨S_3, hc_4, hM⟩ := bd1_some hM
  have hK_5 : ∀ (H : Heap) (locs : List Loc) (ls : Array Slot), gW D cy b n s H locs (enc b cy X S_3) → lv_has ls 4 [(0, .ref (b + 48)), (1, .int (iI a1))] → W p l e (gRm 2 0 0) s m args below meth c H locs 0 0 (gQV D cy b s args below 0 0 (fun u => u = (n, enc b cy X o1))) (F0 m 57 ls []) := by
    intro H locs ls hG hl
    refine lv_aload_n hx hb dX0_clearRows_57 rfl (lv_at hl 0 rfl) ?_
    refine m_get S hG 48 48 5 rfl ec_48 cpX0 wm_408 dX0_clearRows_58 rfl (Nat.lt_of_lt_of_le (Nat.le_of_ble_eq_true rfl) hn) (by decide) ?_
    refine lv_iload_n hx hb dX0_clearRows_61 rfl (lv_at hl 1 rfl) ?_
    refine lv_sipush (v := iI 512) hx hb dX0_clearRows_62 (by decide) ?_
    refine gi_mul hx hb dX0_clearRows_65 ?_
    refine lv_lconst (v := jJ 1) hx hb dX0_clearRows_66 (by decide) ?_
    obtain ⟨hg_6, hM⟩ := gd_some hM
    refine mj_ast S hG 52 52 rfl ec_52 (Nat.lt_of_lt_of_le (Nat.le_of_ble_eq_true rfl) hn) dX0_clearRows_67 hg_6 (by decide) (fun H locs S_7 eS_7 hG => ?_)
    replace hM := nx_at hM eS_7
    clear eS_7
    cases hM
    exact g_vret S hr hlk hG hsz dX0_clearRows_68 ⟨Nat.le_of_ble_eq_true rfl, Nat.le_of_ble_eq_true rfl⟩ rfl
  have loop_8 : ∀ (f : Nat) (v_1 : Int) (S_2 : St) (H : Heap) (locs : List Loc) (ls : Array Slot), mX0_clearRows_48_2 a1 f v_1 S_2 = some S_3 → gW D cy b n s H locs (enc b cy X S_2) → lv_has ls 4 [(2, .int (iI v_1)), (0, .ref (b + 48)), (1, .int (iI a1))] → W p l e (gRm 2 0 0) s m args below meth c H locs 0 0 (gQV D cy b s args below 0 0 (fun u => u = (n, enc b cy X o1))) (F0 m 2 ls []) := by
    clear hM
    intro f
    induction f with
    | zero => intro v_1 S_2 H locs ls hM; rw [mX0_clearRows_48_2] at hM; cases hM
    | succ f_10 ih_9 =>
      intro v_1 S_2 H locs ls hM hG hl
      rw [mX0_clearRows_48_2] at hM
      refine lv_iload_n hx hb dX0_clearRows_2 rfl (lv_at hl 0 rfl) ?_
      refine lv_bipush (v := iI 8) hx hb dX0_clearRows_3 (by decide) ?_
      obtain ⟨hg_11, hM⟩ := gd_some hM
      refine gi_icmp_ge (tgt := 57) hx hb dX0_clearRows_5 (by decide) hg_11 (by decide) (fun c_12 => ?_) (fun c_12 => ?_)
      · replace hM := ifp hM c_12
        cases hM
        exact hK_5 H locs ls hG (lv_sub hl [1, 2] rfl)
      · replace hM := ifn hM c_12
        refine lv_iconst (v := iI 0) hx hb dX0_clearRows_8 (by decide) ?_
        refine lv_istore_n (lv' := [(3, .int (iI 0)), (2, .int (iI v_1)), (0, .ref (b + 48)), (1, .int (iI a1))]) hx hb dX0_clearRows_9 rfl hl (by decide) rfl (fun ls hl => ?_)
        obtain ⟨S_15, hc_16, hM⟩ := bd1_some hM
        have hK_17 : ∀ (H : Heap) (locs : List Loc) (ls : Array Slot), gW D cy b n s H locs (enc b cy X S_15) → lv_has ls 4 [(2, .int (iI v_1)), (0, .ref (b + 48)), (1, .int (iI a1))] → W p l e (gRm 2 0 0) s m args below meth c H locs 0 0 (gQV D cy b s args below 0 0 (fun u => u = (n, enc b cy X o1))) (F0 m 51 ls []) := by
          intro H locs ls hG hl
          refine lv_iinc (v := iI (v_1 + 1)) (lv' := [(2, .int (iI (v_1 + 1))), (0, .ref (b + 48)), (1, .int (iI a1))]) hx hb dX0_clearRows_51 hl (k := 0) rfl ((iI_add v_1 (1)).trans (congrArg iI (by omega))) (by decide) rfl (fun ls hl => ?_)
          refine lv_goto (tgt := 2) hx hb dX0_clearRows_54 (by decide) ?_
          exact ih_9 (v_1 + 1) S_15 H locs ls hM hG (lv_sub hl [0, 1, 2] rfl)
        have loop_18 : ∀ (f : Nat) (v_13 : Int) (S_14 : St) (H : Heap) (locs : List Loc) (ls : Array Slot), mX0_clearRows_48_10 v_1 a1 f v_13 S_14 = some S_15 → gW D cy b n s H locs (enc b cy X S_14) → lv_has ls 4 [(3, .int (iI v_13)), (2, .int (iI v_1)), (0, .ref (b + 48)), (1, .int (iI a1))] → W p l e (gRm 2 0 0) s m args below meth c H locs 0 0 (gQV D cy b s args below 0 0 (fun u => u = (n, enc b cy X o1))) (F0 m 10 ls []) := by
          clear hM
          intro f
          induction f with
          | zero => intro v_13 S_14 H locs ls hM; rw [mX0_clearRows_48_10] at hM; cases hM
          | succ f_20 ih_19 =>
            intro v_13 S_14 H locs ls hM hG hl
            rw [mX0_clearRows_48_10] at hM
            refine lv_iload_n hx hb dX0_clearRows_10 rfl (lv_at hl 0 rfl) ?_
            refine lv_aload_n hx hb dX0_clearRows_11 rfl (lv_at hl 2 rfl) ?_
            refine m_get S hG 48 48 0 rfl ec_48 cpX0 wm_403 dX0_clearRows_12 rfl (Nat.lt_of_lt_of_le (Nat.le_of_ble_eq_true rfl) hn) (by decide) ?_
            refine m_get S hG 2 2 0 rfl ec_2 cpX2 wm_213 dX0_clearRows_15 rfl (Nat.lt_of_lt_of_le (Nat.le_of_ble_eq_true rfl) hn) (by decide) ?_
            obtain ⟨hg_21, hM⟩ := gd_some hM
            refine gi_icmp_gt (tgt := 51) hx hb dX0_clearRows_18 (by decide) hg_21.1 hg_21.2 (fun c_22 => ?_) (fun c_22 => ?_)
            · replace hM := ifp hM c_22
              cases hM
              exact hK_17 H locs ls hG (lv_sub hl [1, 2, 3] rfl)
            · replace hM := ifn hM c_22
              refine lv_aload_n hx hb dX0_clearRows_21 rfl (lv_at hl 2 rfl) ?_
              refine lv_aload_n hx hb dX0_clearRows_22 rfl (lv_at hl 2 rfl) ?_
              refine m_get S hG 48 48 5 rfl ec_48 cpX0 wm_408 dX0_clearRows_23 rfl (Nat.lt_of_lt_of_le (Nat.le_of_ble_eq_true rfl) hn) (by decide) ?_
              refine lv_iload_n hx hb dX0_clearRows_26 rfl (lv_at hl 3 rfl) ?_
              refine lv_sipush (v := iI 512) hx hb dX0_clearRows_27 (by decide) ?_
              refine gi_mul hx hb dX0_clearRows_30 ?_
              refine lv_iload_n hx hb dX0_clearRows_31 rfl (lv_at hl 1 rfl) ?_
              refine lv_bipush (v := iI 64) hx hb dX0_clearRows_32 (by decide) ?_
              refine gi_mul hx hb dX0_clearRows_34 ?_
              refine gi_add hx hb dX0_clearRows_35 ?_
              refine lv_iload_n hx hb dX0_clearRows_36 rfl (lv_at hl 0 rfl) ?_
              refine lv_bipush (v := iI 8) hx hb dX0_clearRows_37 (by decide) ?_
              refine gi_mul hx hb dX0_clearRows_39 ?_
              refine gi_add hx hb dX0_clearRows_40 ?_
              refine lv_iload_n hx hb dX0_clearRows_41 rfl (lv_at hl 0 rfl) ?_
              obtain ⟨S_24, hc_23, hM⟩ := bd1_some hM
              refine g_vv (As := [.ref (b + 52), .int (iI (((a1 * 512) + (v_1 * 64)) + (v_13 * 8))), .int (iI v_13)]) (rest := []) S hG hsz (vX0_clearCells_48_52 l hn (((a1 * 512) + (v_1 * 64)) + (v_13 * 8)) v_13 hc_23) wV_0_129 (ec_48 _) cpX0 (Nat.lt_of_lt_of_le (Nat.le_of_ble_eq_true rfl) hn) dX0_clearRows_42 rfl hl.1 (ar := 3) (by decide +kernel) rfl ⟨Nat.le_of_ble_eq_true rfl, Nat.le_of_ble_eq_true rfl, Nat.le_of_ble_eq_true rfl, Nat.le_of_ble_eq_true rfl⟩ (Nat.le_of_ble_eq_true rfl) (fun uu H locs hp hG => ?_)
              obtain rfl := hp
              replace hG : gW D cy b n s H locs (enc b cy X S_24) := hG
              refine lv_iinc (v := iI (v_13 + 1)) (lv' := [(3, .int (iI (v_13 + 1))), (2, .int (iI v_1)), (0, .ref (b + 48)), (1, .int (iI a1))]) hx hb dX0_clearRows_45 hl (k := 0) rfl ((iI_add v_13 (1)).trans (congrArg iI (by omega))) (by decide) rfl (fun ls hl => ?_)
              refine lv_goto (tgt := 10) hx hb dX0_clearRows_48 (by decide) ?_
              exact ih_19 (v_13 + 1) S_24 H locs ls hM hG (lv_sub hl [0, 1, 2, 3] rfl)
        exact loop_18 FU 0 S_2 H locs ls hc_16 hG (lv_sub hl [0, 1, 2, 3] rfl)
  exact loop_8 FU 0 S0 H locs ls hc_4 hG (lv_sub hl [0, 1, 2] rfl)
def mX0_countSequence_48_185 (v_19 : Int) (x_3 : Int) (x_1 : Int) (a1 : Int) (a2 : Int) : Nat → Int → St → Option (St)
  | 0, _, _ => none
  | f + 1, v_32, S_33 => bd1 (mX0_letterTop_48 S_33 a2) fun r_41 => gd ((inI v_32) ∧ (inI r_41)) <| if r_41 < v_32 then (some (S_33)) else (gd (0 ≤ (x_1 + v_32) ∧ (x_1 + v_32) < 1536) <| bd1 (mX0_sequencesOf_48 S_33 a1 v_19 a2 v_32) fun r_46 => bd1 (mX11_plus (S_33 49 (x_1 + v_32)) r_46) fun r_48 => nx (up S_33 49 (x_1 + v_32) r_48) fun S_49 => mX0_countSequence_48_185 v_19 x_3 x_1 a1 a2 f (v_32 + 1) S_49)
def mX0_countSequence_48_166 (x_3 : Int) (x_1 : Int) (a1 : Int) (a2 : Int) : Nat → Int → St → Option (St)
  | 0, _, _ => none
  | f + 1, v_19, S_20 => bd1 (if x_3 = 0 then (some (a2)) else (some (x_3))) fun z_27 => gd ((inI v_19) ∧ (inI z_27)) <| if z_27 < v_19 then (some (S_20)) else (bd1 (mX0_countSequence_48_185 v_19 x_3 x_1 a1 a2 FU 0 S_20) fun S_34 => mX0_countSequence_48_166 x_3 x_1 a1 a2 f (v_19 + 1) S_34)
def mX0_countSequence_48 (S0 : St) (a1 : Int) (a2 : Int) : Option (St) := nx ((a1 * 64) + (a2 * 8)) fun x_1 => gd (0 ≤ a1 ∧ a1 < 24) <| nx (S0 4 a1) fun x_3 => nx (S0 3 a1) fun x_4 => bd1 (mX0_clearCells_48_49 S0 x_1 a2) fun S_6 => gd (inI a2) <| if a2 = 0 then (bd1 (mX0_clearRows_48 S_6 a1) fun S_64 => bd1 (mX0_keepStage_48 S_64 a1 0) fun S_66 => gd (inI x_3) <| if x_3 = 0 then (gd (inI x_4) <| if x_4 = 6 then (gd (0 ≤ x_1 ∧ x_1 < 1536) <| nx (up S_66 49 x_1 0) fun S_74 => some (S_74)) else (gd (0 ≤ x_1 ∧ x_1 < 1536) <| nx (up S_66 49 x_1 1) fun S_76 => some (S_76))) else (gd (0 ≤ x_1 ∧ x_1 < 1536) <| nx (up S_66 49 x_1 0) fun S_70 => some (S_70))) else (gd (inI x_3) <| if x_3 = 1 then (bd1 (mX0_copyCells_48_49_49 S_6 (((S_6 5 a1) * 64) + (a2 * 8)) x_1 a2) fun S_62 => some (S_62)) else (bd1 (mX0_inClasses_48 S_6 a1) fun r_12 => bd1 (gd (inI r_12) <| if r_12 = 0 then (bd1 (mX0_growRows_48 S_6 a1 a2) fun S_55 => some (S_55)) else (if x_3 = 0 then (bd1 (mX0_addClasses_48 S_6 a1 a2) fun S_60 => some (S_60)) else (bd1 (mX0_addClasses_48 S_6 a1 (a2 - 1)) fun S_58 => some (S_58)))) fun S_13 => bd1 (if x_3 = 0 then (some (1)) else (some (x_3))) fun z_16 => bd1 (mX0_countSequence_48_166 x_3 x_1 a1 a2 FU z_16 S_13) fun S_21 => some (S_21)))
set_option maxHeartbeats 4000000 in
set_option maxRecDepth 100000 in
theorem vX0_countSequence_48 (l : Launch) {D : va_G} {cy : Nat → ClassId} {b n : Nat} (hn : 102 ≤ n) {X : Nat → va_E} {S0 : St} (a1 : Int) (a2 : Int) {o1 : St} (hM : mX0_countSequence_48 S0 a1 a2 = some o1) : gV l yX0_countSequence cX0_countSequence 8 3 0 0 D cy b n (enc b cy X S0) [.ref (b + 48), .int (iI a1), .int (iI a2)] (fun u => u = (n, enc b cy X o1)) := by
  refine gV_of (by decide) (Nat.le_of_ble_eq_true rfl) ?_
  intro p e s m args below meth c S hr hlk hin hsz ls hl hG
  have hx := S.1
  have hb := S.2.1
  have hl : lv_has ls 8 [(0, .ref (b + 48)), (1, .int (iI a1)), (2, .int (iI a2))] := hl
  replace hG : gW D cy b n s s.heap [] (enc b cy X S0) := hG
  obtain ⟨H, eH⟩ : ∃ H, H = s.heap := ⟨_, rfl⟩
  obtain ⟨locs, elocs⟩ : ∃ locs : List Loc, locs = [] := ⟨_, rfl⟩
  rw [← eH, ← elocs] at hG
  rw [← eH, ← elocs]
  clear eH elocs
  unfold mX0_countSequence_48 at hM
  refine lv_iload_n hx hb dX0_countSequence_0 rfl (lv_at hl 1 rfl) ?_
  refine lv_bipush (v := iI 64) hx hb dX0_countSequence_1 (by decide) ?_
  refine gi_mul hx hb dX0_countSequence_3 ?_
  refine lv_iload_n hx hb dX0_countSequence_4 rfl (lv_at hl 2 rfl) ?_
  refine lv_bipush (v := iI 8) hx hb dX0_countSequence_5 (by decide) ?_
  refine gi_mul hx hb dX0_countSequence_7 ?_
  refine gi_add hx hb dX0_countSequence_8 ?_
  refine gi_nm (fun x_1 ex_1 => ?_)
  replace hM := nx_at hM ex_1
  clear ex_1
  refine lv_istore_n (lv' := [(3, .int (iI x_1)), (0, .ref (b + 48)), (1, .int (iI a1)), (2, .int (iI a2))]) hx hb dX0_countSequence_9 rfl hl (by decide) rfl (fun ls hl => ?_)
  refine lv_aload_n hx hb dX0_countSequence_10 rfl (lv_at hl 1 rfl) ?_
  refine m_get S hG 48 48 0 rfl ec_48 cpX0 wm_403 dX0_countSequence_11 rfl (Nat.lt_of_lt_of_le (Nat.le_of_ble_eq_true rfl) hn) (by decide) ?_
  refine m_get S hG 2 2 6 rfl ec_2 cpX2 wm_245 dX0_countSequence_14 rfl (Nat.lt_of_lt_of_le (Nat.le_of_ble_eq_true rfl) hn) (by decide) ?_
  refine lv_iload_n hx hb dX0_countSequence_17 rfl (lv_at hl 2 rfl) ?_
  obtain ⟨hg_2, hM⟩ := gd_some hM
  refine mi_ald S hG 4 4 rfl ec_4 (Nat.lt_of_lt_of_le (Nat.le_of_ble_eq_true rfl) hn) dX0_countSequence_18 hg_2 (by decide) ?_
  refine gi_nm (fun x_3 ex_3 => ?_)
  replace hM := nx_at hM ex_3
  clear ex_3
  refine lv_istore (lv' := [(4, .int (iI x_3)), (3, .int (iI x_1)), (0, .ref (b + 48)), (1, .int (iI a1)), (2, .int (iI a2))]) hx hb dX0_countSequence_19 hl (by decide) rfl (fun ls hl => ?_)
  refine lv_aload_n hx hb dX0_countSequence_21 rfl (lv_at hl 2 rfl) ?_
  refine m_get S hG 48 48 0 rfl ec_48 cpX0 wm_403 dX0_countSequence_22 rfl (Nat.lt_of_lt_of_le (Nat.le_of_ble_eq_true rfl) hn) (by decide) ?_
  refine m_get S hG 2 2 5 rfl ec_2 cpX2 wm_239 dX0_countSequence_25 rfl (Nat.lt_of_lt_of_le (Nat.le_of_ble_eq_true rfl) hn) (by decide) ?_
  refine lv_iload_n hx hb dX0_countSequence_28 rfl (lv_at hl 3 rfl) ?_
  refine mi_ald S hG 3 3 rfl ec_3 (Nat.lt_of_lt_of_le (Nat.le_of_ble_eq_true rfl) hn) dX0_countSequence_29 hg_2 (by decide) ?_
  refine gi_nm (fun x_4 ex_4 => ?_)
  replace hM := nx_at hM ex_4
  clear ex_4
  refine lv_istore (lv' := [(5, .int (iI x_4)), (4, .int (iI x_3)), (3, .int (iI x_1)), (0, .ref (b + 48)), (1, .int (iI a1)), (2, .int (iI a2))]) hx hb dX0_countSequence_30 hl (by decide) rfl (fun ls hl => ?_)
  refine lv_aload_n hx hb dX0_countSequence_32 rfl (lv_at hl 3 rfl) ?_
  refine lv_aload_n hx hb dX0_countSequence_33 rfl (lv_at hl 3 rfl) ?_
  refine m_get S hG 48 48 2 rfl ec_48 cpX0 wm_405 dX0_countSequence_34 rfl (Nat.lt_of_lt_of_le (Nat.le_of_ble_eq_true rfl) hn) (by decide) ?_
  refine lv_iload_n hx hb dX0_countSequence_37 rfl (lv_at hl 2 rfl) ?_
  refine lv_iload_n hx hb dX0_countSequence_38 rfl (lv_at hl 5 rfl) ?_
  obtain ⟨S_6, hc_5, hM⟩ := bd1_some hM
  refine g_vv (As := [.ref (b + 49), .int (iI x_1), .int (iI a2)]) (rest := []) S hG hsz (vX0_clearCells_48_49 l hn x_1 a2 hc_5) wV_0_129 (ec_48 _) cpX0 (Nat.lt_of_lt_of_le (Nat.le_of_ble_eq_true rfl) hn) dX0_countSequence_39 rfl hl.1 (ar := 3) (by decide +kernel) rfl ⟨Nat.le_of_ble_eq_true rfl, Nat.le_of_ble_eq_true rfl, Nat.le_of_ble_eq_true rfl, Nat.le_of_ble_eq_true rfl⟩ (Nat.le_of_ble_eq_true rfl) (fun uu H locs hp hG => ?_)
  obtain rfl := hp
  replace hG : gW D cy b n s H locs (enc b cy X S_6) := hG
  refine lv_iload_n hx hb dX0_countSequence_42 rfl (lv_at hl 5 rfl) ?_
  obtain ⟨hg_7, hM⟩ := gd_some hM
  refine gi_if_ne (tgt := 81) hx hb dX0_countSequence_43 (by decide) hg_7 (fun c_8 => ?_) (fun c_8 => ?_)
  · replace hM := ifn hM c_8
    refine lv_iload hx hb dX0_countSequence_81 (lv_at hl 1 rfl) ?_
    refine lv_iconst (v := iI 1) hx hb dX0_countSequence_83 (by decide) ?_
    obtain ⟨hg_9, hM⟩ := gd_some hM
    refine gi_icmp_ne (tgt := 119) hx hb dX0_countSequence_84 (by decide) hg_9 (by decide) (fun c_10 => ?_) (fun c_10 => ?_)
    · replace hM := ifn hM c_10
      refine lv_aload_n hx hb dX0_countSequence_119 rfl (lv_at hl 3 rfl) ?_
      refine lv_iload_n hx hb dX0_countSequence_120 rfl (lv_at hl 4 rfl) ?_
      obtain ⟨r_12, hc_11, hM⟩ := bd1_some hM
      refine g_vi (As := [.int (iI a1)]) (rest := []) S hG hsz (vX0_inClasses_48 l hn a1 hc_11) wV_0_155 (ec_48 _) cpX0 (Nat.lt_of_lt_of_le (Nat.le_of_ble_eq_true rfl) hn) dX0_countSequence_121 rfl hl.1 (ar := 1) (by decide +kernel) rfl ⟨Nat.le_of_ble_eq_true rfl, Nat.le_of_ble_eq_true rfl, Nat.le_of_ble_eq_true rfl, Nat.le_of_ble_eq_true rfl⟩ (Nat.le_of_ble_eq_true rfl) (fun rv uu H locs hp hG => ?_)
      obtain ⟨rfl, rfl⟩ := hp
      replace hG : gW D cy b n s H locs (enc b cy X S_6) := hG
      obtain ⟨S_13, hc_14, hM⟩ := bd1_some hM
      have hK_15 : ∀ (H : Heap) (locs : List Loc) (ls : Array Slot), gW D cy b n s H locs (enc b cy X S_13) → lv_has ls 8 [(4, .int (iI x_3)), (3, .int (iI x_1)), (0, .ref (b + 48)), (1, .int (iI a1)), (2, .int (iI a2))] → W p l e (gRm 3 0 0) s m args below meth c H locs 0 0 (gQV D cy b s args below 0 0 (fun u => u = (n, enc b cy X o1))) (F0 m 153 ls []) := by
        intro H locs ls hG hl
        refine lv_iload hx hb dX0_countSequence_153 (lv_at hl 0 rfl) ?_
        obtain ⟨z_16, hc_17, hM⟩ := bd1_some hM
        have hK_18 : ∀ (H : Heap) (locs : List Loc) (ls : Array Slot), gW D cy b n s H locs (enc b cy X S_13) → lv_has ls 8 [(4, .int (iI x_3)), (3, .int (iI x_1)), (0, .ref (b + 48)), (1, .int (iI a1)), (2, .int (iI a2))] → W p l e (gRm 3 0 0) s m args below meth c H locs 0 0 (gQV D cy b s args below 0 0 (fun u => u = (n, enc b cy X o1))) (F0 m 164 ls [.int (iI z_16)]) := by
          intro H locs ls hG hl
          refine lv_istore (lv' := [(6, .int (iI z_16)), (4, .int (iI x_3)), (3, .int (iI x_1)), (0, .ref (b + 48)), (1, .int (iI a1)), (2, .int (iI a2))]) hx hb dX0_countSequence_164 hl (by decide) rfl (fun ls hl => ?_)
          obtain ⟨S_21, hc_22, hM⟩ := bd1_some hM
          have hK_23 : ∀ (H : Heap) (locs : List Loc) (ls : Array Slot), gW D cy b n s H locs (enc b cy X S_21) → lv_has ls 8 [] → W p l e (gRm 3 0 0) s m args below meth c H locs 0 0 (gQV D cy b s args below 0 0 (fun u => u = (n, enc b cy X o1))) (F0 m 238 ls []) := by
            intro H locs ls hG hl
            cases hM
            exact g_vret S hr hlk hG hsz dX0_countSequence_238 ⟨Nat.le_of_ble_eq_true rfl, Nat.le_of_ble_eq_true rfl⟩ rfl
          have loop_24 : ∀ (f : Nat) (v_19 : Int) (S_20 : St) (H : Heap) (locs : List Loc) (ls : Array Slot), mX0_countSequence_48_166 x_3 x_1 a1 a2 f v_19 S_20 = some S_21 → gW D cy b n s H locs (enc b cy X S_20) → lv_has ls 8 [(6, .int (iI v_19)), (4, .int (iI x_3)), (3, .int (iI x_1)), (0, .ref (b + 48)), (1, .int (iI a1)), (2, .int (iI a2))] → W p l e (gRm 3 0 0) s m args below meth c H locs 0 0 (gQV D cy b s args below 0 0 (fun u => u = (n, enc b cy X o1))) (F0 m 166 ls []) := by
            clear hM
            intro f
            induction f with
            | zero => intro v_19 S_20 H locs ls hM; rw [mX0_countSequence_48_166] at hM; cases hM
            | succ f_26 ih_25 =>
              intro v_19 S_20 H locs ls hM hG hl
              rw [mX0_countSequence_48_166] at hM
              refine lv_iload hx hb dX0_countSequence_166 (lv_at hl 0 rfl) ?_
              refine lv_iload hx hb dX0_countSequence_168 (lv_at hl 1 rfl) ?_
              obtain ⟨z_27, hc_28, hM⟩ := bd1_some hM
              have hK_29 : ∀ (H : Heap) (locs : List Loc) (ls : Array Slot), gW D cy b n s H locs (enc b cy X S_20) → lv_has ls 8 [(6, .int (iI v_19)), (4, .int (iI x_3)), (3, .int (iI x_1)), (0, .ref (b + 48)), (1, .int (iI a1)), (2, .int (iI a2))] → W p l e (gRm 3 0 0) s m args below meth c H locs 0 0 (gQV D cy b s args below 0 0 (fun u => u = (n, enc b cy X o1))) (F0 m 179 ls [.int (iI z_27), .int (iI v_19)]) := by
                intro H locs ls hG hl
                obtain ⟨hg_30, hM⟩ := gd_some hM
                refine gi_icmp_gt (tgt := 238) hx hb dX0_countSequence_179 (by decide) hg_30.1 hg_30.2 (fun c_31 => ?_) (fun c_31 => ?_)
                · replace hM := ifp hM c_31
                  cases hM
                  exact hK_23 H locs ls hG (lv_sub hl [] rfl)
                · replace hM := ifn hM c_31
                  refine lv_iconst (v := iI 0) hx hb dX0_countSequence_182 (by decide) ?_
                  refine lv_istore (lv' := [(7, .int (iI 0)), (6, .int (iI v_19)), (4, .int (iI x_3)), (3, .int (iI x_1)), (0, .ref (b + 48)), (1, .int (iI a1)), (2, .int (iI a2))]) hx hb dX0_countSequence_183 hl (by decide) rfl (fun ls hl => ?_)
                  obtain ⟨S_34, hc_35, hM⟩ := bd1_some hM
                  have hK_36 : ∀ (H : Heap) (locs : List Loc) (ls : Array Slot), gW D cy b n s H locs (enc b cy X S_34) → lv_has ls 8 [(6, .int (iI v_19)), (4, .int (iI x_3)), (3, .int (iI x_1)), (0, .ref (b + 48)), (1, .int (iI a1)), (2, .int (iI a2))] → W p l e (gRm 3 0 0) s m args below meth c H locs 0 0 (gQV D cy b s args below 0 0 (fun u => u = (n, enc b cy X o1))) (F0 m 232 ls []) := by
                    intro H locs ls hG hl
                    refine lv_iinc (v := iI (v_19 + 1)) (lv' := [(6, .int (iI (v_19 + 1))), (4, .int (iI x_3)), (3, .int (iI x_1)), (0, .ref (b + 48)), (1, .int (iI a1)), (2, .int (iI a2))]) hx hb dX0_countSequence_232 hl (k := 0) rfl ((iI_add v_19 (1)).trans (congrArg iI (by omega))) (by decide) rfl (fun ls hl => ?_)
                    refine lv_goto (tgt := 166) hx hb dX0_countSequence_235 (by decide) ?_
                    exact ih_25 (v_19 + 1) S_34 H locs ls hM hG (lv_sub hl [0, 1, 2, 3, 4, 5] rfl)
                  have loop_37 : ∀ (f : Nat) (v_32 : Int) (S_33 : St) (H : Heap) (locs : List Loc) (ls : Array Slot), mX0_countSequence_48_185 v_19 x_3 x_1 a1 a2 f v_32 S_33 = some S_34 → gW D cy b n s H locs (enc b cy X S_33) → lv_has ls 8 [(7, .int (iI v_32)), (6, .int (iI v_19)), (4, .int (iI x_3)), (3, .int (iI x_1)), (0, .ref (b + 48)), (1, .int (iI a1)), (2, .int (iI a2))] → W p l e (gRm 3 0 0) s m args below meth c H locs 0 0 (gQV D cy b s args below 0 0 (fun u => u = (n, enc b cy X o1))) (F0 m 185 ls []) := by
                    clear hM
                    intro f
                    induction f with
                    | zero => intro v_32 S_33 H locs ls hM; rw [mX0_countSequence_48_185] at hM; cases hM
                    | succ f_39 ih_38 =>
                      intro v_32 S_33 H locs ls hM hG hl
                      rw [mX0_countSequence_48_185] at hM
                      refine lv_iload hx hb dX0_countSequence_185 (lv_at hl 0 rfl) ?_
                      refine lv_aload_n hx hb dX0_countSequence_187 rfl (lv_at hl 4 rfl) ?_
                      refine lv_iload_n hx hb dX0_countSequence_188 rfl (lv_at hl 6 rfl) ?_
                      obtain ⟨r_41, hc_40, hM⟩ := bd1_some hM
                      refine g_vi (As := [.int (iI a2)]) (rest := [.int (iI v_32)]) S hG hsz (vX0_letterTop_48 l hn a2 hc_40) wV_0_108 (ec_48 _) cpX0 (Nat.lt_of_lt_of_le (Nat.le_of_ble_eq_true rfl) hn) dX0_countSequence_189 rfl hl.1 (ar := 1) (by decide +kernel) rfl ⟨Nat.le_of_ble_eq_true rfl, Nat.le_of_ble_eq_true rfl, Nat.le_of_ble_eq_true rfl, Nat.le_of_ble_eq_true rfl⟩ (Nat.le_of_ble_eq_true rfl) (fun rv uu H locs hp hG => ?_)
                      obtain ⟨rfl, rfl⟩ := hp
                      replace hG : gW D cy b n s H locs (enc b cy X S_33) := hG
                      obtain ⟨hg_42, hM⟩ := gd_some hM
                      refine gi_icmp_gt (tgt := 232) hx hb dX0_countSequence_192 (by decide) hg_42.1 hg_42.2 (fun c_43 => ?_) (fun c_43 => ?_)
                      · replace hM := ifp hM c_43
                        cases hM
                        exact hK_36 H locs ls hG (lv_sub hl [1, 2, 3, 4, 5, 6] rfl)
                      · replace hM := ifn hM c_43
                        refine lv_aload_n hx hb dX0_countSequence_195 rfl (lv_at hl 4 rfl) ?_
                        refine m_get S hG 48 48 2 rfl ec_48 cpX0 wm_405 dX0_countSequence_196 rfl (Nat.lt_of_lt_of_le (Nat.le_of_ble_eq_true rfl) hn) (by decide) ?_
                        refine lv_iload_n hx hb dX0_countSequence_199 rfl (lv_at hl 3 rfl) ?_
                        refine lv_iload hx hb dX0_countSequence_200 (lv_at hl 0 rfl) ?_
                        refine gi_add hx hb dX0_countSequence_202 ?_
                        refine lv_aload_n hx hb dX0_countSequence_203 rfl (lv_at hl 4 rfl) ?_
                        refine m_get S hG 48 48 2 rfl ec_48 cpX0 wm_405 dX0_countSequence_204 rfl (Nat.lt_of_lt_of_le (Nat.le_of_ble_eq_true rfl) hn) (by decide) ?_
                        refine lv_iload_n hx hb dX0_countSequence_207 rfl (lv_at hl 3 rfl) ?_
                        refine lv_iload hx hb dX0_countSequence_208 (lv_at hl 0 rfl) ?_
                        refine gi_add hx hb dX0_countSequence_210 ?_
                        obtain ⟨hg_44, hM⟩ := gd_some hM
                        refine mj_ald S hG 49 49 rfl ec_49 (Nat.lt_of_lt_of_le (Nat.le_of_ble_eq_true rfl) hn) dX0_countSequence_211 hg_44 (by decide) ?_
                        refine lv_aload_n hx hb dX0_countSequence_212 rfl (lv_at hl 4 rfl) ?_
                        refine lv_iload_n hx hb dX0_countSequence_213 rfl (lv_at hl 5 rfl) ?_
                        refine lv_iload hx hb dX0_countSequence_214 (lv_at hl 1 rfl) ?_
                        refine lv_iload_n hx hb dX0_countSequence_216 rfl (lv_at hl 6 rfl) ?_
                        refine lv_iload hx hb dX0_countSequence_217 (lv_at hl 0 rfl) ?_
                        obtain ⟨r_46, hc_45, hM⟩ := bd1_some hM
                        refine g_vl (As := [.int (iI a1), .int (iI v_19), .int (iI a2), .int (iI v_32)]) (rest := [.long (jJ (S_33 49 (x_1 + v_32))), .int (iI (x_1 + v_32)), .ref (b + 49)]) S hG hsz (vX0_sequencesOf_48 l hn a1 v_19 a2 v_32 hc_45) wV_0_164 (ec_48 _) cpX0 (Nat.lt_of_lt_of_le (Nat.le_of_ble_eq_true rfl) hn) dX0_countSequence_219 rfl hl.1 (ar := 4) (by decide +kernel) rfl ⟨Nat.le_of_ble_eq_true rfl, Nat.le_of_ble_eq_true rfl, Nat.le_of_ble_eq_true rfl, Nat.le_of_ble_eq_true rfl⟩ (Nat.le_of_ble_eq_true rfl) (fun rv uu H locs hp hG => ?_)
                        obtain ⟨rfl, rfl⟩ := hp
                        replace hG : gW D cy b n s H locs (enc b cy X S_33) := hG
                        obtain ⟨r_48, hc_47, hM⟩ := bd1_some hM
                        refine g_slN (As := [.long (jJ (S_33 49 (x_1 + v_32))), .long (jJ r_46)]) (rest := [.int (iI (x_1 + v_32)), .ref (b + 49)]) S hG hsz (vX11_plus l hn (S_33 49 (x_1 + v_32)) r_46 hc_47) (y := yX11_plus) (host := "GrownKinds") (by decide +kernel) ⟨wm_997, wm_177, wm_998, by decide +kernel, by decide +kernel⟩ dX0_countSequence_222 rfl hl.1 (ar := 2) (by decide +kernel) rfl ⟨Nat.le_of_ble_eq_true rfl, Nat.le_of_ble_eq_true rfl, Nat.le_of_ble_eq_true rfl, Nat.le_of_ble_eq_true rfl⟩ (Nat.le_of_ble_eq_true rfl) (fun rv uu H locs hp hG => ?_)
                        obtain ⟨rfl, rfl⟩ := hp
                        replace hG : gW D cy b n s H locs (enc b cy X S_33) := hG
                        refine mj_ast S hG 49 49 rfl ec_49 (Nat.lt_of_lt_of_le (Nat.le_of_ble_eq_true rfl) hn) dX0_countSequence_225 hg_44 (by decide) (fun H locs S_49 eS_49 hG => ?_)
                        replace hM := nx_at hM eS_49
                        clear eS_49
                        refine lv_iinc (v := iI (v_32 + 1)) (lv' := [(7, .int (iI (v_32 + 1))), (6, .int (iI v_19)), (4, .int (iI x_3)), (3, .int (iI x_1)), (0, .ref (b + 48)), (1, .int (iI a1)), (2, .int (iI a2))]) hx hb dX0_countSequence_226 hl (k := 0) rfl ((iI_add v_32 (1)).trans (congrArg iI (by omega))) (by decide) rfl (fun ls hl => ?_)
                        refine lv_goto (tgt := 185) hx hb dX0_countSequence_229 (by decide) ?_
                        exact ih_38 (v_32 + 1) S_49 H locs ls hM hG (lv_sub hl [0, 1, 2, 3, 4, 5, 6] rfl)
                  exact loop_37 FU 0 S_20 H locs ls hc_35 hG (lv_sub hl [0, 1, 2, 3, 4, 5, 6] rfl)
              clear hM
              replace hM := hc_28
              refine gi_if_ne (tgt := 177) hx hb dX0_countSequence_170 (by decide) hg_9 (fun c_50 => ?_) (fun c_50 => ?_)
              · replace hM := ifn hM c_50
                refine lv_iload hx hb dX0_countSequence_177 (lv_at hl 1 rfl) ?_
                cases hM
                exact hK_29 H locs ls hG (lv_sub hl [0, 1, 2, 3, 4, 5] rfl)
              · replace hM := ifp hM c_50
                refine lv_iload_n hx hb dX0_countSequence_173 rfl (lv_at hl 5 rfl) ?_
                refine lv_goto (tgt := 179) hx hb dX0_countSequence_174 (by decide) ?_
                cases hM
                exact hK_29 H locs ls hG (lv_sub hl [0, 1, 2, 3, 4, 5] rfl)
          exact loop_24 FU z_16 S_13 H locs ls hc_22 hG (lv_sub hl [0, 1, 2, 3, 4, 5] rfl)
        clear hM
        replace hM := hc_17
        refine gi_if_ne (tgt := 162) hx hb dX0_countSequence_155 (by decide) hg_9 (fun c_51 => ?_) (fun c_51 => ?_)
        · replace hM := ifn hM c_51
          refine lv_iload hx hb dX0_countSequence_162 (lv_at hl 0 rfl) ?_
          cases hM
          exact hK_18 H locs ls hG (lv_sub hl [0, 1, 2, 3, 4] rfl)
        · replace hM := ifp hM c_51
          refine lv_iconst (v := iI 1) hx hb dX0_countSequence_158 (by decide) ?_
          refine lv_goto (tgt := 164) hx hb dX0_countSequence_159 (by decide) ?_
          cases hM
          exact hK_18 H locs ls hG (lv_sub hl [0, 1, 2, 3, 4] rfl)
      clear hM
      replace hM := hc_14
      obtain ⟨hg_52, hM⟩ := gd_some hM
      refine gi_if_eq (tgt := 147) hx hb dX0_countSequence_124 (by decide) hg_52 (fun c_53 => ?_) (fun c_53 => ?_)
      · replace hM := ifp hM c_53
        refine lv_aload_n hx hb dX0_countSequence_147 rfl (lv_at hl 3 rfl) ?_
        refine lv_iload_n hx hb dX0_countSequence_148 rfl (lv_at hl 4 rfl) ?_
        refine lv_iload_n hx hb dX0_countSequence_149 rfl (lv_at hl 5 rfl) ?_
        obtain ⟨S_55, hc_54, hM⟩ := bd1_some hM
        refine g_vv (As := [.int (iI a1), .int (iI a2)]) (rest := []) S hG hsz (vX0_growRows_48 l hn a1 a2 hc_54) wV_0_161 (ec_48 _) cpX0 (Nat.lt_of_lt_of_le (Nat.le_of_ble_eq_true rfl) hn) dX0_countSequence_150 rfl hl.1 (ar := 2) (by decide +kernel) rfl ⟨Nat.le_of_ble_eq_true rfl, Nat.le_of_ble_eq_true rfl, Nat.le_of_ble_eq_true rfl, Nat.le_of_ble_eq_true rfl⟩ (Nat.le_of_ble_eq_true rfl) (fun uu H locs hp hG => ?_)
        obtain rfl := hp
        replace hG : gW D cy b n s H locs (enc b cy X S_55) := hG
        cases hM
        exact hK_15 H locs ls hG (lv_sub hl [1, 2, 3, 4, 5] rfl)
      · replace hM := ifn hM c_53
        refine lv_aload_n hx hb dX0_countSequence_127 rfl (lv_at hl 3 rfl) ?_
        refine lv_iload_n hx hb dX0_countSequence_128 rfl (lv_at hl 4 rfl) ?_
        refine lv_iload hx hb dX0_countSequence_129 (lv_at hl 1 rfl) ?_
        refine gi_if_ne (tgt := 138) hx hb dX0_countSequence_131 (by decide) hg_9 (fun c_56 => ?_) (fun c_56 => ?_)
        · replace hM := ifn hM c_56
          refine lv_iload_n hx hb dX0_countSequence_138 rfl (lv_at hl 5 rfl) ?_
          refine lv_iconst (v := iI 1) hx hb dX0_countSequence_139 (by decide) ?_
          refine gi_sub hx hb dX0_countSequence_140 ?_
          obtain ⟨S_58, hc_57, hM⟩ := bd1_some hM
          refine g_vv (As := [.int (iI a1), .int (iI (a2 - 1))]) (rest := []) S hG hsz (vX0_addClasses_48 l hn a1 (a2 - 1) hc_57) wV_0_158 (ec_48 _) cpX0 (Nat.lt_of_lt_of_le (Nat.le_of_ble_eq_true rfl) hn) dX0_countSequence_141 rfl hl.1 (ar := 2) (by decide +kernel) rfl ⟨Nat.le_of_ble_eq_true rfl, Nat.le_of_ble_eq_true rfl, Nat.le_of_ble_eq_true rfl, Nat.le_of_ble_eq_true rfl⟩ (Nat.le_of_ble_eq_true rfl) (fun uu H locs hp hG => ?_)
          obtain rfl := hp
          replace hG : gW D cy b n s H locs (enc b cy X S_58) := hG
          refine lv_goto (tgt := 153) hx hb dX0_countSequence_144 (by decide) ?_
          cases hM
          exact hK_15 H locs ls hG (lv_sub hl [1, 2, 3, 4, 5] rfl)
        · replace hM := ifp hM c_56
          refine lv_iload_n hx hb dX0_countSequence_134 rfl (lv_at hl 5 rfl) ?_
          refine lv_goto (tgt := 141) hx hb dX0_countSequence_135 (by decide) ?_
          obtain ⟨S_60, hc_59, hM⟩ := bd1_some hM
          refine g_vv (As := [.int (iI a1), .int (iI a2)]) (rest := []) S hG hsz (vX0_addClasses_48 l hn a1 a2 hc_59) wV_0_158 (ec_48 _) cpX0 (Nat.lt_of_lt_of_le (Nat.le_of_ble_eq_true rfl) hn) dX0_countSequence_141 rfl hl.1 (ar := 2) (by decide +kernel) rfl ⟨Nat.le_of_ble_eq_true rfl, Nat.le_of_ble_eq_true rfl, Nat.le_of_ble_eq_true rfl, Nat.le_of_ble_eq_true rfl⟩ (Nat.le_of_ble_eq_true rfl) (fun uu H locs hp hG => ?_)
          obtain rfl := hp
          replace hG : gW D cy b n s H locs (enc b cy X S_60) := hG
          refine lv_goto (tgt := 153) hx hb dX0_countSequence_144 (by decide) ?_
          cases hM
          exact hK_15 H locs ls hG (lv_sub hl [1, 2, 3, 4, 5] rfl)
    · replace hM := ifp hM c_10
      refine lv_aload_n hx hb dX0_countSequence_87 rfl (lv_at hl 3 rfl) ?_
      refine lv_aload_n hx hb dX0_countSequence_88 rfl (lv_at hl 3 rfl) ?_
      refine m_get S hG 48 48 2 rfl ec_48 cpX0 wm_405 dX0_countSequence_89 rfl (Nat.lt_of_lt_of_le (Nat.le_of_ble_eq_true rfl) hn) (by decide) ?_
      refine lv_aload_n hx hb dX0_countSequence_92 rfl (lv_at hl 3 rfl) ?_
      refine m_get S hG 48 48 0 rfl ec_48 cpX0 wm_403 dX0_countSequence_93 rfl (Nat.lt_of_lt_of_le (Nat.le_of_ble_eq_true rfl) hn) (by decide) ?_
      refine m_get S hG 2 2 7 rfl ec_2 cpX2 wm_252 dX0_countSequence_96 rfl (Nat.lt_of_lt_of_le (Nat.le_of_ble_eq_true rfl) hn) (by decide) ?_
      refine lv_iload_n hx hb dX0_countSequence_99 rfl (lv_at hl 4 rfl) ?_
      refine mi_ald S hG 5 5 rfl ec_5 (Nat.lt_of_lt_of_le (Nat.le_of_ble_eq_true rfl) hn) dX0_countSequence_100 hg_2 (by decide) ?_
      refine lv_bipush (v := iI 64) hx hb dX0_countSequence_101 (by decide) ?_
      refine gi_mul hx hb dX0_countSequence_103 ?_
      refine lv_iload_n hx hb dX0_countSequence_104 rfl (lv_at hl 5 rfl) ?_
      refine lv_bipush (v := iI 8) hx hb dX0_countSequence_105 (by decide) ?_
      refine gi_mul hx hb dX0_countSequence_107 ?_
      refine gi_add hx hb dX0_countSequence_108 ?_
      refine lv_aload_n hx hb dX0_countSequence_109 rfl (lv_at hl 3 rfl) ?_
      refine m_get S hG 48 48 2 rfl ec_48 cpX0 wm_405 dX0_countSequence_110 rfl (Nat.lt_of_lt_of_le (Nat.le_of_ble_eq_true rfl) hn) (by decide) ?_
      refine lv_iload_n hx hb dX0_countSequence_113 rfl (lv_at hl 2 rfl) ?_
      refine lv_iload_n hx hb dX0_countSequence_114 rfl (lv_at hl 5 rfl) ?_
      obtain ⟨S_62, hc_61, hM⟩ := bd1_some hM
      refine g_vv (As := [.ref (b + 49), .int (iI (((S_6 5 a1) * 64) + (a2 * 8))), .ref (b + 49), .int (iI x_1), .int (iI a2)]) (rest := []) S hG hsz (vX0_copyCells_48_49_49 l hn (((S_6 5 a1) * 64) + (a2 * 8)) x_1 a2 hc_61) wV_0_118 (ec_48 _) cpX0 (Nat.lt_of_lt_of_le (Nat.le_of_ble_eq_true rfl) hn) dX0_countSequence_115 rfl hl.1 (ar := 5) (by decide +kernel) rfl ⟨Nat.le_of_ble_eq_true rfl, Nat.le_of_ble_eq_true rfl, Nat.le_of_ble_eq_true rfl, Nat.le_of_ble_eq_true rfl⟩ (Nat.le_of_ble_eq_true rfl) (fun uu H locs hp hG => ?_)
      obtain rfl := hp
      replace hG : gW D cy b n s H locs (enc b cy X S_62) := hG
      cases hM
      exact g_vret S hr hlk hG hsz dX0_countSequence_118 ⟨Nat.le_of_ble_eq_true rfl, Nat.le_of_ble_eq_true rfl⟩ rfl
  · replace hM := ifp hM c_8
    refine lv_aload_n hx hb dX0_countSequence_46 rfl (lv_at hl 3 rfl) ?_
    refine lv_iload_n hx hb dX0_countSequence_47 rfl (lv_at hl 4 rfl) ?_
    obtain ⟨S_64, hc_63, hM⟩ := bd1_some hM
    refine g_vv (As := [.int (iI a1)]) (rest := []) S hG hsz (vX0_clearRows_48 l hn a1 hc_63) wV_0_145 (ec_48 _) cpX0 (Nat.lt_of_lt_of_le (Nat.le_of_ble_eq_true rfl) hn) dX0_countSequence_48 rfl hl.1 (ar := 1) (by decide +kernel) rfl ⟨Nat.le_of_ble_eq_true rfl, Nat.le_of_ble_eq_true rfl, Nat.le_of_ble_eq_true rfl, Nat.le_of_ble_eq_true rfl⟩ (Nat.le_of_ble_eq_true rfl) (fun uu H locs hp hG => ?_)
    obtain rfl := hp
    replace hG : gW D cy b n s H locs (enc b cy X S_64) := hG
    refine lv_aload_n hx hb dX0_countSequence_51 rfl (lv_at hl 3 rfl) ?_
    refine lv_iload_n hx hb dX0_countSequence_52 rfl (lv_at hl 4 rfl) ?_
    refine lv_iconst (v := iI 0) hx hb dX0_countSequence_53 (by decide) ?_
    obtain ⟨S_66, hc_65, hM⟩ := bd1_some hM
    refine g_vv (As := [.int (iI a1), .int (iI 0)]) (rest := []) S hG hsz (vX0_keepStage_48 l hn a1 0 hc_65) wV_0_149 (ec_48 _) cpX0 (Nat.lt_of_lt_of_le (Nat.le_of_ble_eq_true rfl) hn) dX0_countSequence_54 rfl hl.1 (ar := 2) (by decide +kernel) rfl ⟨Nat.le_of_ble_eq_true rfl, Nat.le_of_ble_eq_true rfl, Nat.le_of_ble_eq_true rfl, Nat.le_of_ble_eq_true rfl⟩ (Nat.le_of_ble_eq_true rfl) (fun uu H locs hp hG => ?_)
    obtain rfl := hp
    replace hG : gW D cy b n s H locs (enc b cy X S_66) := hG
    refine lv_aload_n hx hb dX0_countSequence_57 rfl (lv_at hl 3 rfl) ?_
    refine m_get S hG 48 48 2 rfl ec_48 cpX0 wm_405 dX0_countSequence_58 rfl (Nat.lt_of_lt_of_le (Nat.le_of_ble_eq_true rfl) hn) (by decide) ?_
    refine lv_iload_n hx hb dX0_countSequence_61 rfl (lv_at hl 2 rfl) ?_
    refine lv_iload hx hb dX0_countSequence_62 (lv_at hl 1 rfl) ?_
    obtain ⟨hg_67, hM⟩ := gd_some hM
    refine gi_if_ne (tgt := 78) hx hb dX0_countSequence_64 (by decide) hg_67 (fun c_68 => ?_) (fun c_68 => ?_)
    · replace hM := ifn hM c_68
      refine lv_lconst (v := jJ 0) hx hb dX0_countSequence_78 (by decide) ?_
      obtain ⟨hg_69, hM⟩ := gd_some hM
      refine mj_ast S hG 49 49 rfl ec_49 (Nat.lt_of_lt_of_le (Nat.le_of_ble_eq_true rfl) hn) dX0_countSequence_79 hg_69 (by decide) (fun H locs S_70 eS_70 hG => ?_)
      replace hM := nx_at hM eS_70
      clear eS_70
      cases hM
      exact g_vret S hr hlk hG hsz dX0_countSequence_80 ⟨Nat.le_of_ble_eq_true rfl, Nat.le_of_ble_eq_true rfl⟩ rfl
    · replace hM := ifp hM c_68
      refine lv_iload hx hb dX0_countSequence_67 (lv_at hl 0 rfl) ?_
      refine lv_bipush (v := iI 6) hx hb dX0_countSequence_69 (by decide) ?_
      obtain ⟨hg_71, hM⟩ := gd_some hM
      refine gi_icmp_eq (tgt := 78) hx hb dX0_countSequence_71 (by decide) hg_71 (by decide) (fun c_72 => ?_) (fun c_72 => ?_)
      · replace hM := ifp hM c_72
        refine lv_lconst (v := jJ 0) hx hb dX0_countSequence_78 (by decide) ?_
        obtain ⟨hg_73, hM⟩ := gd_some hM
        refine mj_ast S hG 49 49 rfl ec_49 (Nat.lt_of_lt_of_le (Nat.le_of_ble_eq_true rfl) hn) dX0_countSequence_79 hg_73 (by decide) (fun H locs S_74 eS_74 hG => ?_)
        replace hM := nx_at hM eS_74
        clear eS_74
        cases hM
        exact g_vret S hr hlk hG hsz dX0_countSequence_80 ⟨Nat.le_of_ble_eq_true rfl, Nat.le_of_ble_eq_true rfl⟩ rfl
      · replace hM := ifn hM c_72
        refine lv_lconst (v := jJ 1) hx hb dX0_countSequence_74 (by decide) ?_
        refine lv_goto (tgt := 79) hx hb dX0_countSequence_75 (by decide) ?_
        obtain ⟨hg_75, hM⟩ := gd_some hM
        refine mj_ast S hG 49 49 rfl ec_49 (Nat.lt_of_lt_of_le (Nat.le_of_ble_eq_true rfl) hn) dX0_countSequence_79 hg_75 (by decide) (fun H locs S_76 eS_76 hG => ?_)
        replace hM := nx_at hM eS_76
        clear eS_76
        cases hM
        exact g_vret S hr hlk hG hsz dX0_countSequence_80 ⟨Nat.le_of_ble_eq_true rfl, Nat.le_of_ble_eq_true rfl⟩ rfl
def mX0_copyCells_48_51_49_3 (a2 : Int) (a4 : Int) (a5 : Int) : Nat → Int → St → Option (St)
  | 0, _, _ => none
  | f + 1, v_1, S_2 => bd1 (mX0_letterTop_48 S_2 a5) fun r_10 => gd ((inI v_1) ∧ (inI r_10)) <| if r_10 < v_1 then (some (S_2)) else (gd (0 ≤ (a2 + v_1) ∧ (a2 + v_1) < 384) <| gd (0 ≤ (a4 + v_1) ∧ (a4 + v_1) < 1536) <| nx (up S_2 49 (a4 + v_1) (S_2 51 (a2 + v_1))) fun S_15 => mX0_copyCells_48_51_49_3 a2 a4 a5 f (v_1 + 1) S_15)
def mX0_copyCells_48_51_49 (S0 : St) (a2 : Int) (a4 : Int) (a5 : Int) : Option (St) := bd1 (mX0_copyCells_48_51_49_3 a2 a4 a5 FU 0 S0) fun S_3 => some (S_3)
set_option maxHeartbeats 4000000 in
set_option maxRecDepth 100000 in
theorem vX0_copyCells_48_51_49 (l : Launch) {D : va_G} {cy : Nat → ClassId} {b n : Nat} (hn : 102 ≤ n) {X : Nat → va_E} {S0 : St} (a2 : Int) (a4 : Int) (a5 : Int) {o1 : St} (hM : mX0_copyCells_48_51_49 S0 a2 a4 a5 = some o1) : gV l yX0_copyCells cX0_copyCells 7 1 0 0 D cy b n (enc b cy X S0) [.ref (b + 48), .ref (b + 51), .int (iI a2), .ref (b + 49), .int (iI a4), .int (iI a5)] (fun u => u = (n, enc b cy X o1)) := by
  refine gV_of (by decide) (Nat.le_of_ble_eq_true rfl) ?_
  intro p e s m args below meth c S hr hlk hin hsz ls hl hG
  have hx := S.1
  have hb := S.2.1
  have hl : lv_has ls 7 [(0, .ref (b + 48)), (1, .ref (b + 51)), (2, .int (iI a2)), (3, .ref (b + 49)), (4, .int (iI a4)), (5, .int (iI a5))] := hl
  replace hG : gW D cy b n s s.heap [] (enc b cy X S0) := hG
  obtain ⟨H, eH⟩ : ∃ H, H = s.heap := ⟨_, rfl⟩
  obtain ⟨locs, elocs⟩ : ∃ locs : List Loc, locs = [] := ⟨_, rfl⟩
  rw [← eH, ← elocs] at hG
  rw [← eH, ← elocs]
  clear eH elocs
  unfold mX0_copyCells_48_51_49 at hM
  refine lv_iconst (v := iI 0) hx hb dX0_copyCells_0 (by decide) ?_
  refine lv_istore (lv' := [(6, .int (iI 0)), (0, .ref (b + 48)), (1, .ref (b + 51)), (2, .int (iI a2)), (3, .ref (b + 49)), (4, .int (iI a4)), (5, .int (iI a5))]) hx hb dX0_copyCells_1 hl (by decide) rfl (fun ls hl => ?_)
  obtain ⟨S_3, hc_4, hM⟩ := bd1_some hM
  have hK_5 : ∀ (H : Heap) (locs : List Loc) (ls : Array Slot), gW D cy b n s H locs (enc b cy X S_3) → lv_has ls 7 [] → W p l e (gRm 1 0 0) s m args below meth c H locs 0 0 (gQV D cy b s args below 0 0 (fun u => u = (n, enc b cy X o1))) (F0 m 33 ls []) := by
    intro H locs ls hG hl
    cases hM
    exact g_vret S hr hlk hG hsz dX0_copyCells_33 ⟨Nat.le_of_ble_eq_true rfl, Nat.le_of_ble_eq_true rfl⟩ rfl
  have loop_6 : ∀ (f : Nat) (v_1 : Int) (S_2 : St) (H : Heap) (locs : List Loc) (ls : Array Slot), mX0_copyCells_48_51_49_3 a2 a4 a5 f v_1 S_2 = some S_3 → gW D cy b n s H locs (enc b cy X S_2) → lv_has ls 7 [(6, .int (iI v_1)), (0, .ref (b + 48)), (1, .ref (b + 51)), (2, .int (iI a2)), (3, .ref (b + 49)), (4, .int (iI a4)), (5, .int (iI a5))] → W p l e (gRm 1 0 0) s m args below meth c H locs 0 0 (gQV D cy b s args below 0 0 (fun u => u = (n, enc b cy X o1))) (F0 m 3 ls []) := by
    clear hM
    intro f
    induction f with
    | zero => intro v_1 S_2 H locs ls hM; rw [mX0_copyCells_48_51_49_3] at hM; cases hM
    | succ f_8 ih_7 =>
      intro v_1 S_2 H locs ls hM hG hl
      rw [mX0_copyCells_48_51_49_3] at hM
      refine lv_iload hx hb dX0_copyCells_3 (lv_at hl 0 rfl) ?_
      refine lv_aload_n hx hb dX0_copyCells_5 rfl (lv_at hl 1 rfl) ?_
      refine lv_iload hx hb dX0_copyCells_6 (lv_at hl 6 rfl) ?_
      obtain ⟨r_10, hc_9, hM⟩ := bd1_some hM
      refine g_vi (As := [.int (iI a5)]) (rest := [.int (iI v_1)]) S hG hsz (vX0_letterTop_48 l hn a5 hc_9) wV_0_108 (ec_48 _) cpX0 (Nat.lt_of_lt_of_le (Nat.le_of_ble_eq_true rfl) hn) dX0_copyCells_8 rfl hl.1 (ar := 1) (by decide +kernel) rfl ⟨Nat.le_of_ble_eq_true rfl, Nat.le_of_ble_eq_true rfl, Nat.le_of_ble_eq_true rfl, Nat.le_of_ble_eq_true rfl⟩ (Nat.le_of_ble_eq_true rfl) (fun rv uu H locs hp hG => ?_)
      obtain ⟨rfl, rfl⟩ := hp
      replace hG : gW D cy b n s H locs (enc b cy X S_2) := hG
      obtain ⟨hg_11, hM⟩ := gd_some hM
      refine gi_icmp_gt (tgt := 33) hx hb dX0_copyCells_11 (by decide) hg_11.1 hg_11.2 (fun c_12 => ?_) (fun c_12 => ?_)
      · replace hM := ifp hM c_12
        cases hM
        exact hK_5 H locs ls hG (lv_sub hl [] rfl)
      · replace hM := ifn hM c_12
        refine lv_aload_n hx hb dX0_copyCells_14 rfl (lv_at hl 4 rfl) ?_
        refine lv_iload hx hb dX0_copyCells_15 (lv_at hl 5 rfl) ?_
        refine lv_iload hx hb dX0_copyCells_17 (lv_at hl 0 rfl) ?_
        refine gi_add hx hb dX0_copyCells_19 ?_
        refine lv_aload_n hx hb dX0_copyCells_20 rfl (lv_at hl 2 rfl) ?_
        refine lv_iload_n hx hb dX0_copyCells_21 rfl (lv_at hl 3 rfl) ?_
        refine lv_iload hx hb dX0_copyCells_22 (lv_at hl 0 rfl) ?_
        refine gi_add hx hb dX0_copyCells_24 ?_
        obtain ⟨hg_13, hM⟩ := gd_some hM
        refine mj_ald S hG 51 51 rfl ec_51 (Nat.lt_of_lt_of_le (Nat.le_of_ble_eq_true rfl) hn) dX0_copyCells_25 hg_13 (by decide) ?_
        obtain ⟨hg_14, hM⟩ := gd_some hM
        refine mj_ast S hG 49 49 rfl ec_49 (Nat.lt_of_lt_of_le (Nat.le_of_ble_eq_true rfl) hn) dX0_copyCells_26 hg_14 (by decide) (fun H locs S_15 eS_15 hG => ?_)
        replace hM := nx_at hM eS_15
        clear eS_15
        refine lv_iinc (v := iI (v_1 + 1)) (lv' := [(6, .int (iI (v_1 + 1))), (0, .ref (b + 48)), (1, .ref (b + 51)), (2, .int (iI a2)), (3, .ref (b + 49)), (4, .int (iI a4)), (5, .int (iI a5))]) hx hb dX0_copyCells_27 hl (k := 0) rfl ((iI_add v_1 (1)).trans (congrArg iI (by omega))) (by decide) rfl (fun ls hl => ?_)
        refine lv_goto (tgt := 3) hx hb dX0_copyCells_30 (by decide) ?_
        exact ih_7 (v_1 + 1) S_15 H locs ls hM hG (lv_sub hl [0, 1, 2, 3, 4, 5, 6] rfl)
  exact loop_6 FU 0 S0 H locs ls hc_4 hG (lv_sub hl [0, 1, 2, 3, 4, 5, 6] rfl)
def mX0_sumTerms_48_49_19 (S_2 : St) (v_1 : Int) (a1 : Int) (a2 : Int) (a4 : Int) : Nat → Int → Int → Option (Int)
  | 0, _, _ => none
  | f + 1, v_13, v_14 => gd (0 ≤ a1 ∧ a1 < 30) <| gd ((inI v_13) ∧ (inI (S_2 8 a1))) <| if (S_2 8 a1) ≤ v_13 then (some (v_14)) else (bd1 (mX2_isOff_2 S_2 a1 v_13) fun r_27 => gd (inI r_27) <| if r_27 = 0 then (bd1 (mX2_start_2 S_2 a1 v_13) fun r_31 => gd (0 ≤ (((r_31 * 64) + (a2 * 8)) + v_1) ∧ (((r_31 * 64) + (a2 * 8)) + v_1) < 1536) <| bd1 (mX11_plus v_14 (S_2 50 (((r_31 * 64) + (a2 * 8)) + v_1))) fun r_34 => mX0_sumTerms_48_49_19 S_2 v_1 a1 a2 a4 f (v_13 + 1) r_34) else (mX0_sumTerms_48_49_19 S_2 v_1 a1 a2 a4 f (v_13 + 1) v_14))
def mX0_sumTerms_48_49_3 (a1 : Int) (a2 : Int) (a4 : Int) : Nat → Int → St → Option (St)
  | 0, _, _ => none
  | f + 1, v_1, S_2 => bd1 (mX0_letterTop_48 S_2 a2) fun r_10 => gd ((inI v_1) ∧ (inI r_10)) <| if r_10 < v_1 then (some (S_2)) else (bd1 (mX0_sumTerms_48_49_19 S_2 v_1 a1 a2 a4 FU 0 0) fun y_15 => gd (0 ≤ (a4 + v_1) ∧ (a4 + v_1) < 1536) <| nx (up S_2 49 (a4 + v_1) y_15) fun S_19 => mX0_sumTerms_48_49_3 a1 a2 a4 f (v_1 + 1) S_19)
def mX0_sumTerms_48_49 (S0 : St) (a1 : Int) (a2 : Int) (a4 : Int) : Option (St) := bd1 (mX0_sumTerms_48_49_3 a1 a2 a4 FU 0 S0) fun S_3 => some (S_3)
set_option maxHeartbeats 4000000 in
set_option maxRecDepth 100000 in
theorem vX0_sumTerms_48_49 (l : Launch) {D : va_G} {cy : Nat → ClassId} {b n : Nat} (hn : 102 ≤ n) {X : Nat → va_E} {S0 : St} (a1 : Int) (a2 : Int) (a4 : Int) {o1 : St} (hM : mX0_sumTerms_48_49 S0 a1 a2 a4 = some o1) : gV l yX0_sumTerms cX0_sumTerms 9 1 0 0 D cy b n (enc b cy X S0) [.ref (b + 48), .int (iI a1), .int (iI a2), .ref (b + 49), .int (iI a4)] (fun u => u = (n, enc b cy X o1)) := by
  refine gV_of (by decide) (Nat.le_of_ble_eq_true rfl) ?_
  intro p e s m args below meth c S hr hlk hin hsz ls hl hG
  have hx := S.1
  have hb := S.2.1
  have hl : lv_has ls 9 [(0, .ref (b + 48)), (1, .int (iI a1)), (2, .int (iI a2)), (3, .ref (b + 49)), (4, .int (iI a4))] := hl
  replace hG : gW D cy b n s s.heap [] (enc b cy X S0) := hG
  obtain ⟨H, eH⟩ : ∃ H, H = s.heap := ⟨_, rfl⟩
  obtain ⟨locs, elocs⟩ : ∃ locs : List Loc, locs = [] := ⟨_, rfl⟩
  rw [← eH, ← elocs] at hG
  rw [← eH, ← elocs]
  clear eH elocs
  unfold mX0_sumTerms_48_49 at hM
  refine lv_iconst (v := iI 0) hx hb dX0_sumTerms_0 (by decide) ?_
  refine lv_istore (lv' := [(5, .int (iI 0)), (0, .ref (b + 48)), (1, .int (iI a1)), (2, .int (iI a2)), (3, .ref (b + 49)), (4, .int (iI a4))]) hx hb dX0_sumTerms_1 hl (by decide) rfl (fun ls hl => ?_)
  obtain ⟨S_3, hc_4, hM⟩ := bd1_some hM
  have hK_5 : ∀ (H : Heap) (locs : List Loc) (ls : Array Slot), gW D cy b n s H locs (enc b cy X S_3) → lv_has ls 9 [] → W p l e (gRm 1 0 0) s m args below meth c H locs 0 0 (gQV D cy b s args below 0 0 (fun u => u = (n, enc b cy X o1))) (F0 m 100 ls []) := by
    intro H locs ls hG hl
    cases hM
    exact g_vret S hr hlk hG hsz dX0_sumTerms_100 ⟨Nat.le_of_ble_eq_true rfl, Nat.le_of_ble_eq_true rfl⟩ rfl
  have loop_6 : ∀ (f : Nat) (v_1 : Int) (S_2 : St) (H : Heap) (locs : List Loc) (ls : Array Slot), mX0_sumTerms_48_49_3 a1 a2 a4 f v_1 S_2 = some S_3 → gW D cy b n s H locs (enc b cy X S_2) → lv_has ls 9 [(5, .int (iI v_1)), (0, .ref (b + 48)), (1, .int (iI a1)), (2, .int (iI a2)), (3, .ref (b + 49)), (4, .int (iI a4))] → W p l e (gRm 1 0 0) s m args below meth c H locs 0 0 (gQV D cy b s args below 0 0 (fun u => u = (n, enc b cy X o1))) (F0 m 3 ls []) := by
    clear hM
    intro f
    induction f with
    | zero => intro v_1 S_2 H locs ls hM; rw [mX0_sumTerms_48_49_3] at hM; cases hM
    | succ f_8 ih_7 =>
      intro v_1 S_2 H locs ls hM hG hl
      rw [mX0_sumTerms_48_49_3] at hM
      refine lv_iload hx hb dX0_sumTerms_3 (lv_at hl 0 rfl) ?_
      refine lv_aload_n hx hb dX0_sumTerms_5 rfl (lv_at hl 1 rfl) ?_
      refine lv_iload_n hx hb dX0_sumTerms_6 rfl (lv_at hl 3 rfl) ?_
      obtain ⟨r_10, hc_9, hM⟩ := bd1_some hM
      refine g_vi (As := [.int (iI a2)]) (rest := [.int (iI v_1)]) S hG hsz (vX0_letterTop_48 l hn a2 hc_9) wV_0_108 (ec_48 _) cpX0 (Nat.lt_of_lt_of_le (Nat.le_of_ble_eq_true rfl) hn) dX0_sumTerms_7 rfl hl.1 (ar := 1) (by decide +kernel) rfl ⟨Nat.le_of_ble_eq_true rfl, Nat.le_of_ble_eq_true rfl, Nat.le_of_ble_eq_true rfl, Nat.le_of_ble_eq_true rfl⟩ (Nat.le_of_ble_eq_true rfl) (fun rv uu H locs hp hG => ?_)
      obtain ⟨rfl, rfl⟩ := hp
      replace hG : gW D cy b n s H locs (enc b cy X S_2) := hG
      obtain ⟨hg_11, hM⟩ := gd_some hM
      refine gi_icmp_gt (tgt := 100) hx hb dX0_sumTerms_10 (by decide) hg_11.1 hg_11.2 (fun c_12 => ?_) (fun c_12 => ?_)
      · replace hM := ifp hM c_12
        cases hM
        exact hK_5 H locs ls hG (lv_sub hl [] rfl)
      · replace hM := ifn hM c_12
        refine lv_lconst (v := jJ 0) hx hb dX0_sumTerms_13 (by decide) ?_
        refine lv_lstore (lv' := [(6, .long (jJ 0)), (5, .int (iI v_1)), (0, .ref (b + 48)), (1, .int (iI a1)), (2, .int (iI a2)), (3, .ref (b + 49)), (4, .int (iI a4))]) hx hb dX0_sumTerms_14 hl (by decide) rfl (fun ls hl => ?_)
        refine lv_iconst (v := iI 0) hx hb dX0_sumTerms_16 (by decide) ?_
        refine lv_istore (lv' := [(8, .int (iI 0)), (6, .long (jJ 0)), (5, .int (iI v_1)), (0, .ref (b + 48)), (1, .int (iI a1)), (2, .int (iI a2)), (3, .ref (b + 49)), (4, .int (iI a4))]) hx hb dX0_sumTerms_17 hl (by decide) rfl (fun ls hl => ?_)
        obtain ⟨y_15, hc_16, hM⟩ := bd1_some hM
        have hK_17 : ∀ (H : Heap) (locs : List Loc) (ls : Array Slot), gW D cy b n s H locs (enc b cy X S_2) → lv_has ls 9 [(5, .int (iI v_1)), (0, .ref (b + 48)), (1, .int (iI a1)), (2, .int (iI a2)), (3, .ref (b + 49)), (4, .int (iI a4)), (6, .long (jJ y_15))] → W p l e (gRm 1 0 0) s m args below meth c H locs 0 0 (gQV D cy b s args below 0 0 (fun u => u = (n, enc b cy X o1))) (F0 m 85 ls []) := by
          intro H locs ls hG hl
          refine lv_aload_n hx hb dX0_sumTerms_85 rfl (lv_at hl 4 rfl) ?_
          refine lv_iload hx hb dX0_sumTerms_86 (lv_at hl 5 rfl) ?_
          refine lv_iload hx hb dX0_sumTerms_88 (lv_at hl 0 rfl) ?_
          refine gi_add hx hb dX0_sumTerms_90 ?_
          refine lv_lload hx hb dX0_sumTerms_91 (lv_at hl 6 rfl) ?_
          obtain ⟨hg_18, hM⟩ := gd_some hM
          refine mj_ast S hG 49 49 rfl ec_49 (Nat.lt_of_lt_of_le (Nat.le_of_ble_eq_true rfl) hn) dX0_sumTerms_93 hg_18 (by decide) (fun H locs S_19 eS_19 hG => ?_)
          replace hM := nx_at hM eS_19
          clear eS_19
          refine lv_iinc (v := iI (v_1 + 1)) (lv' := [(5, .int (iI (v_1 + 1))), (0, .ref (b + 48)), (1, .int (iI a1)), (2, .int (iI a2)), (3, .ref (b + 49)), (4, .int (iI a4)), (6, .long (jJ y_15))]) hx hb dX0_sumTerms_94 hl (k := 0) rfl ((iI_add v_1 (1)).trans (congrArg iI (by omega))) (by decide) rfl (fun ls hl => ?_)
          refine lv_goto (tgt := 3) hx hb dX0_sumTerms_97 (by decide) ?_
          exact ih_7 (v_1 + 1) S_19 H locs ls hM hG (lv_sub hl [0, 1, 2, 3, 4, 5] rfl)
        have loop_20 : ∀ (f : Nat) (v_13 : Int) (v_14 : Int) (H : Heap) (locs : List Loc) (ls : Array Slot), mX0_sumTerms_48_49_19 S_2 v_1 a1 a2 a4 f v_13 v_14 = some y_15 → gW D cy b n s H locs (enc b cy X S_2) → lv_has ls 9 [(8, .int (iI v_13)), (6, .long (jJ v_14)), (5, .int (iI v_1)), (0, .ref (b + 48)), (1, .int (iI a1)), (2, .int (iI a2)), (3, .ref (b + 49)), (4, .int (iI a4))] → W p l e (gRm 1 0 0) s m args below meth c H locs 0 0 (gQV D cy b s args below 0 0 (fun u => u = (n, enc b cy X o1))) (F0 m 19 ls []) := by
          clear hM
          intro f
          induction f with
          | zero => intro v_13 v_14 H locs ls hM; rw [mX0_sumTerms_48_49_19] at hM; cases hM
          | succ f_22 ih_21 =>
            intro v_13 v_14 H locs ls hM hG hl
            rw [mX0_sumTerms_48_49_19] at hM
            refine lv_iload hx hb dX0_sumTerms_19 (lv_at hl 0 rfl) ?_
            refine lv_aload_n hx hb dX0_sumTerms_21 rfl (lv_at hl 3 rfl) ?_
            refine m_get S hG 48 48 0 rfl ec_48 cpX0 wm_403 dX0_sumTerms_22 rfl (Nat.lt_of_lt_of_le (Nat.le_of_ble_eq_true rfl) hn) (by decide) ?_
            refine m_get S hG 2 2 10 rfl ec_2 cpX2 wm_267 dX0_sumTerms_25 rfl (Nat.lt_of_lt_of_le (Nat.le_of_ble_eq_true rfl) hn) (by decide) ?_
            refine lv_iload_n hx hb dX0_sumTerms_28 rfl (lv_at hl 4 rfl) ?_
            obtain ⟨hg_23, hM⟩ := gd_some hM
            refine mi_ald S hG 8 8 rfl ec_8 (Nat.lt_of_lt_of_le (Nat.le_of_ble_eq_true rfl) hn) dX0_sumTerms_29 hg_23 (by decide) ?_
            obtain ⟨hg_24, hM⟩ := gd_some hM
            refine gi_icmp_ge (tgt := 85) hx hb dX0_sumTerms_30 (by decide) hg_24.1 hg_24.2 (fun c_25 => ?_) (fun c_25 => ?_)
            · replace hM := ifp hM c_25
              cases hM
              exact hK_17 H locs ls hG (lv_sub hl [2, 3, 4, 5, 6, 7, 1] rfl)
            · replace hM := ifn hM c_25
              refine lv_aload_n hx hb dX0_sumTerms_33 rfl (lv_at hl 3 rfl) ?_
              refine m_get S hG 48 48 0 rfl ec_48 cpX0 wm_403 dX0_sumTerms_34 rfl (Nat.lt_of_lt_of_le (Nat.le_of_ble_eq_true rfl) hn) (by decide) ?_
              refine lv_iload_n hx hb dX0_sumTerms_37 rfl (lv_at hl 4 rfl) ?_
              refine lv_iload hx hb dX0_sumTerms_38 (lv_at hl 0 rfl) ?_
              obtain ⟨r_27, hc_26, hM⟩ := bd1_some hM
              refine g_vi (As := [.int (iI a1), .int (iI v_13)]) (rest := []) S hG hsz (vX2_isOff_2 l hn a1 v_13 hc_26) wV_0_72 (ec_2 _) cpX2 (Nat.lt_of_lt_of_le (Nat.le_of_ble_eq_true rfl) hn) dX0_sumTerms_40 rfl hl.1 (ar := 2) (by decide +kernel) rfl ⟨Nat.le_of_ble_eq_true rfl, Nat.le_of_ble_eq_true rfl, Nat.le_of_ble_eq_true rfl, Nat.le_of_ble_eq_true rfl⟩ (Nat.le_of_ble_eq_true rfl) (fun rv uu H locs hp hG => ?_)
              obtain ⟨rfl, rfl⟩ := hp
              replace hG : gW D cy b n s H locs (enc b cy X S_2) := hG
              obtain ⟨hg_28, hM⟩ := gd_some hM
              refine gi_if_ne (tgt := 79) hx hb dX0_sumTerms_43 (by decide) hg_28 (fun c_29 => ?_) (fun c_29 => ?_)
              · replace hM := ifn hM c_29
                refine lv_iinc (v := iI (v_13 + 1)) (lv' := [(8, .int (iI (v_13 + 1))), (6, .long (jJ v_14)), (5, .int (iI v_1)), (0, .ref (b + 48)), (1, .int (iI a1)), (2, .int (iI a2)), (3, .ref (b + 49)), (4, .int (iI a4))]) hx hb dX0_sumTerms_79 hl (k := 0) rfl ((iI_add v_13 (1)).trans (congrArg iI (by omega))) (by decide) rfl (fun ls hl => ?_)
                refine lv_goto (tgt := 19) hx hb dX0_sumTerms_82 (by decide) ?_
                exact ih_21 (v_13 + 1) v_14 H locs ls hM hG (lv_sub hl [0, 1, 2, 3, 4, 5, 6, 7] rfl)
              · replace hM := ifp hM c_29
                refine lv_lload hx hb dX0_sumTerms_46 (lv_at hl 1 rfl) ?_
                refine lv_aload_n hx hb dX0_sumTerms_48 rfl (lv_at hl 3 rfl) ?_
                refine m_get S hG 48 48 3 rfl ec_48 cpX0 wm_406 dX0_sumTerms_49 rfl (Nat.lt_of_lt_of_le (Nat.le_of_ble_eq_true rfl) hn) (by decide) ?_
                refine lv_aload_n hx hb dX0_sumTerms_52 rfl (lv_at hl 3 rfl) ?_
                refine m_get S hG 48 48 0 rfl ec_48 cpX0 wm_403 dX0_sumTerms_53 rfl (Nat.lt_of_lt_of_le (Nat.le_of_ble_eq_true rfl) hn) (by decide) ?_
                refine lv_iload_n hx hb dX0_sumTerms_56 rfl (lv_at hl 4 rfl) ?_
                refine lv_iload hx hb dX0_sumTerms_57 (lv_at hl 0 rfl) ?_
                obtain ⟨r_31, hc_30, hM⟩ := bd1_some hM
                refine g_vi (As := [.int (iI a1), .int (iI v_13)]) (rest := [.ref (b + 50), .long (jJ v_14)]) S hG hsz (vX2_start_2 l hn a1 v_13 hc_30) wV_0_76 (ec_2 _) cpX2 (Nat.lt_of_lt_of_le (Nat.le_of_ble_eq_true rfl) hn) dX0_sumTerms_59 rfl hl.1 (ar := 2) (by decide +kernel) rfl ⟨Nat.le_of_ble_eq_true rfl, Nat.le_of_ble_eq_true rfl, Nat.le_of_ble_eq_true rfl, Nat.le_of_ble_eq_true rfl⟩ (Nat.le_of_ble_eq_true rfl) (fun rv uu H locs hp hG => ?_)
                obtain ⟨rfl, rfl⟩ := hp
                replace hG : gW D cy b n s H locs (enc b cy X S_2) := hG
                refine lv_bipush (v := iI 64) hx hb dX0_sumTerms_62 (by decide) ?_
                refine gi_mul hx hb dX0_sumTerms_64 ?_
                refine lv_iload_n hx hb dX0_sumTerms_65 rfl (lv_at hl 5 rfl) ?_
                refine lv_bipush (v := iI 8) hx hb dX0_sumTerms_66 (by decide) ?_
                refine gi_mul hx hb dX0_sumTerms_68 ?_
                refine gi_add hx hb dX0_sumTerms_69 ?_
                refine lv_iload hx hb dX0_sumTerms_70 (lv_at hl 2 rfl) ?_
                refine gi_add hx hb dX0_sumTerms_72 ?_
                obtain ⟨hg_32, hM⟩ := gd_some hM
                refine mj_ald S hG 50 50 rfl ec_50 (Nat.lt_of_lt_of_le (Nat.le_of_ble_eq_true rfl) hn) dX0_sumTerms_73 hg_32 (by decide) ?_
                obtain ⟨r_34, hc_33, hM⟩ := bd1_some hM
                refine g_slN (As := [.long (jJ v_14), .long (jJ (S_2 50 (((r_31 * 64) + (a2 * 8)) + v_1)))]) (rest := []) S hG hsz (vX11_plus l hn v_14 (S_2 50 (((r_31 * 64) + (a2 * 8)) + v_1)) hc_33) (y := yX11_plus) (host := "GrownKinds") (by decide +kernel) ⟨wm_997, wm_177, wm_998, by decide +kernel, by decide +kernel⟩ dX0_sumTerms_74 rfl hl.1 (ar := 2) (by decide +kernel) rfl ⟨Nat.le_of_ble_eq_true rfl, Nat.le_of_ble_eq_true rfl, Nat.le_of_ble_eq_true rfl, Nat.le_of_ble_eq_true rfl⟩ (Nat.le_of_ble_eq_true rfl) (fun rv uu H locs hp hG => ?_)
                obtain ⟨rfl, rfl⟩ := hp
                replace hG : gW D cy b n s H locs (enc b cy X S_2) := hG
                refine lv_lstore (lv' := [(6, .long (jJ r_34)), (8, .int (iI v_13)), (5, .int (iI v_1)), (0, .ref (b + 48)), (1, .int (iI a1)), (2, .int (iI a2)), (3, .ref (b + 49)), (4, .int (iI a4))]) hx hb dX0_sumTerms_77 hl (by decide) rfl (fun ls hl => ?_)
                refine lv_iinc (v := iI (v_13 + 1)) (lv' := [(8, .int (iI (v_13 + 1))), (6, .long (jJ r_34)), (5, .int (iI v_1)), (0, .ref (b + 48)), (1, .int (iI a1)), (2, .int (iI a2)), (3, .ref (b + 49)), (4, .int (iI a4))]) hx hb dX0_sumTerms_79 hl (k := 1) rfl ((iI_add v_13 (1)).trans (congrArg iI (by omega))) (by decide) rfl (fun ls hl => ?_)
                refine lv_goto (tgt := 19) hx hb dX0_sumTerms_82 (by decide) ?_
                exact ih_21 (v_13 + 1) r_34 H locs ls hM hG (lv_sub hl [0, 1, 2, 3, 4, 5, 6, 7] rfl)
        exact loop_20 FU 0 0 H locs ls hc_16 hG (lv_sub hl [0, 1, 2, 3, 4, 5, 6, 7] rfl)
  exact loop_6 FU 0 S0 H locs ls hc_4 hG (lv_sub hl [0, 1, 2, 3, 4, 5] rfl)
def mX0_countPart_48 (S0 : St) (a1 : Int) (a2 : Int) : Option (St) := nx ((a1 * 64) + (a2 * 8)) fun x_1 => gd (0 ≤ a1 ∧ a1 < 24) <| nx (S0 3 a1) fun x_3 => gd (inI x_3) <| if x_3 = 7 then (bd1 (mX0_sumTerms_48_49 S0 (6 + a1) a2 x_1) fun S_32 => some (S_32)) else (if x_3 = 2 then (bd1 (mX0_copyCells_48_51_49 S0 (((S0 4 a1) * 64) + (a2 * 8)) x_1 a2) fun S_30 => some (S_30)) else (bd1 (mX2_isSequence_2 S0 a1) fun r_8 => gd (inI r_8) <| if r_8 = 0 then (bd1 (mX0_clearCells_48_49 S0 x_1 a2) fun S_12 => bd1 (if x_3 = 0 then (gd ((inI (S_12 48 1)) ∧ (inI (S_12 4 a1))) <| if (S_12 48 1) = (S_12 4 a1) then (some (1)) else (some (0))) else (some (0))) fun z_13 => bd1 (if x_3 = 0 then (some (1)) else (some (0))) fun z_16 => gd ((inI a2) ∧ (inI z_16)) <| if a2 = z_16 then (gd (0 ≤ (x_1 + z_13) ∧ (x_1 + z_13) < 1536) <| nx (up S_12 49 (x_1 + z_13) 1) fun S_22 => some (S_22)) else (some (S_12))) else (bd1 (mX0_countSequence_48 S0 a1 a2) fun S_28 => some (S_28))))
set_option maxHeartbeats 4000000 in
set_option maxRecDepth 100000 in
theorem vX0_countPart_48 (l : Launch) {D : va_G} {cy : Nat → ClassId} {b n : Nat} (hn : 102 ≤ n) {X : Nat → va_E} {S0 : St} (a1 : Int) (a2 : Int) {o1 : St} (hM : mX0_countPart_48 S0 a1 a2 = some o1) : gV l yX0_countPart cX0_countPart 6 4 0 0 D cy b n (enc b cy X S0) [.ref (b + 48), .int (iI a1), .int (iI a2)] (fun u => u = (n, enc b cy X o1)) := by
  refine gV_of (by decide) (Nat.le_of_ble_eq_true rfl) ?_
  intro p e s m args below meth c S hr hlk hin hsz ls hl hG
  have hx := S.1
  have hb := S.2.1
  have hl : lv_has ls 6 [(0, .ref (b + 48)), (1, .int (iI a1)), (2, .int (iI a2))] := hl
  replace hG : gW D cy b n s s.heap [] (enc b cy X S0) := hG
  obtain ⟨H, eH⟩ : ∃ H, H = s.heap := ⟨_, rfl⟩
  obtain ⟨locs, elocs⟩ : ∃ locs : List Loc, locs = [] := ⟨_, rfl⟩
  rw [← eH, ← elocs] at hG
  rw [← eH, ← elocs]
  clear eH elocs
  unfold mX0_countPart_48 at hM
  refine lv_iload_n hx hb dX0_countPart_0 rfl (lv_at hl 1 rfl) ?_
  refine lv_bipush (v := iI 64) hx hb dX0_countPart_1 (by decide) ?_
  refine gi_mul hx hb dX0_countPart_3 ?_
  refine lv_iload_n hx hb dX0_countPart_4 rfl (lv_at hl 2 rfl) ?_
  refine lv_bipush (v := iI 8) hx hb dX0_countPart_5 (by decide) ?_
  refine gi_mul hx hb dX0_countPart_7 ?_
  refine gi_add hx hb dX0_countPart_8 ?_
  refine gi_nm (fun x_1 ex_1 => ?_)
  replace hM := nx_at hM ex_1
  clear ex_1
  refine lv_istore_n (lv' := [(3, .int (iI x_1)), (0, .ref (b + 48)), (1, .int (iI a1)), (2, .int (iI a2))]) hx hb dX0_countPart_9 rfl hl (by decide) rfl (fun ls hl => ?_)
  refine lv_aload_n hx hb dX0_countPart_10 rfl (lv_at hl 1 rfl) ?_
  refine m_get S hG 48 48 0 rfl ec_48 cpX0 wm_403 dX0_countPart_11 rfl (Nat.lt_of_lt_of_le (Nat.le_of_ble_eq_true rfl) hn) (by decide) ?_
  refine m_get S hG 2 2 5 rfl ec_2 cpX2 wm_239 dX0_countPart_14 rfl (Nat.lt_of_lt_of_le (Nat.le_of_ble_eq_true rfl) hn) (by decide) ?_
  refine lv_iload_n hx hb dX0_countPart_17 rfl (lv_at hl 2 rfl) ?_
  obtain ⟨hg_2, hM⟩ := gd_some hM
  refine mi_ald S hG 3 3 rfl ec_3 (Nat.lt_of_lt_of_le (Nat.le_of_ble_eq_true rfl) hn) dX0_countPart_18 hg_2 (by decide) ?_
  refine gi_nm (fun x_3 ex_3 => ?_)
  replace hM := nx_at hM ex_3
  clear ex_3
  refine lv_istore (lv' := [(4, .int (iI x_3)), (3, .int (iI x_1)), (0, .ref (b + 48)), (1, .int (iI a1)), (2, .int (iI a2))]) hx hb dX0_countPart_19 hl (by decide) rfl (fun ls hl => ?_)
  refine lv_iload hx hb dX0_countPart_21 (lv_at hl 0 rfl) ?_
  refine lv_bipush (v := iI 7) hx hb dX0_countPart_23 (by decide) ?_
  obtain ⟨hg_4, hM⟩ := gd_some hM
  refine gi_icmp_ne (tgt := 45) hx hb dX0_countPart_25 (by decide) hg_4 (by decide) (fun c_5 => ?_) (fun c_5 => ?_)
  · replace hM := ifn hM c_5
    refine lv_iload hx hb dX0_countPart_45 (lv_at hl 0 rfl) ?_
    refine lv_iconst (v := iI 2) hx hb dX0_countPart_47 (by decide) ?_
    refine gi_icmp_ne (tgt := 85) hx hb dX0_countPart_48 (by decide) hg_4 (by decide) (fun c_6 => ?_) (fun c_6 => ?_)
    · replace hM := ifn hM c_6
      refine lv_aload_n hx hb dX0_countPart_85 rfl (lv_at hl 2 rfl) ?_
      refine m_get S hG 48 48 0 rfl ec_48 cpX0 wm_403 dX0_countPart_86 rfl (Nat.lt_of_lt_of_le (Nat.le_of_ble_eq_true rfl) hn) (by decide) ?_
      refine lv_iload_n hx hb dX0_countPart_89 rfl (lv_at hl 3 rfl) ?_
      obtain ⟨r_8, hc_7, hM⟩ := bd1_some hM
      refine g_vi (As := [.int (iI a1)]) (rest := []) S hG hsz (vX2_isSequence_2 l hn a1 hc_7) wV_0_122 (ec_2 _) cpX2 (Nat.lt_of_lt_of_le (Nat.le_of_ble_eq_true rfl) hn) dX0_countPart_90 rfl hl.1 (ar := 1) (by decide +kernel) rfl ⟨Nat.le_of_ble_eq_true rfl, Nat.le_of_ble_eq_true rfl, Nat.le_of_ble_eq_true rfl, Nat.le_of_ble_eq_true rfl⟩ (Nat.le_of_ble_eq_true rfl) (fun rv uu H locs hp hG => ?_)
      obtain ⟨rfl, rfl⟩ := hp
      replace hG : gW D cy b n s H locs (enc b cy X S0) := hG
      obtain ⟨hg_9, hM⟩ := gd_some hM
      refine gi_if_eq (tgt := 105) hx hb dX0_countPart_93 (by decide) hg_9 (fun c_10 => ?_) (fun c_10 => ?_)
      · replace hM := ifp hM c_10
        refine lv_aload_n hx hb dX0_countPart_105 rfl (lv_at hl 2 rfl) ?_
        refine lv_aload_n hx hb dX0_countPart_106 rfl (lv_at hl 2 rfl) ?_
        refine m_get S hG 48 48 2 rfl ec_48 cpX0 wm_405 dX0_countPart_107 rfl (Nat.lt_of_lt_of_le (Nat.le_of_ble_eq_true rfl) hn) (by decide) ?_
        refine lv_iload_n hx hb dX0_countPart_110 rfl (lv_at hl 1 rfl) ?_
        refine lv_iload_n hx hb dX0_countPart_111 rfl (lv_at hl 4 rfl) ?_
        obtain ⟨S_12, hc_11, hM⟩ := bd1_some hM
        refine g_vv (As := [.ref (b + 49), .int (iI x_1), .int (iI a2)]) (rest := []) S hG hsz (vX0_clearCells_48_49 l hn x_1 a2 hc_11) wV_0_129 (ec_48 _) cpX0 (Nat.lt_of_lt_of_le (Nat.le_of_ble_eq_true rfl) hn) dX0_countPart_112 rfl hl.1 (ar := 3) (by decide +kernel) rfl ⟨Nat.le_of_ble_eq_true rfl, Nat.le_of_ble_eq_true rfl, Nat.le_of_ble_eq_true rfl, Nat.le_of_ble_eq_true rfl⟩ (Nat.le_of_ble_eq_true rfl) (fun uu H locs hp hG => ?_)
        obtain rfl := hp
        replace hG : gW D cy b n s H locs (enc b cy X S_12) := hG
        refine lv_iload hx hb dX0_countPart_115 (lv_at hl 0 rfl) ?_
        obtain ⟨z_13, hc_14, hM⟩ := bd1_some hM
        have hK_15 : ∀ (H : Heap) (locs : List Loc) (ls : Array Slot), gW D cy b n s H locs (enc b cy X S_12) → lv_has ls 6 [(4, .int (iI x_3)), (3, .int (iI x_1)), (0, .ref (b + 48)), (2, .int (iI a2))] → W p l e (gRm 4 0 0) s m args below meth c H locs 0 0 (gQV D cy b s args below 0 0 (fun u => u = (n, enc b cy X o1))) (F0 m 141 ls [.int (iI z_13)]) := by
          intro H locs ls hG hl
          refine lv_istore (lv' := [(5, .int (iI z_13)), (4, .int (iI x_3)), (3, .int (iI x_1)), (0, .ref (b + 48)), (2, .int (iI a2))]) hx hb dX0_countPart_141 hl (by decide) rfl (fun ls hl => ?_)
          refine lv_iload_n hx hb dX0_countPart_143 rfl (lv_at hl 4 rfl) ?_
          refine lv_iload hx hb dX0_countPart_144 (lv_at hl 1 rfl) ?_
          obtain ⟨z_16, hc_17, hM⟩ := bd1_some hM
          have hK_18 : ∀ (H : Heap) (locs : List Loc) (ls : Array Slot), gW D cy b n s H locs (enc b cy X S_12) → lv_has ls 6 [(5, .int (iI z_13)), (3, .int (iI x_1)), (0, .ref (b + 48))] → W p l e (gRm 4 0 0) s m args below meth c H locs 0 0 (gQV D cy b s args below 0 0 (fun u => u = (n, enc b cy X o1))) (F0 m 154 ls [.int (iI z_16), .int (iI a2)]) := by
            intro H locs ls hG hl
            obtain ⟨hg_19, hM⟩ := gd_some hM
            refine gi_icmp_ne (tgt := 167) hx hb dX0_countPart_154 (by decide) hg_19.1 hg_19.2 (fun c_20 => ?_) (fun c_20 => ?_)
            · replace hM := ifn hM c_20
              cases hM
              exact g_vret S hr hlk hG hsz dX0_countPart_167 ⟨Nat.le_of_ble_eq_true rfl, Nat.le_of_ble_eq_true rfl⟩ rfl
            · replace hM := ifp hM c_20
              refine lv_aload_n hx hb dX0_countPart_157 rfl (lv_at hl 2 rfl) ?_
              refine m_get S hG 48 48 2 rfl ec_48 cpX0 wm_405 dX0_countPart_158 rfl (Nat.lt_of_lt_of_le (Nat.le_of_ble_eq_true rfl) hn) (by decide) ?_
              refine lv_iload_n hx hb dX0_countPart_161 rfl (lv_at hl 1 rfl) ?_
              refine lv_iload hx hb dX0_countPart_162 (lv_at hl 0 rfl) ?_
              refine gi_add hx hb dX0_countPart_164 ?_
              refine lv_lconst (v := jJ 1) hx hb dX0_countPart_165 (by decide) ?_
              obtain ⟨hg_21, hM⟩ := gd_some hM
              refine mj_ast S hG 49 49 rfl ec_49 (Nat.lt_of_lt_of_le (Nat.le_of_ble_eq_true rfl) hn) dX0_countPart_166 hg_21 (by decide) (fun H locs S_22 eS_22 hG => ?_)
              replace hM := nx_at hM eS_22
              clear eS_22
              cases hM
              exact g_vret S hr hlk hG hsz dX0_countPart_167 ⟨Nat.le_of_ble_eq_true rfl, Nat.le_of_ble_eq_true rfl⟩ rfl
          clear hM
          replace hM := hc_17
          refine gi_if_ne (tgt := 153) hx hb dX0_countPart_146 (by decide) hg_4 (fun c_23 => ?_) (fun c_23 => ?_)
          · replace hM := ifn hM c_23
            refine lv_iconst (v := iI 0) hx hb dX0_countPart_153 (by decide) ?_
            cases hM
            exact hK_18 H locs ls hG (lv_sub hl [0, 2, 3] rfl)
          · replace hM := ifp hM c_23
            refine lv_iconst (v := iI 1) hx hb dX0_countPart_149 (by decide) ?_
            refine lv_goto (tgt := 154) hx hb dX0_countPart_150 (by decide) ?_
            cases hM
            exact hK_18 H locs ls hG (lv_sub hl [0, 2, 3] rfl)
        clear hM
        replace hM := hc_14
        refine gi_if_ne (tgt := 140) hx hb dX0_countPart_117 (by decide) hg_4 (fun c_24 => ?_) (fun c_24 => ?_)
        · replace hM := ifn hM c_24
          refine lv_iconst (v := iI 0) hx hb dX0_countPart_140 (by decide) ?_
          cases hM
          exact hK_15 H locs ls hG (lv_sub hl [0, 1, 2, 4] rfl)
        · replace hM := ifp hM c_24
          refine lv_aload_n hx hb dX0_countPart_120 rfl (lv_at hl 2 rfl) ?_
          refine m_get S hG 48 48 1 rfl ec_48 cpX0 wm_404 dX0_countPart_121 rfl (Nat.lt_of_lt_of_le (Nat.le_of_ble_eq_true rfl) hn) (by decide) ?_
          refine lv_aload_n hx hb dX0_countPart_124 rfl (lv_at hl 2 rfl) ?_
          refine m_get S hG 48 48 0 rfl ec_48 cpX0 wm_403 dX0_countPart_125 rfl (Nat.lt_of_lt_of_le (Nat.le_of_ble_eq_true rfl) hn) (by decide) ?_
          refine m_get S hG 2 2 6 rfl ec_2 cpX2 wm_245 dX0_countPart_128 rfl (Nat.lt_of_lt_of_le (Nat.le_of_ble_eq_true rfl) hn) (by decide) ?_
          refine lv_iload_n hx hb dX0_countPart_131 rfl (lv_at hl 3 rfl) ?_
          refine mi_ald S hG 4 4 rfl ec_4 (Nat.lt_of_lt_of_le (Nat.le_of_ble_eq_true rfl) hn) dX0_countPart_132 hg_2 (by decide) ?_
          obtain ⟨hg_25, hM⟩ := gd_some hM
          refine gi_icmp_ne (tgt := 140) hx hb dX0_countPart_133 (by decide) hg_25.1 hg_25.2 (fun c_26 => ?_) (fun c_26 => ?_)
          · replace hM := ifn hM c_26
            refine lv_iconst (v := iI 0) hx hb dX0_countPart_140 (by decide) ?_
            cases hM
            exact hK_15 H locs ls hG (lv_sub hl [0, 1, 2, 4] rfl)
          · replace hM := ifp hM c_26
            refine lv_iconst (v := iI 1) hx hb dX0_countPart_136 (by decide) ?_
            refine lv_goto (tgt := 141) hx hb dX0_countPart_137 (by decide) ?_
            cases hM
            exact hK_15 H locs ls hG (lv_sub hl [0, 1, 2, 4] rfl)
      · replace hM := ifn hM c_10
        refine lv_aload_n hx hb dX0_countPart_96 rfl (lv_at hl 2 rfl) ?_
        refine lv_iload_n hx hb dX0_countPart_97 rfl (lv_at hl 3 rfl) ?_
        refine lv_iload_n hx hb dX0_countPart_98 rfl (lv_at hl 4 rfl) ?_
        obtain ⟨S_28, hc_27, hM⟩ := bd1_some hM
        refine g_vv (As := [.int (iI a1), .int (iI a2)]) (rest := []) S hG hsz (vX0_countSequence_48 l hn a1 a2 hc_27) wV_0_126 (ec_48 _) cpX0 (Nat.lt_of_lt_of_le (Nat.le_of_ble_eq_true rfl) hn) dX0_countPart_99 rfl hl.1 (ar := 2) (by decide +kernel) rfl ⟨Nat.le_of_ble_eq_true rfl, Nat.le_of_ble_eq_true rfl, Nat.le_of_ble_eq_true rfl, Nat.le_of_ble_eq_true rfl⟩ (Nat.le_of_ble_eq_true rfl) (fun uu H locs hp hG => ?_)
        obtain rfl := hp
        replace hG : gW D cy b n s H locs (enc b cy X S_28) := hG
        refine lv_goto (tgt := 167) hx hb dX0_countPart_102 (by decide) ?_
        cases hM
        exact g_vret S hr hlk hG hsz dX0_countPart_167 ⟨Nat.le_of_ble_eq_true rfl, Nat.le_of_ble_eq_true rfl⟩ rfl
    · replace hM := ifp hM c_6
      refine lv_aload_n hx hb dX0_countPart_51 rfl (lv_at hl 2 rfl) ?_
      refine lv_aload_n hx hb dX0_countPart_52 rfl (lv_at hl 2 rfl) ?_
      refine m_get S hG 48 48 4 rfl ec_48 cpX0 wm_407 dX0_countPart_53 rfl (Nat.lt_of_lt_of_le (Nat.le_of_ble_eq_true rfl) hn) (by decide) ?_
      refine lv_aload_n hx hb dX0_countPart_56 rfl (lv_at hl 2 rfl) ?_
      refine m_get S hG 48 48 0 rfl ec_48 cpX0 wm_403 dX0_countPart_57 rfl (Nat.lt_of_lt_of_le (Nat.le_of_ble_eq_true rfl) hn) (by decide) ?_
      refine m_get S hG 2 2 6 rfl ec_2 cpX2 wm_245 dX0_countPart_60 rfl (Nat.lt_of_lt_of_le (Nat.le_of_ble_eq_true rfl) hn) (by decide) ?_
      refine lv_iload_n hx hb dX0_countPart_63 rfl (lv_at hl 3 rfl) ?_
      refine mi_ald S hG 4 4 rfl ec_4 (Nat.lt_of_lt_of_le (Nat.le_of_ble_eq_true rfl) hn) dX0_countPart_64 hg_2 (by decide) ?_
      refine lv_bipush (v := iI 64) hx hb dX0_countPart_65 (by decide) ?_
      refine gi_mul hx hb dX0_countPart_67 ?_
      refine lv_iload_n hx hb dX0_countPart_68 rfl (lv_at hl 4 rfl) ?_
      refine lv_bipush (v := iI 8) hx hb dX0_countPart_69 (by decide) ?_
      refine gi_mul hx hb dX0_countPart_71 ?_
      refine gi_add hx hb dX0_countPart_72 ?_
      refine lv_aload_n hx hb dX0_countPart_73 rfl (lv_at hl 2 rfl) ?_
      refine m_get S hG 48 48 2 rfl ec_48 cpX0 wm_405 dX0_countPart_74 rfl (Nat.lt_of_lt_of_le (Nat.le_of_ble_eq_true rfl) hn) (by decide) ?_
      refine lv_iload_n hx hb dX0_countPart_77 rfl (lv_at hl 1 rfl) ?_
      refine lv_iload_n hx hb dX0_countPart_78 rfl (lv_at hl 4 rfl) ?_
      obtain ⟨S_30, hc_29, hM⟩ := bd1_some hM
      refine g_vv (As := [.ref (b + 51), .int (iI (((S0 4 a1) * 64) + (a2 * 8))), .ref (b + 49), .int (iI x_1), .int (iI a2)]) (rest := []) S hG hsz (vX0_copyCells_48_51_49 l hn (((S0 4 a1) * 64) + (a2 * 8)) x_1 a2 hc_29) wV_0_118 (ec_48 _) cpX0 (Nat.lt_of_lt_of_le (Nat.le_of_ble_eq_true rfl) hn) dX0_countPart_79 rfl hl.1 (ar := 5) (by decide +kernel) rfl ⟨Nat.le_of_ble_eq_true rfl, Nat.le_of_ble_eq_true rfl, Nat.le_of_ble_eq_true rfl, Nat.le_of_ble_eq_true rfl⟩ (Nat.le_of_ble_eq_true rfl) (fun uu H locs hp hG => ?_)
      obtain rfl := hp
      replace hG : gW D cy b n s H locs (enc b cy X S_30) := hG
      refine lv_goto (tgt := 167) hx hb dX0_countPart_82 (by decide) ?_
      cases hM
      exact g_vret S hr hlk hG hsz dX0_countPart_167 ⟨Nat.le_of_ble_eq_true rfl, Nat.le_of_ble_eq_true rfl⟩ rfl
  · replace hM := ifp hM c_5
    refine lv_aload_n hx hb dX0_countPart_28 rfl (lv_at hl 2 rfl) ?_
    refine lv_bipush (v := iI 6) hx hb dX0_countPart_29 (by decide) ?_
    refine lv_iload_n hx hb dX0_countPart_31 rfl (lv_at hl 3 rfl) ?_
    refine gi_add hx hb dX0_countPart_32 ?_
    refine lv_iload_n hx hb dX0_countPart_33 rfl (lv_at hl 4 rfl) ?_
    refine lv_aload_n hx hb dX0_countPart_34 rfl (lv_at hl 2 rfl) ?_
    refine m_get S hG 48 48 2 rfl ec_48 cpX0 wm_405 dX0_countPart_35 rfl (Nat.lt_of_lt_of_le (Nat.le_of_ble_eq_true rfl) hn) (by decide) ?_
    refine lv_iload_n hx hb dX0_countPart_38 rfl (lv_at hl 1 rfl) ?_
    obtain ⟨S_32, hc_31, hM⟩ := bd1_some hM
    refine g_vv (As := [.int (iI (6 + a1)), .int (iI a2), .ref (b + 49), .int (iI x_1)]) (rest := []) S hG hsz (vX0_sumTerms_48_49 l hn (6 + a1) a2 x_1 hc_31) wV_0_53 (ec_48 _) cpX0 (Nat.lt_of_lt_of_le (Nat.le_of_ble_eq_true rfl) hn) dX0_countPart_39 rfl hl.1 (ar := 4) (by decide +kernel) rfl ⟨Nat.le_of_ble_eq_true rfl, Nat.le_of_ble_eq_true rfl, Nat.le_of_ble_eq_true rfl, Nat.le_of_ble_eq_true rfl⟩ (Nat.le_of_ble_eq_true rfl) (fun uu H locs hp hG => ?_)
    obtain rfl := hp
    replace hG : gW D cy b n s H locs (enc b cy X S_32) := hG
    refine lv_goto (tgt := 167) hx hb dX0_countPart_42 (by decide) ?_
    cases hM
    exact g_vret S hr hlk hG hsz dX0_countPart_167 ⟨Nat.le_of_ble_eq_true rfl, Nat.le_of_ble_eq_true rfl⟩ rfl
def mX0_sumTerms_48_51_19 (S_2 : St) (v_1 : Int) (a1 : Int) (a2 : Int) (a4 : Int) : Nat → Int → Int → Option (Int)
  | 0, _, _ => none
  | f + 1, v_13, v_14 => gd (0 ≤ a1 ∧ a1 < 30) <| gd ((inI v_13) ∧ (inI (S_2 8 a1))) <| if (S_2 8 a1) ≤ v_13 then (some (v_14)) else (bd1 (mX2_isOff_2 S_2 a1 v_13) fun r_27 => gd (inI r_27) <| if r_27 = 0 then (bd1 (mX2_start_2 S_2 a1 v_13) fun r_31 => gd (0 ≤ (((r_31 * 64) + (a2 * 8)) + v_1) ∧ (((r_31 * 64) + (a2 * 8)) + v_1) < 1536) <| bd1 (mX11_plus v_14 (S_2 50 (((r_31 * 64) + (a2 * 8)) + v_1))) fun r_34 => mX0_sumTerms_48_51_19 S_2 v_1 a1 a2 a4 f (v_13 + 1) r_34) else (mX0_sumTerms_48_51_19 S_2 v_1 a1 a2 a4 f (v_13 + 1) v_14))
def mX0_sumTerms_48_51_3 (a1 : Int) (a2 : Int) (a4 : Int) : Nat → Int → St → Option (St)
  | 0, _, _ => none
  | f + 1, v_1, S_2 => bd1 (mX0_letterTop_48 S_2 a2) fun r_10 => gd ((inI v_1) ∧ (inI r_10)) <| if r_10 < v_1 then (some (S_2)) else (bd1 (mX0_sumTerms_48_51_19 S_2 v_1 a1 a2 a4 FU 0 0) fun y_15 => gd (0 ≤ (a4 + v_1) ∧ (a4 + v_1) < 384) <| nx (up S_2 51 (a4 + v_1) y_15) fun S_19 => mX0_sumTerms_48_51_3 a1 a2 a4 f (v_1 + 1) S_19)
def mX0_sumTerms_48_51 (S0 : St) (a1 : Int) (a2 : Int) (a4 : Int) : Option (St) := bd1 (mX0_sumTerms_48_51_3 a1 a2 a4 FU 0 S0) fun S_3 => some (S_3)
set_option maxHeartbeats 4000000 in
set_option maxRecDepth 100000 in
theorem vX0_sumTerms_48_51 (l : Launch) {D : va_G} {cy : Nat → ClassId} {b n : Nat} (hn : 102 ≤ n) {X : Nat → va_E} {S0 : St} (a1 : Int) (a2 : Int) (a4 : Int) {o1 : St} (hM : mX0_sumTerms_48_51 S0 a1 a2 a4 = some o1) : gV l yX0_sumTerms cX0_sumTerms 9 1 0 0 D cy b n (enc b cy X S0) [.ref (b + 48), .int (iI a1), .int (iI a2), .ref (b + 51), .int (iI a4)] (fun u => u = (n, enc b cy X o1)) := by
  refine gV_of (by decide) (Nat.le_of_ble_eq_true rfl) ?_
  intro p e s m args below meth c S hr hlk hin hsz ls hl hG
  have hx := S.1
  have hb := S.2.1
  have hl : lv_has ls 9 [(0, .ref (b + 48)), (1, .int (iI a1)), (2, .int (iI a2)), (3, .ref (b + 51)), (4, .int (iI a4))] := hl
  replace hG : gW D cy b n s s.heap [] (enc b cy X S0) := hG
  obtain ⟨H, eH⟩ : ∃ H, H = s.heap := ⟨_, rfl⟩
  obtain ⟨locs, elocs⟩ : ∃ locs : List Loc, locs = [] := ⟨_, rfl⟩
  rw [← eH, ← elocs] at hG
  rw [← eH, ← elocs]
  clear eH elocs
  unfold mX0_sumTerms_48_51 at hM
  refine lv_iconst (v := iI 0) hx hb dX0_sumTerms_0 (by decide) ?_
  refine lv_istore (lv' := [(5, .int (iI 0)), (0, .ref (b + 48)), (1, .int (iI a1)), (2, .int (iI a2)), (3, .ref (b + 51)), (4, .int (iI a4))]) hx hb dX0_sumTerms_1 hl (by decide) rfl (fun ls hl => ?_)
  obtain ⟨S_3, hc_4, hM⟩ := bd1_some hM
  have hK_5 : ∀ (H : Heap) (locs : List Loc) (ls : Array Slot), gW D cy b n s H locs (enc b cy X S_3) → lv_has ls 9 [] → W p l e (gRm 1 0 0) s m args below meth c H locs 0 0 (gQV D cy b s args below 0 0 (fun u => u = (n, enc b cy X o1))) (F0 m 100 ls []) := by
    intro H locs ls hG hl
    cases hM
    exact g_vret S hr hlk hG hsz dX0_sumTerms_100 ⟨Nat.le_of_ble_eq_true rfl, Nat.le_of_ble_eq_true rfl⟩ rfl
  have loop_6 : ∀ (f : Nat) (v_1 : Int) (S_2 : St) (H : Heap) (locs : List Loc) (ls : Array Slot), mX0_sumTerms_48_51_3 a1 a2 a4 f v_1 S_2 = some S_3 → gW D cy b n s H locs (enc b cy X S_2) → lv_has ls 9 [(5, .int (iI v_1)), (0, .ref (b + 48)), (1, .int (iI a1)), (2, .int (iI a2)), (3, .ref (b + 51)), (4, .int (iI a4))] → W p l e (gRm 1 0 0) s m args below meth c H locs 0 0 (gQV D cy b s args below 0 0 (fun u => u = (n, enc b cy X o1))) (F0 m 3 ls []) := by
    clear hM
    intro f
    induction f with
    | zero => intro v_1 S_2 H locs ls hM; rw [mX0_sumTerms_48_51_3] at hM; cases hM
    | succ f_8 ih_7 =>
      intro v_1 S_2 H locs ls hM hG hl
      rw [mX0_sumTerms_48_51_3] at hM
      refine lv_iload hx hb dX0_sumTerms_3 (lv_at hl 0 rfl) ?_
      refine lv_aload_n hx hb dX0_sumTerms_5 rfl (lv_at hl 1 rfl) ?_
      refine lv_iload_n hx hb dX0_sumTerms_6 rfl (lv_at hl 3 rfl) ?_
      obtain ⟨r_10, hc_9, hM⟩ := bd1_some hM
      refine g_vi (As := [.int (iI a2)]) (rest := [.int (iI v_1)]) S hG hsz (vX0_letterTop_48 l hn a2 hc_9) wV_0_108 (ec_48 _) cpX0 (Nat.lt_of_lt_of_le (Nat.le_of_ble_eq_true rfl) hn) dX0_sumTerms_7 rfl hl.1 (ar := 1) (by decide +kernel) rfl ⟨Nat.le_of_ble_eq_true rfl, Nat.le_of_ble_eq_true rfl, Nat.le_of_ble_eq_true rfl, Nat.le_of_ble_eq_true rfl⟩ (Nat.le_of_ble_eq_true rfl) (fun rv uu H locs hp hG => ?_)
      obtain ⟨rfl, rfl⟩ := hp
      replace hG : gW D cy b n s H locs (enc b cy X S_2) := hG
      obtain ⟨hg_11, hM⟩ := gd_some hM
      refine gi_icmp_gt (tgt := 100) hx hb dX0_sumTerms_10 (by decide) hg_11.1 hg_11.2 (fun c_12 => ?_) (fun c_12 => ?_)
      · replace hM := ifp hM c_12
        cases hM
        exact hK_5 H locs ls hG (lv_sub hl [] rfl)
      · replace hM := ifn hM c_12
        refine lv_lconst (v := jJ 0) hx hb dX0_sumTerms_13 (by decide) ?_
        refine lv_lstore (lv' := [(6, .long (jJ 0)), (5, .int (iI v_1)), (0, .ref (b + 48)), (1, .int (iI a1)), (2, .int (iI a2)), (3, .ref (b + 51)), (4, .int (iI a4))]) hx hb dX0_sumTerms_14 hl (by decide) rfl (fun ls hl => ?_)
        refine lv_iconst (v := iI 0) hx hb dX0_sumTerms_16 (by decide) ?_
        refine lv_istore (lv' := [(8, .int (iI 0)), (6, .long (jJ 0)), (5, .int (iI v_1)), (0, .ref (b + 48)), (1, .int (iI a1)), (2, .int (iI a2)), (3, .ref (b + 51)), (4, .int (iI a4))]) hx hb dX0_sumTerms_17 hl (by decide) rfl (fun ls hl => ?_)
        obtain ⟨y_15, hc_16, hM⟩ := bd1_some hM
        have hK_17 : ∀ (H : Heap) (locs : List Loc) (ls : Array Slot), gW D cy b n s H locs (enc b cy X S_2) → lv_has ls 9 [(5, .int (iI v_1)), (0, .ref (b + 48)), (1, .int (iI a1)), (2, .int (iI a2)), (3, .ref (b + 51)), (4, .int (iI a4)), (6, .long (jJ y_15))] → W p l e (gRm 1 0 0) s m args below meth c H locs 0 0 (gQV D cy b s args below 0 0 (fun u => u = (n, enc b cy X o1))) (F0 m 85 ls []) := by
          intro H locs ls hG hl
          refine lv_aload_n hx hb dX0_sumTerms_85 rfl (lv_at hl 4 rfl) ?_
          refine lv_iload hx hb dX0_sumTerms_86 (lv_at hl 5 rfl) ?_
          refine lv_iload hx hb dX0_sumTerms_88 (lv_at hl 0 rfl) ?_
          refine gi_add hx hb dX0_sumTerms_90 ?_
          refine lv_lload hx hb dX0_sumTerms_91 (lv_at hl 6 rfl) ?_
          obtain ⟨hg_18, hM⟩ := gd_some hM
          refine mj_ast S hG 51 51 rfl ec_51 (Nat.lt_of_lt_of_le (Nat.le_of_ble_eq_true rfl) hn) dX0_sumTerms_93 hg_18 (by decide) (fun H locs S_19 eS_19 hG => ?_)
          replace hM := nx_at hM eS_19
          clear eS_19
          refine lv_iinc (v := iI (v_1 + 1)) (lv' := [(5, .int (iI (v_1 + 1))), (0, .ref (b + 48)), (1, .int (iI a1)), (2, .int (iI a2)), (3, .ref (b + 51)), (4, .int (iI a4)), (6, .long (jJ y_15))]) hx hb dX0_sumTerms_94 hl (k := 0) rfl ((iI_add v_1 (1)).trans (congrArg iI (by omega))) (by decide) rfl (fun ls hl => ?_)
          refine lv_goto (tgt := 3) hx hb dX0_sumTerms_97 (by decide) ?_
          exact ih_7 (v_1 + 1) S_19 H locs ls hM hG (lv_sub hl [0, 1, 2, 3, 4, 5] rfl)
        have loop_20 : ∀ (f : Nat) (v_13 : Int) (v_14 : Int) (H : Heap) (locs : List Loc) (ls : Array Slot), mX0_sumTerms_48_51_19 S_2 v_1 a1 a2 a4 f v_13 v_14 = some y_15 → gW D cy b n s H locs (enc b cy X S_2) → lv_has ls 9 [(8, .int (iI v_13)), (6, .long (jJ v_14)), (5, .int (iI v_1)), (0, .ref (b + 48)), (1, .int (iI a1)), (2, .int (iI a2)), (3, .ref (b + 51)), (4, .int (iI a4))] → W p l e (gRm 1 0 0) s m args below meth c H locs 0 0 (gQV D cy b s args below 0 0 (fun u => u = (n, enc b cy X o1))) (F0 m 19 ls []) := by
          clear hM
          intro f
          induction f with
          | zero => intro v_13 v_14 H locs ls hM; rw [mX0_sumTerms_48_51_19] at hM; cases hM
          | succ f_22 ih_21 =>
            intro v_13 v_14 H locs ls hM hG hl
            rw [mX0_sumTerms_48_51_19] at hM
            refine lv_iload hx hb dX0_sumTerms_19 (lv_at hl 0 rfl) ?_
            refine lv_aload_n hx hb dX0_sumTerms_21 rfl (lv_at hl 3 rfl) ?_
            refine m_get S hG 48 48 0 rfl ec_48 cpX0 wm_403 dX0_sumTerms_22 rfl (Nat.lt_of_lt_of_le (Nat.le_of_ble_eq_true rfl) hn) (by decide) ?_
            refine m_get S hG 2 2 10 rfl ec_2 cpX2 wm_267 dX0_sumTerms_25 rfl (Nat.lt_of_lt_of_le (Nat.le_of_ble_eq_true rfl) hn) (by decide) ?_
            refine lv_iload_n hx hb dX0_sumTerms_28 rfl (lv_at hl 4 rfl) ?_
            obtain ⟨hg_23, hM⟩ := gd_some hM
            refine mi_ald S hG 8 8 rfl ec_8 (Nat.lt_of_lt_of_le (Nat.le_of_ble_eq_true rfl) hn) dX0_sumTerms_29 hg_23 (by decide) ?_
            obtain ⟨hg_24, hM⟩ := gd_some hM
            refine gi_icmp_ge (tgt := 85) hx hb dX0_sumTerms_30 (by decide) hg_24.1 hg_24.2 (fun c_25 => ?_) (fun c_25 => ?_)
            · replace hM := ifp hM c_25
              cases hM
              exact hK_17 H locs ls hG (lv_sub hl [2, 3, 4, 5, 6, 7, 1] rfl)
            · replace hM := ifn hM c_25
              refine lv_aload_n hx hb dX0_sumTerms_33 rfl (lv_at hl 3 rfl) ?_
              refine m_get S hG 48 48 0 rfl ec_48 cpX0 wm_403 dX0_sumTerms_34 rfl (Nat.lt_of_lt_of_le (Nat.le_of_ble_eq_true rfl) hn) (by decide) ?_
              refine lv_iload_n hx hb dX0_sumTerms_37 rfl (lv_at hl 4 rfl) ?_
              refine lv_iload hx hb dX0_sumTerms_38 (lv_at hl 0 rfl) ?_
              obtain ⟨r_27, hc_26, hM⟩ := bd1_some hM
              refine g_vi (As := [.int (iI a1), .int (iI v_13)]) (rest := []) S hG hsz (vX2_isOff_2 l hn a1 v_13 hc_26) wV_0_72 (ec_2 _) cpX2 (Nat.lt_of_lt_of_le (Nat.le_of_ble_eq_true rfl) hn) dX0_sumTerms_40 rfl hl.1 (ar := 2) (by decide +kernel) rfl ⟨Nat.le_of_ble_eq_true rfl, Nat.le_of_ble_eq_true rfl, Nat.le_of_ble_eq_true rfl, Nat.le_of_ble_eq_true rfl⟩ (Nat.le_of_ble_eq_true rfl) (fun rv uu H locs hp hG => ?_)
              obtain ⟨rfl, rfl⟩ := hp
              replace hG : gW D cy b n s H locs (enc b cy X S_2) := hG
              obtain ⟨hg_28, hM⟩ := gd_some hM
              refine gi_if_ne (tgt := 79) hx hb dX0_sumTerms_43 (by decide) hg_28 (fun c_29 => ?_) (fun c_29 => ?_)
              · replace hM := ifn hM c_29
                refine lv_iinc (v := iI (v_13 + 1)) (lv' := [(8, .int (iI (v_13 + 1))), (6, .long (jJ v_14)), (5, .int (iI v_1)), (0, .ref (b + 48)), (1, .int (iI a1)), (2, .int (iI a2)), (3, .ref (b + 51)), (4, .int (iI a4))]) hx hb dX0_sumTerms_79 hl (k := 0) rfl ((iI_add v_13 (1)).trans (congrArg iI (by omega))) (by decide) rfl (fun ls hl => ?_)
                refine lv_goto (tgt := 19) hx hb dX0_sumTerms_82 (by decide) ?_
                exact ih_21 (v_13 + 1) v_14 H locs ls hM hG (lv_sub hl [0, 1, 2, 3, 4, 5, 6, 7] rfl)
              · replace hM := ifp hM c_29
                refine lv_lload hx hb dX0_sumTerms_46 (lv_at hl 1 rfl) ?_
                refine lv_aload_n hx hb dX0_sumTerms_48 rfl (lv_at hl 3 rfl) ?_
                refine m_get S hG 48 48 3 rfl ec_48 cpX0 wm_406 dX0_sumTerms_49 rfl (Nat.lt_of_lt_of_le (Nat.le_of_ble_eq_true rfl) hn) (by decide) ?_
                refine lv_aload_n hx hb dX0_sumTerms_52 rfl (lv_at hl 3 rfl) ?_
                refine m_get S hG 48 48 0 rfl ec_48 cpX0 wm_403 dX0_sumTerms_53 rfl (Nat.lt_of_lt_of_le (Nat.le_of_ble_eq_true rfl) hn) (by decide) ?_
                refine lv_iload_n hx hb dX0_sumTerms_56 rfl (lv_at hl 4 rfl) ?_
                refine lv_iload hx hb dX0_sumTerms_57 (lv_at hl 0 rfl) ?_
                obtain ⟨r_31, hc_30, hM⟩ := bd1_some hM
                refine g_vi (As := [.int (iI a1), .int (iI v_13)]) (rest := [.ref (b + 50), .long (jJ v_14)]) S hG hsz (vX2_start_2 l hn a1 v_13 hc_30) wV_0_76 (ec_2 _) cpX2 (Nat.lt_of_lt_of_le (Nat.le_of_ble_eq_true rfl) hn) dX0_sumTerms_59 rfl hl.1 (ar := 2) (by decide +kernel) rfl ⟨Nat.le_of_ble_eq_true rfl, Nat.le_of_ble_eq_true rfl, Nat.le_of_ble_eq_true rfl, Nat.le_of_ble_eq_true rfl⟩ (Nat.le_of_ble_eq_true rfl) (fun rv uu H locs hp hG => ?_)
                obtain ⟨rfl, rfl⟩ := hp
                replace hG : gW D cy b n s H locs (enc b cy X S_2) := hG
                refine lv_bipush (v := iI 64) hx hb dX0_sumTerms_62 (by decide) ?_
                refine gi_mul hx hb dX0_sumTerms_64 ?_
                refine lv_iload_n hx hb dX0_sumTerms_65 rfl (lv_at hl 5 rfl) ?_
                refine lv_bipush (v := iI 8) hx hb dX0_sumTerms_66 (by decide) ?_
                refine gi_mul hx hb dX0_sumTerms_68 ?_
                refine gi_add hx hb dX0_sumTerms_69 ?_
                refine lv_iload hx hb dX0_sumTerms_70 (lv_at hl 2 rfl) ?_
                refine gi_add hx hb dX0_sumTerms_72 ?_
                obtain ⟨hg_32, hM⟩ := gd_some hM
                refine mj_ald S hG 50 50 rfl ec_50 (Nat.lt_of_lt_of_le (Nat.le_of_ble_eq_true rfl) hn) dX0_sumTerms_73 hg_32 (by decide) ?_
                obtain ⟨r_34, hc_33, hM⟩ := bd1_some hM
                refine g_slN (As := [.long (jJ v_14), .long (jJ (S_2 50 (((r_31 * 64) + (a2 * 8)) + v_1)))]) (rest := []) S hG hsz (vX11_plus l hn v_14 (S_2 50 (((r_31 * 64) + (a2 * 8)) + v_1)) hc_33) (y := yX11_plus) (host := "GrownKinds") (by decide +kernel) ⟨wm_997, wm_177, wm_998, by decide +kernel, by decide +kernel⟩ dX0_sumTerms_74 rfl hl.1 (ar := 2) (by decide +kernel) rfl ⟨Nat.le_of_ble_eq_true rfl, Nat.le_of_ble_eq_true rfl, Nat.le_of_ble_eq_true rfl, Nat.le_of_ble_eq_true rfl⟩ (Nat.le_of_ble_eq_true rfl) (fun rv uu H locs hp hG => ?_)
                obtain ⟨rfl, rfl⟩ := hp
                replace hG : gW D cy b n s H locs (enc b cy X S_2) := hG
                refine lv_lstore (lv' := [(6, .long (jJ r_34)), (8, .int (iI v_13)), (5, .int (iI v_1)), (0, .ref (b + 48)), (1, .int (iI a1)), (2, .int (iI a2)), (3, .ref (b + 51)), (4, .int (iI a4))]) hx hb dX0_sumTerms_77 hl (by decide) rfl (fun ls hl => ?_)
                refine lv_iinc (v := iI (v_13 + 1)) (lv' := [(8, .int (iI (v_13 + 1))), (6, .long (jJ r_34)), (5, .int (iI v_1)), (0, .ref (b + 48)), (1, .int (iI a1)), (2, .int (iI a2)), (3, .ref (b + 51)), (4, .int (iI a4))]) hx hb dX0_sumTerms_79 hl (k := 1) rfl ((iI_add v_13 (1)).trans (congrArg iI (by omega))) (by decide) rfl (fun ls hl => ?_)
                refine lv_goto (tgt := 19) hx hb dX0_sumTerms_82 (by decide) ?_
                exact ih_21 (v_13 + 1) r_34 H locs ls hM hG (lv_sub hl [0, 1, 2, 3, 4, 5, 6, 7] rfl)
        exact loop_20 FU 0 0 H locs ls hc_16 hG (lv_sub hl [0, 1, 2, 3, 4, 5, 6, 7] rfl)
  exact loop_6 FU 0 S0 H locs ls hc_4 hG (lv_sub hl [0, 1, 2, 3, 4, 5] rfl)
def mX0_take_48_59 (v_7 : Int) : Nat → Int → St → Option (St)
  | 0, _, _ => none
  | f + 1, v_17, S_18 => gd ((inI v_17) ∧ (inI (S_18 2 4))) <| if (S_18 2 4) ≤ v_17 then (some (S_18)) else (gd (0 ≤ v_17 ∧ v_17 < 54) <| nx (S_18 11 v_17) fun x_28 => gd (inI (x_28 - 6)) <| nx (Int.tdiv (x_28 - 6) 2) fun x_30 => gd (inI x_28) <| if 6 ≤ x_28 then (gd (inI (Int.tmod (x_28 - 6) 2)) <| if (Int.tmod (x_28 - 6) 2) = 1 then (bd1 (mX0_countPart_48 S_18 x_30 v_7) fun S_38 => mX0_take_48_59 v_7 f (v_17 + 1) S_38) else (bd1 (mX0_countTail_48 S_18 x_30 v_7) fun S_36 => mX0_take_48_59 v_7 f (v_17 + 1) S_36)) else (bd1 (mX0_sumTerms_48_51 S_18 x_28 v_7 ((x_28 * 64) + (v_7 * 8))) fun S_40 => mX0_take_48_59 v_7 f (v_17 + 1) S_40))
def mX0_take_48_46  : Nat → Int → St → Option (St)
  | 0, _, _ => none
  | f + 1, v_7, S_8 => gd ((inI v_7) ∧ (inI (S_8 2 0))) <| if (S_8 2 0) < v_7 then (some (S_8)) else (bd1 (mX0_take_48_59 v_7 FU 0 S_8) fun S_19 => mX0_take_48_46 f (v_7 + 1) S_19)
def mX0_take_48_7  : Nat → Int → St → Option (St)
  | 0, _, _ => none
  | f + 1, v_2, S_3 => gd ((inI v_2) ∧ (inI (S_3 2 3))) <| if (S_3 2 3) ≤ v_2 then (some (S_3)) else (gd (0 ≤ (v_2 * 64) ∧ (v_2 * 64) < 1536) <| nx (up S_3 49 (v_2 * 64) 0) fun S_47 => nx (up S_47 50 (v_2 * 64) 0) fun S_48 => mX0_take_48_7 f (v_2 + 1) S_48)
def mX0_take_48 (S0 : St) (a1 : Int) : Option (St) := nx (up S0 48 1 a1) fun S_1 => bd1 (mX0_take_48_7 FU 0 S_1) fun S_4 => bd1 (mX0_take_48_46 FU 0 S_4) fun S_9 => some (S_9)
set_option maxHeartbeats 4000000 in
set_option maxRecDepth 100000 in
theorem vX0_take_48 (l : Launch) {D : va_G} {cy : Nat → ClassId} {b n : Nat} (hn : 102 ≤ n) {X : Nat → va_E} {S0 : St} (a1 : Int) {o1 : St} (hM : mX0_take_48 S0 a1 = some o1) : gV l yX0_take cX0_take 6 5 0 0 D cy b n (enc b cy X S0) [.ref (b + 48), .int (iI a1)] (fun u => u = (n, enc b cy X o1)) := by
  refine gV_of (by decide) (Nat.le_of_ble_eq_true rfl) ?_
  intro p e s m args below meth c S hr hlk hin hsz ls hl hG
  have hx := S.1
  have hb := S.2.1
  have hl : lv_has ls 6 [(0, .ref (b + 48)), (1, .int (iI a1))] := hl
  replace hG : gW D cy b n s s.heap [] (enc b cy X S0) := hG
  obtain ⟨H, eH⟩ : ∃ H, H = s.heap := ⟨_, rfl⟩
  obtain ⟨locs, elocs⟩ : ∃ locs : List Loc, locs = [] := ⟨_, rfl⟩
  rw [← eH, ← elocs] at hG
  rw [← eH, ← elocs]
  clear eH elocs
  unfold mX0_take_48 at hM
  refine lv_aload_n hx hb dX0_take_0 rfl (lv_at hl 0 rfl) ?_
  refine lv_iload_n hx hb dX0_take_1 rfl (lv_at hl 1 rfl) ?_
  refine m_put S hG 48 48 1 rfl 1 a1 ec_48 cpX0 wm_404 dX0_take_2 (pf_48_1) (Nat.lt_of_lt_of_le (Nat.le_of_ble_eq_true rfl) hn) (by decide) (Nat.le_of_ble_eq_true rfl) rfl rfl rfl (fun H locs S_1 eS_1 hG => ?_)
  replace hM := nx_at hM eS_1
  clear eS_1
  refine lv_iconst (v := iI 0) hx hb dX0_take_5 (by decide) ?_
  refine lv_istore_n (lv' := [(2, .int (iI 0)), (0, .ref (b + 48)), (1, .int (iI a1))]) hx hb dX0_take_6 rfl hl (by decide) rfl (fun ls hl => ?_)
  obtain ⟨S_4, hc_5, hM⟩ := bd1_some hM
  have hK_6 : ∀ (H : Heap) (locs : List Loc) (ls : Array Slot), gW D cy b n s H locs (enc b cy X S_4) → lv_has ls 6 [(0, .ref (b + 48))] → W p l e (gRm 5 0 0) s m args below meth c H locs 0 0 (gQV D cy b s args below 0 0 (fun u => u = (n, enc b cy X o1))) (F0 m 44 ls []) := by
    intro H locs ls hG hl
    refine lv_iconst (v := iI 0) hx hb dX0_take_44 (by decide) ?_
    refine lv_istore_n (lv' := [(2, .int (iI 0)), (0, .ref (b + 48))]) hx hb dX0_take_45 rfl hl (by decide) rfl (fun ls hl => ?_)
    obtain ⟨S_9, hc_10, hM⟩ := bd1_some hM
    have hK_11 : ∀ (H : Heap) (locs : List Loc) (ls : Array Slot), gW D cy b n s H locs (enc b cy X S_9) → lv_has ls 6 [] → W p l e (gRm 5 0 0) s m args below meth c H locs 0 0 (gQV D cy b s args below 0 0 (fun u => u = (n, enc b cy X o1))) (F0 m 161 ls []) := by
      intro H locs ls hG hl
      cases hM
      exact g_vret S hr hlk hG hsz dX0_take_161 ⟨Nat.le_of_ble_eq_true rfl, Nat.le_of_ble_eq_true rfl⟩ rfl
    have loop_12 : ∀ (f : Nat) (v_7 : Int) (S_8 : St) (H : Heap) (locs : List Loc) (ls : Array Slot), mX0_take_48_46 f v_7 S_8 = some S_9 → gW D cy b n s H locs (enc b cy X S_8) → lv_has ls 6 [(2, .int (iI v_7)), (0, .ref (b + 48))] → W p l e (gRm 5 0 0) s m args below meth c H locs 0 0 (gQV D cy b s args below 0 0 (fun u => u = (n, enc b cy X o1))) (F0 m 46 ls []) := by
      clear hM
      intro f
      induction f with
      | zero => intro v_7 S_8 H locs ls hM; rw [mX0_take_48_46] at hM; cases hM
      | succ f_14 ih_13 =>
        intro v_7 S_8 H locs ls hM hG hl
        rw [mX0_take_48_46] at hM
        refine lv_iload_n hx hb dX0_take_46 rfl (lv_at hl 0 rfl) ?_
        refine lv_aload_n hx hb dX0_take_47 rfl (lv_at hl 1 rfl) ?_
        refine m_get S hG 48 48 0 rfl ec_48 cpX0 wm_403 dX0_take_48 rfl (Nat.lt_of_lt_of_le (Nat.le_of_ble_eq_true rfl) hn) (by decide) ?_
        refine m_get S hG 2 2 0 rfl ec_2 cpX2 wm_213 dX0_take_51 rfl (Nat.lt_of_lt_of_le (Nat.le_of_ble_eq_true rfl) hn) (by decide) ?_
        obtain ⟨hg_15, hM⟩ := gd_some hM
        refine gi_icmp_gt (tgt := 161) hx hb dX0_take_54 (by decide) hg_15.1 hg_15.2 (fun c_16 => ?_) (fun c_16 => ?_)
        · replace hM := ifp hM c_16
          cases hM
          exact hK_11 H locs ls hG (lv_sub hl [] rfl)
        · replace hM := ifn hM c_16
          refine lv_iconst (v := iI 0) hx hb dX0_take_57 (by decide) ?_
          refine lv_istore_n (lv' := [(3, .int (iI 0)), (2, .int (iI v_7)), (0, .ref (b + 48))]) hx hb dX0_take_58 rfl hl (by decide) rfl (fun ls hl => ?_)
          obtain ⟨S_19, hc_20, hM⟩ := bd1_some hM
          have hK_21 : ∀ (H : Heap) (locs : List Loc) (ls : Array Slot), gW D cy b n s H locs (enc b cy X S_19) → lv_has ls 6 [(2, .int (iI v_7)), (0, .ref (b + 48))] → W p l e (gRm 5 0 0) s m args below meth c H locs 0 0 (gQV D cy b s args below 0 0 (fun u => u = (n, enc b cy X o1))) (F0 m 155 ls []) := by
            intro H locs ls hG hl
            refine lv_iinc (v := iI (v_7 + 1)) (lv' := [(2, .int (iI (v_7 + 1))), (0, .ref (b + 48))]) hx hb dX0_take_155 hl (k := 0) rfl ((iI_add v_7 (1)).trans (congrArg iI (by omega))) (by decide) rfl (fun ls hl => ?_)
            refine lv_goto (tgt := 46) hx hb dX0_take_158 (by decide) ?_
            exact ih_13 (v_7 + 1) S_19 H locs ls hM hG (lv_sub hl [0, 1] rfl)
          have loop_22 : ∀ (f : Nat) (v_17 : Int) (S_18 : St) (H : Heap) (locs : List Loc) (ls : Array Slot), mX0_take_48_59 v_7 f v_17 S_18 = some S_19 → gW D cy b n s H locs (enc b cy X S_18) → lv_has ls 6 [(3, .int (iI v_17)), (2, .int (iI v_7)), (0, .ref (b + 48))] → W p l e (gRm 5 0 0) s m args below meth c H locs 0 0 (gQV D cy b s args below 0 0 (fun u => u = (n, enc b cy X o1))) (F0 m 59 ls []) := by
            clear hM
            intro f
            induction f with
            | zero => intro v_17 S_18 H locs ls hM; rw [mX0_take_48_59] at hM; cases hM
            | succ f_24 ih_23 =>
              intro v_17 S_18 H locs ls hM hG hl
              rw [mX0_take_48_59] at hM
              refine lv_iload_n hx hb dX0_take_59 rfl (lv_at hl 0 rfl) ?_
              refine lv_aload_n hx hb dX0_take_60 rfl (lv_at hl 2 rfl) ?_
              refine m_get S hG 48 48 0 rfl ec_48 cpX0 wm_403 dX0_take_61 rfl (Nat.lt_of_lt_of_le (Nat.le_of_ble_eq_true rfl) hn) (by decide) ?_
              refine m_get S hG 2 2 4 rfl ec_2 cpX2 wm_232 dX0_take_64 rfl (Nat.lt_of_lt_of_le (Nat.le_of_ble_eq_true rfl) hn) (by decide) ?_
              obtain ⟨hg_25, hM⟩ := gd_some hM
              refine gi_icmp_ge (tgt := 155) hx hb dX0_take_67 (by decide) hg_25.1 hg_25.2 (fun c_26 => ?_) (fun c_26 => ?_)
              · replace hM := ifp hM c_26
                cases hM
                exact hK_21 H locs ls hG (lv_sub hl [1, 2] rfl)
              · replace hM := ifn hM c_26
                refine lv_aload_n hx hb dX0_take_70 rfl (lv_at hl 2 rfl) ?_
                refine m_get S hG 48 48 0 rfl ec_48 cpX0 wm_403 dX0_take_71 rfl (Nat.lt_of_lt_of_le (Nat.le_of_ble_eq_true rfl) hn) (by decide) ?_
                refine m_get S hG 2 2 13 rfl ec_2 cpX2 wm_274 dX0_take_74 rfl (Nat.lt_of_lt_of_le (Nat.le_of_ble_eq_true rfl) hn) (by decide) ?_
                refine lv_iload_n hx hb dX0_take_77 rfl (lv_at hl 0 rfl) ?_
                obtain ⟨hg_27, hM⟩ := gd_some hM
                refine mi_ald S hG 11 11 rfl ec_11 (Nat.lt_of_lt_of_le (Nat.le_of_ble_eq_true rfl) hn) dX0_take_78 hg_27 (by decide) ?_
                refine gi_nm (fun x_28 ex_28 => ?_)
                replace hM := nx_at hM ex_28
                clear ex_28
                refine lv_istore (lv' := [(4, .int (iI x_28)), (3, .int (iI v_17)), (2, .int (iI v_7)), (0, .ref (b + 48))]) hx hb dX0_take_79 hl (by decide) rfl (fun ls hl => ?_)
                refine lv_iload hx hb dX0_take_81 (lv_at hl 0 rfl) ?_
                refine lv_bipush (v := iI 6) hx hb dX0_take_83 (by decide) ?_
                refine gi_sub hx hb dX0_take_85 ?_
                refine lv_iconst (v := iI 2) hx hb dX0_take_86 (by decide) ?_
                obtain ⟨hg_29, hM⟩ := gd_some hM
                refine gi_divT hx hb dX0_take_87 hg_29 (by decide) ?_
                refine gi_nm (fun x_30 ex_30 => ?_)
                replace hM := nx_at hM ex_30
                clear ex_30
                refine lv_istore (lv' := [(5, .int (iI x_30)), (4, .int (iI x_28)), (3, .int (iI v_17)), (2, .int (iI v_7)), (0, .ref (b + 48))]) hx hb dX0_take_88 hl (by decide) rfl (fun ls hl => ?_)
                refine lv_iload hx hb dX0_take_90 (lv_at hl 1 rfl) ?_
                refine lv_bipush (v := iI 6) hx hb dX0_take_92 (by decide) ?_
                obtain ⟨hg_31, hM⟩ := gd_some hM
                refine gi_icmp_ge (tgt := 121) hx hb dX0_take_94 (by decide) hg_31 (by decide) (fun c_32 => ?_) (fun c_32 => ?_)
                · replace hM := ifp hM c_32
                  refine lv_iload hx hb dX0_take_121 (lv_at hl 1 rfl) ?_
                  refine lv_bipush (v := iI 6) hx hb dX0_take_123 (by decide) ?_
                  refine gi_sub hx hb dX0_take_125 ?_
                  refine lv_iconst (v := iI 2) hx hb dX0_take_126 (by decide) ?_
                  refine gi_remT hx hb dX0_take_127 hg_29 (by decide) ?_
                  refine lv_iconst (v := iI 1) hx hb dX0_take_128 (by decide) ?_
                  obtain ⟨hg_33, hM⟩ := gd_some hM
                  refine gi_icmp_ne (tgt := 142) hx hb dX0_take_129 (by decide) hg_33 (by decide) (fun c_34 => ?_) (fun c_34 => ?_)
                  · replace hM := ifn hM c_34
                    refine lv_aload_n hx hb dX0_take_142 rfl (lv_at hl 4 rfl) ?_
                    refine lv_iload hx hb dX0_take_143 (lv_at hl 0 rfl) ?_
                    refine lv_iload_n hx hb dX0_take_145 rfl (lv_at hl 3 rfl) ?_
                    obtain ⟨S_36, hc_35, hM⟩ := bd1_some hM
                    refine g_vv (As := [.int (iI x_30), .int (iI v_7)]) (rest := []) S hG hsz (vX0_countTail_48 l hn x_30 v_7 hc_35) wV_0_61 (ec_48 _) cpX0 (Nat.lt_of_lt_of_le (Nat.le_of_ble_eq_true rfl) hn) dX0_take_146 rfl hl.1 (ar := 2) (by decide +kernel) rfl ⟨Nat.le_of_ble_eq_true rfl, Nat.le_of_ble_eq_true rfl, Nat.le_of_ble_eq_true rfl, Nat.le_of_ble_eq_true rfl⟩ (Nat.le_of_ble_eq_true rfl) (fun uu H locs hp hG => ?_)
                    obtain rfl := hp
                    replace hG : gW D cy b n s H locs (enc b cy X S_36) := hG
                    refine lv_iinc (v := iI (v_17 + 1)) (lv' := [(3, .int (iI (v_17 + 1))), (5, .int (iI x_30)), (4, .int (iI x_28)), (2, .int (iI v_7)), (0, .ref (b + 48))]) hx hb dX0_take_149 hl (k := 2) rfl ((iI_add v_17 (1)).trans (congrArg iI (by omega))) (by decide) rfl (fun ls hl => ?_)
                    refine lv_goto (tgt := 59) hx hb dX0_take_152 (by decide) ?_
                    exact ih_23 (v_17 + 1) S_36 H locs ls hM hG (lv_sub hl [0, 3, 4] rfl)
                  · replace hM := ifp hM c_34
                    refine lv_aload_n hx hb dX0_take_132 rfl (lv_at hl 4 rfl) ?_
                    refine lv_iload hx hb dX0_take_133 (lv_at hl 0 rfl) ?_
                    refine lv_iload_n hx hb dX0_take_135 rfl (lv_at hl 3 rfl) ?_
                    obtain ⟨S_38, hc_37, hM⟩ := bd1_some hM
                    refine g_vv (As := [.int (iI x_30), .int (iI v_7)]) (rest := []) S hG hsz (vX0_countPart_48 l hn x_30 v_7 hc_37) wV_0_57 (ec_48 _) cpX0 (Nat.lt_of_lt_of_le (Nat.le_of_ble_eq_true rfl) hn) dX0_take_136 rfl hl.1 (ar := 2) (by decide +kernel) rfl ⟨Nat.le_of_ble_eq_true rfl, Nat.le_of_ble_eq_true rfl, Nat.le_of_ble_eq_true rfl, Nat.le_of_ble_eq_true rfl⟩ (Nat.le_of_ble_eq_true rfl) (fun uu H locs hp hG => ?_)
                    obtain rfl := hp
                    replace hG : gW D cy b n s H locs (enc b cy X S_38) := hG
                    refine lv_goto (tgt := 149) hx hb dX0_take_139 (by decide) ?_
                    refine lv_iinc (v := iI (v_17 + 1)) (lv' := [(3, .int (iI (v_17 + 1))), (5, .int (iI x_30)), (4, .int (iI x_28)), (2, .int (iI v_7)), (0, .ref (b + 48))]) hx hb dX0_take_149 hl (k := 2) rfl ((iI_add v_17 (1)).trans (congrArg iI (by omega))) (by decide) rfl (fun ls hl => ?_)
                    refine lv_goto (tgt := 59) hx hb dX0_take_152 (by decide) ?_
                    exact ih_23 (v_17 + 1) S_38 H locs ls hM hG (lv_sub hl [0, 3, 4] rfl)
                · replace hM := ifn hM c_32
                  refine lv_aload_n hx hb dX0_take_97 rfl (lv_at hl 4 rfl) ?_
                  refine lv_iload hx hb dX0_take_98 (lv_at hl 1 rfl) ?_
                  refine lv_iload_n hx hb dX0_take_100 rfl (lv_at hl 3 rfl) ?_
                  refine lv_aload_n hx hb dX0_take_101 rfl (lv_at hl 4 rfl) ?_
                  refine m_get S hG 48 48 4 rfl ec_48 cpX0 wm_407 dX0_take_102 rfl (Nat.lt_of_lt_of_le (Nat.le_of_ble_eq_true rfl) hn) (by decide) ?_
                  refine lv_iload hx hb dX0_take_105 (lv_at hl 1 rfl) ?_
                  refine lv_bipush (v := iI 64) hx hb dX0_take_107 (by decide) ?_
                  refine gi_mul hx hb dX0_take_109 ?_
                  refine lv_iload_n hx hb dX0_take_110 rfl (lv_at hl 3 rfl) ?_
                  refine lv_bipush (v := iI 8) hx hb dX0_take_111 (by decide) ?_
                  refine gi_mul hx hb dX0_take_113 ?_
                  refine gi_add hx hb dX0_take_114 ?_
                  obtain ⟨S_40, hc_39, hM⟩ := bd1_some hM
                  refine g_vv (As := [.int (iI x_28), .int (iI v_7), .ref (b + 51), .int (iI ((x_28 * 64) + (v_7 * 8)))]) (rest := []) S hG hsz (vX0_sumTerms_48_51 l hn x_28 v_7 ((x_28 * 64) + (v_7 * 8)) hc_39) wV_0_53 (ec_48 _) cpX0 (Nat.lt_of_lt_of_le (Nat.le_of_ble_eq_true rfl) hn) dX0_take_115 rfl hl.1 (ar := 4) (by decide +kernel) rfl ⟨Nat.le_of_ble_eq_true rfl, Nat.le_of_ble_eq_true rfl, Nat.le_of_ble_eq_true rfl, Nat.le_of_ble_eq_true rfl⟩ (Nat.le_of_ble_eq_true rfl) (fun uu H locs hp hG => ?_)
                  obtain rfl := hp
                  replace hG : gW D cy b n s H locs (enc b cy X S_40) := hG
                  refine lv_goto (tgt := 149) hx hb dX0_take_118 (by decide) ?_
                  refine lv_iinc (v := iI (v_17 + 1)) (lv' := [(3, .int (iI (v_17 + 1))), (5, .int (iI x_30)), (4, .int (iI x_28)), (2, .int (iI v_7)), (0, .ref (b + 48))]) hx hb dX0_take_149 hl (k := 2) rfl ((iI_add v_17 (1)).trans (congrArg iI (by omega))) (by decide) rfl (fun ls hl => ?_)
                  refine lv_goto (tgt := 59) hx hb dX0_take_152 (by decide) ?_
                  exact ih_23 (v_17 + 1) S_40 H locs ls hM hG (lv_sub hl [0, 3, 4] rfl)
          exact loop_22 FU 0 S_8 H locs ls hc_20 hG (lv_sub hl [0, 1, 2] rfl)
    exact loop_12 FU 0 S_4 H locs ls hc_10 hG (lv_sub hl [0, 1] rfl)
  have loop_41 : ∀ (f : Nat) (v_2 : Int) (S_3 : St) (H : Heap) (locs : List Loc) (ls : Array Slot), mX0_take_48_7 f v_2 S_3 = some S_4 → gW D cy b n s H locs (enc b cy X S_3) → lv_has ls 6 [(2, .int (iI v_2)), (0, .ref (b + 48))] → W p l e (gRm 5 0 0) s m args below meth c H locs 0 0 (gQV D cy b s args below 0 0 (fun u => u = (n, enc b cy X o1))) (F0 m 7 ls []) := by
    clear hM
    intro f
    induction f with
    | zero => intro v_2 S_3 H locs ls hM; rw [mX0_take_48_7] at hM; cases hM
    | succ f_43 ih_42 =>
      intro v_2 S_3 H locs ls hM hG hl
      rw [mX0_take_48_7] at hM
      refine lv_iload_n hx hb dX0_take_7 rfl (lv_at hl 0 rfl) ?_
      refine lv_aload_n hx hb dX0_take_8 rfl (lv_at hl 1 rfl) ?_
      refine m_get S hG 48 48 0 rfl ec_48 cpX0 wm_403 dX0_take_9 rfl (Nat.lt_of_lt_of_le (Nat.le_of_ble_eq_true rfl) hn) (by decide) ?_
      refine m_get S hG 2 2 3 rfl ec_2 cpX2 wm_228 dX0_take_12 rfl (Nat.lt_of_lt_of_le (Nat.le_of_ble_eq_true rfl) hn) (by decide) ?_
      obtain ⟨hg_44, hM⟩ := gd_some hM
      refine gi_icmp_ge (tgt := 44) hx hb dX0_take_15 (by decide) hg_44.1 hg_44.2 (fun c_45 => ?_) (fun c_45 => ?_)
      · replace hM := ifp hM c_45
        cases hM
        exact hK_6 H locs ls hG (lv_sub hl [1] rfl)
      · replace hM := ifn hM c_45
        refine lv_aload_n hx hb dX0_take_18 rfl (lv_at hl 1 rfl) ?_
        refine m_get S hG 48 48 2 rfl ec_48 cpX0 wm_405 dX0_take_19 rfl (Nat.lt_of_lt_of_le (Nat.le_of_ble_eq_true rfl) hn) (by decide) ?_
        refine lv_iload_n hx hb dX0_take_22 rfl (lv_at hl 0 rfl) ?_
        refine lv_bipush (v := iI 64) hx hb dX0_take_23 (by decide) ?_
        refine gi_mul hx hb dX0_take_25 ?_
        refine lv_lconst (v := jJ 0) hx hb dX0_take_26 (by decide) ?_
        obtain ⟨hg_46, hM⟩ := gd_some hM
        refine mj_ast S hG 49 49 rfl ec_49 (Nat.lt_of_lt_of_le (Nat.le_of_ble_eq_true rfl) hn) dX0_take_27 hg_46 (by decide) (fun H locs S_47 eS_47 hG => ?_)
        replace hM := nx_at hM eS_47
        clear eS_47
        refine lv_aload_n hx hb dX0_take_28 rfl (lv_at hl 1 rfl) ?_
        refine m_get S hG 48 48 3 rfl ec_48 cpX0 wm_406 dX0_take_29 rfl (Nat.lt_of_lt_of_le (Nat.le_of_ble_eq_true rfl) hn) (by decide) ?_
        refine lv_iload_n hx hb dX0_take_32 rfl (lv_at hl 0 rfl) ?_
        refine lv_bipush (v := iI 64) hx hb dX0_take_33 (by decide) ?_
        refine gi_mul hx hb dX0_take_35 ?_
        refine lv_lconst (v := jJ 0) hx hb dX0_take_36 (by decide) ?_
        refine mj_ast S hG 50 50 rfl ec_50 (Nat.lt_of_lt_of_le (Nat.le_of_ble_eq_true rfl) hn) dX0_take_37 hg_46 (by decide) (fun H locs S_48 eS_48 hG => ?_)
        replace hM := nx_at hM eS_48
        clear eS_48
        refine lv_iinc (v := iI (v_2 + 1)) (lv' := [(2, .int (iI (v_2 + 1))), (0, .ref (b + 48))]) hx hb dX0_take_38 hl (k := 0) rfl ((iI_add v_2 (1)).trans (congrArg iI (by omega))) (by decide) rfl (fun ls hl => ?_)
        refine lv_goto (tgt := 7) hx hb dX0_take_41 (by decide) ?_
        exact ih_42 (v_2 + 1) S_48 H locs ls hM hG (lv_sub hl [0, 1] rfl)
  exact loop_41 FU 0 S_1 H locs ls hc_5 hG (lv_sub hl [0, 1] rfl)
theorem wV_4_59 : gWV "GrownKinds$Ledger" 59 yX4_keep cX4_keep 5 none := ⟨wm_1187, wm_1189, wm_51, wm_182, wm_1190, by decide +kernel, by decide +kernel⟩
theorem wV_4_49 : gWV "GrownKinds$Ledger" 49 yX0_thingsAt cX0_thingsAt 3 (some .long) := ⟨wm_1191, wm_1144, wm_1145, wm_181, wm_1146, by decide +kernel, by decide +kernel⟩
def mX0_thingsAt_48 (S0 : St) (a1 : Int) (a2 : Int) : Option (Int) := gd (0 ≤ ((a1 * 64) + (a2 * 8)) ∧ ((a1 * 64) + (a2 * 8)) < 384) <| gd (inL (S0 51 ((a1 * 64) + (a2 * 8)))) <| some ((min 1000000000000 (S0 51 ((a1 * 64) + (a2 * 8)))))
set_option maxHeartbeats 4000000 in
set_option maxRecDepth 100000 in
theorem vX0_thingsAt_48 (l : Launch) {D : va_G} {cy : Nat → ClassId} {b n : Nat} (hn : 102 ≤ n) {X : Nat → va_E} {S0 : St} (a1 : Int) (a2 : Int) {o1 : Int} (hM : mX0_thingsAt_48 S0 a1 a2 = some o1) : gL l yX0_thingsAt cX0_thingsAt 3 1 0 0 D cy b n (enc b cy X S0) [.ref (b + 48), .int (iI a1), .int (iI a2)] (fun r u => r = jJ o1 ∧ u = (n, enc b cy X S0)) := by
  refine gL_of (by decide) (Nat.le_of_ble_eq_true rfl) ?_
  intro p e s m args below meth c S hr hlk hin hsz ls hl hG
  have hx := S.1
  have hb := S.2.1
  have hl : lv_has ls 3 [(0, .ref (b + 48)), (1, .int (iI a1)), (2, .int (iI a2))] := hl
  replace hG : gW D cy b n s s.heap [] (enc b cy X S0) := hG
  obtain ⟨H, eH⟩ : ∃ H, H = s.heap := ⟨_, rfl⟩
  obtain ⟨locs, elocs⟩ : ∃ locs : List Loc, locs = [] := ⟨_, rfl⟩
  rw [← eH, ← elocs] at hG
  rw [← eH, ← elocs]
  clear eH elocs
  unfold mX0_thingsAt_48 at hM
  refine lv_ldc2 (v := 1000000000000) hx hb S.2.2.2.1 (S.2.2.2.2 _ wm_1147) dX0_thingsAt_0 ?_
  refine gj_as 1000000000000 (by decide) ?_
  refine lv_aload_n hx hb dX0_thingsAt_3 rfl (lv_at hl 0 rfl) ?_
  refine m_get S hG 48 48 4 rfl ec_48 cpX0 wm_407 dX0_thingsAt_4 rfl (Nat.lt_of_lt_of_le (Nat.le_of_ble_eq_true rfl) hn) (by decide) ?_
  refine lv_iload_n hx hb dX0_thingsAt_7 rfl (lv_at hl 1 rfl) ?_
  refine lv_bipush (v := iI 64) hx hb dX0_thingsAt_8 (by decide) ?_
  refine gi_mul hx hb dX0_thingsAt_10 ?_
  refine lv_iload_n hx hb dX0_thingsAt_11 rfl (lv_at hl 2 rfl) ?_
  refine lv_bipush (v := iI 8) hx hb dX0_thingsAt_12 (by decide) ?_
  refine gi_mul hx hb dX0_thingsAt_14 ?_
  refine gi_add hx hb dX0_thingsAt_15 ?_
  obtain ⟨hg_1, hM⟩ := gd_some hM
  refine mj_ald S hG 51 51 rfl ec_51 (Nat.lt_of_lt_of_le (Nat.le_of_ble_eq_true rfl) hn) dX0_thingsAt_16 hg_1 (by decide) ?_
  obtain ⟨hg_2, hM⟩ := gd_some hM
  refine gj_min S wm_1148 wm_1149 wm_190 wm_1150 hl.1 dX0_thingsAt_17 ⟨Nat.le_of_ble_eq_true rfl, Nat.le_of_ble_eq_true rfl, Nat.le_of_ble_eq_true rfl, Nat.le_of_ble_eq_true rfl⟩ (by decide) hg_2 ?_
  cases hM
  exact g_lret S hr hlk hG hsz dX0_thingsAt_20 ⟨Nat.le_of_ble_eq_true rfl, Nat.le_of_ble_eq_true rfl⟩ ⟨rfl, rfl⟩
def mX4_keep_47_57_16 (v_1 : Int) (a2 : Int) : Nat → Int → St → Option (St)
  | 0, _, _ => none
  | f + 1, v_11, S_12 => gd ((inI v_11) ∧ (inI (S_12 2 0))) <| if (S_12 2 0) < v_11 then (some (S_12)) else (bd1 (mX0_thingsAt_48 S_12 v_1 v_11) fun r_22 => gd (0 ≤ ((a2 + (v_1 * 8)) + v_11) ∧ ((a2 + (v_1 * 8)) + v_11) < 48) <| nx (up S_12 57 ((a2 + (v_1 * 8)) + v_11) r_22) fun S_24 => mX4_keep_47_57_16 v_1 a2 f (v_11 + 1) S_24)
def mX4_keep_47_57_2 (a2 : Int) : Nat → Int → St → Option (St)
  | 0, _, _ => none
  | f + 1, v_1, S_2 => gd ((inI v_1) ∧ (inI (S_2 2 1))) <| if (S_2 2 1) ≤ v_1 then (some (S_2)) else (bd1 (mX4_keep_47_57_16 v_1 a2 FU 0 S_2) fun S_13 => mX4_keep_47_57_2 a2 f (v_1 + 1) S_13)
def mX4_keep_47_57 (S0 : St) (a2 : Int) : Option (St) := bd1 (mX4_keep_47_57_2 a2 FU 0 S0) fun S_3 => some (S_3)
set_option maxHeartbeats 4000000 in
set_option maxRecDepth 100000 in
theorem vX4_keep_47_57 (l : Launch) {D : va_G} {cy : Nat → ClassId} {b n : Nat} (hn : 102 ≤ n) {X : Nat → va_E} {S0 : St} (a2 : Int) {o1 : St} (hM : mX4_keep_47_57 S0 a2 = some o1) : gV l yX4_keep cX4_keep 5 2 0 0 D cy b n (enc b cy X S0) [.ref (b + 47), .ref (b + 55), .int (iI a2)] (fun u => u = (n, enc b cy X o1)) := by
  refine gV_of (by decide) (Nat.le_of_ble_eq_true rfl) ?_
  intro p e s m args below meth c S hr hlk hin hsz ls hl hG
  have hx := S.1
  have hb := S.2.1
  have hl : lv_has ls 5 [(0, .ref (b + 47)), (1, .ref (b + 55)), (2, .int (iI a2))] := hl
  replace hG : gW D cy b n s s.heap [] (enc b cy X S0) := hG
  obtain ⟨H, eH⟩ : ∃ H, H = s.heap := ⟨_, rfl⟩
  obtain ⟨locs, elocs⟩ : ∃ locs : List Loc, locs = [] := ⟨_, rfl⟩
  rw [← eH, ← elocs] at hG
  rw [← eH, ← elocs]
  clear eH elocs
  unfold mX4_keep_47_57 at hM
  refine lv_iconst (v := iI 0) hx hb dX4_keep_0 (by decide) ?_
  refine lv_istore_n (lv' := [(3, .int (iI 0)), (0, .ref (b + 47)), (1, .ref (b + 55)), (2, .int (iI a2))]) hx hb dX4_keep_1 rfl hl (by decide) rfl (fun ls hl => ?_)
  obtain ⟨S_3, hc_4, hM⟩ := bd1_some hM
  have hK_5 : ∀ (H : Heap) (locs : List Loc) (ls : Array Slot), gW D cy b n s H locs (enc b cy X S_3) → lv_has ls 5 [] → W p l e (gRm 2 0 0) s m args below meth c H locs 0 0 (gQV D cy b s args below 0 0 (fun u => u = (n, enc b cy X o1))) (F0 m 61 ls []) := by
    intro H locs ls hG hl
    cases hM
    exact g_vret S hr hlk hG hsz dX4_keep_61 ⟨Nat.le_of_ble_eq_true rfl, Nat.le_of_ble_eq_true rfl⟩ rfl
  have loop_6 : ∀ (f : Nat) (v_1 : Int) (S_2 : St) (H : Heap) (locs : List Loc) (ls : Array Slot), mX4_keep_47_57_2 a2 f v_1 S_2 = some S_3 → gW D cy b n s H locs (enc b cy X S_2) → lv_has ls 5 [(3, .int (iI v_1)), (0, .ref (b + 47)), (1, .ref (b + 55)), (2, .int (iI a2))] → W p l e (gRm 2 0 0) s m args below meth c H locs 0 0 (gQV D cy b s args below 0 0 (fun u => u = (n, enc b cy X o1))) (F0 m 2 ls []) := by
    clear hM
    intro f
    induction f with
    | zero => intro v_1 S_2 H locs ls hM; rw [mX4_keep_47_57_2] at hM; cases hM
    | succ f_8 ih_7 =>
      intro v_1 S_2 H locs ls hM hG hl
      rw [mX4_keep_47_57_2] at hM
      refine lv_iload_n hx hb dX4_keep_2 rfl (lv_at hl 0 rfl) ?_
      refine lv_aload_n hx hb dX4_keep_3 rfl (lv_at hl 1 rfl) ?_
      refine m_get S hG 47 47 0 rfl ec_47 cpX4 wm_435 dX4_keep_4 rfl (Nat.lt_of_lt_of_le (Nat.le_of_ble_eq_true rfl) hn) (by decide) ?_
      refine m_get S hG 2 2 1 rfl ec_2 cpX2 wm_221 dX4_keep_7 rfl (Nat.lt_of_lt_of_le (Nat.le_of_ble_eq_true rfl) hn) (by decide) ?_
      obtain ⟨hg_9, hM⟩ := gd_some hM
      refine gi_icmp_ge (tgt := 61) hx hb dX4_keep_10 (by decide) hg_9.1 hg_9.2 (fun c_10 => ?_) (fun c_10 => ?_)
      · replace hM := ifp hM c_10
        cases hM
        exact hK_5 H locs ls hG (lv_sub hl [] rfl)
      · replace hM := ifn hM c_10
        refine lv_iconst (v := iI 0) hx hb dX4_keep_13 (by decide) ?_
        refine lv_istore (lv' := [(4, .int (iI 0)), (3, .int (iI v_1)), (0, .ref (b + 47)), (1, .ref (b + 55)), (2, .int (iI a2))]) hx hb dX4_keep_14 hl (by decide) rfl (fun ls hl => ?_)
        obtain ⟨S_13, hc_14, hM⟩ := bd1_some hM
        have hK_15 : ∀ (H : Heap) (locs : List Loc) (ls : Array Slot), gW D cy b n s H locs (enc b cy X S_13) → lv_has ls 5 [(3, .int (iI v_1)), (0, .ref (b + 47)), (1, .ref (b + 55)), (2, .int (iI a2))] → W p l e (gRm 2 0 0) s m args below meth c H locs 0 0 (gQV D cy b s args below 0 0 (fun u => u = (n, enc b cy X o1))) (F0 m 55 ls []) := by
          intro H locs ls hG hl
          refine lv_iinc (v := iI (v_1 + 1)) (lv' := [(3, .int (iI (v_1 + 1))), (0, .ref (b + 47)), (1, .ref (b + 55)), (2, .int (iI a2))]) hx hb dX4_keep_55 hl (k := 0) rfl ((iI_add v_1 (1)).trans (congrArg iI (by omega))) (by decide) rfl (fun ls hl => ?_)
          refine lv_goto (tgt := 2) hx hb dX4_keep_58 (by decide) ?_
          exact ih_7 (v_1 + 1) S_13 H locs ls hM hG (lv_sub hl [0, 1, 2, 3] rfl)
        have loop_16 : ∀ (f : Nat) (v_11 : Int) (S_12 : St) (H : Heap) (locs : List Loc) (ls : Array Slot), mX4_keep_47_57_16 v_1 a2 f v_11 S_12 = some S_13 → gW D cy b n s H locs (enc b cy X S_12) → lv_has ls 5 [(4, .int (iI v_11)), (3, .int (iI v_1)), (0, .ref (b + 47)), (1, .ref (b + 55)), (2, .int (iI a2))] → W p l e (gRm 2 0 0) s m args below meth c H locs 0 0 (gQV D cy b s args below 0 0 (fun u => u = (n, enc b cy X o1))) (F0 m 16 ls []) := by
          clear hM
          intro f
          induction f with
          | zero => intro v_11 S_12 H locs ls hM; rw [mX4_keep_47_57_16] at hM; cases hM
          | succ f_18 ih_17 =>
            intro v_11 S_12 H locs ls hM hG hl
            rw [mX4_keep_47_57_16] at hM
            refine lv_iload hx hb dX4_keep_16 (lv_at hl 0 rfl) ?_
            refine lv_aload_n hx hb dX4_keep_18 rfl (lv_at hl 2 rfl) ?_
            refine m_get S hG 47 47 0 rfl ec_47 cpX4 wm_435 dX4_keep_19 rfl (Nat.lt_of_lt_of_le (Nat.le_of_ble_eq_true rfl) hn) (by decide) ?_
            refine m_get S hG 2 2 0 rfl ec_2 cpX2 wm_214 dX4_keep_22 rfl (Nat.lt_of_lt_of_le (Nat.le_of_ble_eq_true rfl) hn) (by decide) ?_
            obtain ⟨hg_19, hM⟩ := gd_some hM
            refine gi_icmp_gt (tgt := 55) hx hb dX4_keep_25 (by decide) hg_19.1 hg_19.2 (fun c_20 => ?_) (fun c_20 => ?_)
            · replace hM := ifp hM c_20
              cases hM
              exact hK_15 H locs ls hG (lv_sub hl [1, 2, 3, 4] rfl)
            · replace hM := ifn hM c_20
              refine lv_aload_n hx hb dX4_keep_28 rfl (lv_at hl 3 rfl) ?_
              refine lv_iload_n hx hb dX4_keep_29 rfl (lv_at hl 4 rfl) ?_
              refine lv_iload_n hx hb dX4_keep_30 rfl (lv_at hl 1 rfl) ?_
              refine lv_bipush (v := iI 8) hx hb dX4_keep_31 (by decide) ?_
              refine gi_mul hx hb dX4_keep_33 ?_
              refine gi_add hx hb dX4_keep_34 ?_
              refine lv_iload hx hb dX4_keep_35 (lv_at hl 0 rfl) ?_
              refine gi_add hx hb dX4_keep_37 ?_
              refine lv_aload_n hx hb dX4_keep_38 rfl (lv_at hl 2 rfl) ?_
              refine m_get S hG 47 47 1 rfl ec_47 cpX4 wm_436 dX4_keep_39 rfl (Nat.lt_of_lt_of_le (Nat.le_of_ble_eq_true rfl) hn) (by decide) ?_
              refine lv_iload_n hx hb dX4_keep_42 rfl (lv_at hl 1 rfl) ?_
              refine lv_iload hx hb dX4_keep_43 (lv_at hl 0 rfl) ?_
              obtain ⟨r_22, hc_21, hM⟩ := bd1_some hM
              refine g_vl (As := [.int (iI v_1), .int (iI v_11)]) (rest := [.int (iI ((a2 + (v_1 * 8)) + v_11)), .ref (b + 55)]) S hG hsz (vX0_thingsAt_48 l hn v_1 v_11 hc_21) wV_4_49 (ec_48 _) cpX0 (Nat.lt_of_lt_of_le (Nat.le_of_ble_eq_true rfl) hn) dX4_keep_45 rfl hl.1 (ar := 2) (by decide +kernel) rfl ⟨Nat.le_of_ble_eq_true rfl, Nat.le_of_ble_eq_true rfl, Nat.le_of_ble_eq_true rfl, Nat.le_of_ble_eq_true rfl⟩ (Nat.le_of_ble_eq_true rfl) (fun rv uu H locs hp hG => ?_)
              obtain ⟨rfl, rfl⟩ := hp
              replace hG : gW D cy b n s H locs (enc b cy X S_12) := hG
              obtain ⟨hg_23, hM⟩ := gd_some hM
              refine mj_ast S hG 55 57 rfl ec_57 (Nat.lt_of_lt_of_le (Nat.le_of_ble_eq_true rfl) hn) dX4_keep_48 hg_23 (by decide) (fun H locs S_24 eS_24 hG => ?_)
              replace hM := nx_at hM eS_24
              clear eS_24
              refine lv_iinc (v := iI (v_11 + 1)) (lv' := [(4, .int (iI (v_11 + 1))), (3, .int (iI v_1)), (0, .ref (b + 47)), (1, .ref (b + 55)), (2, .int (iI a2))]) hx hb dX4_keep_49 hl (k := 0) rfl ((iI_add v_11 (1)).trans (congrArg iI (by omega))) (by decide) rfl (fun ls hl => ?_)
              refine lv_goto (tgt := 16) hx hb dX4_keep_52 (by decide) ?_
              exact ih_17 (v_11 + 1) S_24 H locs ls hM hG (lv_sub hl [0, 1, 2, 3, 4] rfl)
        exact loop_16 FU 0 S_2 H locs ls hc_14 hG (lv_sub hl [0, 1, 2, 3, 4] rfl)
  exact loop_6 FU 0 S0 H locs ls hc_4 hG (lv_sub hl [0, 1, 2, 3] rfl)
def mX4_labelledThings (S0 : St) (a1 : Int) (a2 : Int) : Option (Int × St) := bd1 (gd (inI (S0 47 2)) <| if (S0 47 2) = 0 then (bd1 (mX0_take_48 S0 (-2)) fun S_8 => bd1 (mX4_keep_47_57 S_8 0) fun S_10 => nx (up S_10 47 2 1) fun S_11 => some (S_11)) else (some (S0))) fun S_1 => gd (0 ≤ ((a1 * 8) + a2) ∧ ((a1 * 8) + a2) < 48) <| some ((S_1 57 ((a1 * 8) + a2)), S_1)
set_option maxHeartbeats 4000000 in
set_option maxRecDepth 100000 in
theorem vX4_labelledThings (l : Launch) {D : va_G} {cy : Nat → ClassId} {b n : Nat} (hn : 102 ≤ n) {X : Nat → va_E} {S0 : St} (a1 : Int) (a2 : Int) {o1 : Int} {o2 : St} (hM : mX4_labelledThings S0 a1 a2 = some (o1, o2)) : gL l yX4_labelledThings cX4_labelledThings 3 6 0 0 D cy b n (enc b cy X S0) [.ref (b + 47), .int (iI a1), .int (iI a2)] (fun r u => r = jJ o1 ∧ u = (n, enc b cy X o2)) := by
  refine gL_of (by decide) (Nat.le_of_ble_eq_true rfl) ?_
  intro p e s m args below meth c S hr hlk hin hsz ls hl hG
  have hx := S.1
  have hb := S.2.1
  have hl : lv_has ls 3 [(0, .ref (b + 47)), (1, .int (iI a1)), (2, .int (iI a2))] := hl
  replace hG : gW D cy b n s s.heap [] (enc b cy X S0) := hG
  obtain ⟨H, eH⟩ : ∃ H, H = s.heap := ⟨_, rfl⟩
  obtain ⟨locs, elocs⟩ : ∃ locs : List Loc, locs = [] := ⟨_, rfl⟩
  rw [← eH, ← elocs] at hG
  rw [← eH, ← elocs]
  clear eH elocs
  unfold mX4_labelledThings at hM
  refine lv_aload_n hx hb dX4_labelledThings_0 rfl (lv_at hl 0 rfl) ?_
  refine m_get S hG 47 47 2 rfl ec_47 cpX4 wm_437 dX4_labelledThings_1 rfl (Nat.lt_of_lt_of_le (Nat.le_of_ble_eq_true rfl) hn) (by decide) ?_
  obtain ⟨S_1, hc_2, hM⟩ := bd1_some hM
  have hK_3 : ∀ (H : Heap) (locs : List Loc) (ls : Array Slot), gW D cy b n s H locs (enc b cy X S_1) → lv_has ls 3 [(0, .ref (b + 47)), (1, .int (iI a1)), (2, .int (iI a2))] → W p l e (gRm 6 0 0) s m args below meth c H locs 0 0 (gQL D cy b s args below 0 0 (fun r u => r = jJ o1 ∧ u = (n, enc b cy X o2))) (F0 m 30 ls []) := by
    intro H locs ls hG hl
    refine lv_aload_n hx hb dX4_labelledThings_30 rfl (lv_at hl 0 rfl) ?_
    refine m_get S hG 47 47 5 rfl ec_47 cpX4 wm_440 dX4_labelledThings_31 rfl (Nat.lt_of_lt_of_le (Nat.le_of_ble_eq_true rfl) hn) (by decide) ?_
    refine lv_iload_n hx hb dX4_labelledThings_34 rfl (lv_at hl 1 rfl) ?_
    refine lv_bipush (v := iI 8) hx hb dX4_labelledThings_35 (by decide) ?_
    refine gi_mul hx hb dX4_labelledThings_37 ?_
    refine lv_iload_n hx hb dX4_labelledThings_38 rfl (lv_at hl 2 rfl) ?_
    refine gi_add hx hb dX4_labelledThings_39 ?_
    obtain ⟨hg_4, hM⟩ := gd_some hM
    refine mj_ald S hG 55 57 rfl ec_57 (Nat.lt_of_lt_of_le (Nat.le_of_ble_eq_true rfl) hn) dX4_labelledThings_40 hg_4 (by decide) ?_
    cases hM
    exact g_lret S hr hlk hG hsz dX4_labelledThings_41 ⟨Nat.le_of_ble_eq_true rfl, Nat.le_of_ble_eq_true rfl⟩ ⟨rfl, rfl⟩
  clear hM
  replace hM := hc_2
  obtain ⟨hg_5, hM⟩ := gd_some hM
  refine gi_if_ne (tgt := 30) hx hb dX4_labelledThings_4 (by decide) hg_5 (fun c_6 => ?_) (fun c_6 => ?_)
  · replace hM := ifn hM c_6
    cases hM
    exact hK_3 H locs ls hG (lv_sub hl [0, 1, 2] rfl)
  · replace hM := ifp hM c_6
    refine lv_aload_n hx hb dX4_labelledThings_7 rfl (lv_at hl 0 rfl) ?_
    refine m_get S hG 47 47 1 rfl ec_47 cpX4 wm_436 dX4_labelledThings_8 rfl (Nat.lt_of_lt_of_le (Nat.le_of_ble_eq_true rfl) hn) (by decide) ?_
    refine lv_bipush (v := iI (-2)) hx hb dX4_labelledThings_11 (by decide) ?_
    obtain ⟨S_8, hc_7, hM⟩ := bd1_some hM
    refine g_vv (As := [.int (iI (-2))]) (rest := []) S hG hsz (vX0_take_48 l hn (-2) hc_7) wV_4_55 (ec_48 _) cpX0 (Nat.lt_of_lt_of_le (Nat.le_of_ble_eq_true rfl) hn) dX4_labelledThings_13 rfl hl.1 (ar := 1) (by decide +kernel) rfl ⟨Nat.le_of_ble_eq_true rfl, Nat.le_of_ble_eq_true rfl, Nat.le_of_ble_eq_true rfl, Nat.le_of_ble_eq_true rfl⟩ (Nat.le_of_ble_eq_true rfl) (fun uu H locs hp hG => ?_)
    obtain rfl := hp
    replace hG : gW D cy b n s H locs (enc b cy X S_8) := hG
    refine lv_aload_n hx hb dX4_labelledThings_16 rfl (lv_at hl 0 rfl) ?_
    refine lv_aload_n hx hb dX4_labelledThings_17 rfl (lv_at hl 0 rfl) ?_
    refine m_get S hG 47 47 5 rfl ec_47 cpX4 wm_440 dX4_labelledThings_18 rfl (Nat.lt_of_lt_of_le (Nat.le_of_ble_eq_true rfl) hn) (by decide) ?_
    refine lv_iconst (v := iI 0) hx hb dX4_labelledThings_21 (by decide) ?_
    obtain ⟨S_10, hc_9, hM⟩ := bd1_some hM
    refine g_vv (As := [.ref (b + 55), .int (iI 0)]) (rest := []) S hG hsz (vX4_keep_47_57 l hn 0 hc_9) wV_4_59 (ec_47 _) cpX4 (Nat.lt_of_lt_of_le (Nat.le_of_ble_eq_true rfl) hn) dX4_labelledThings_22 rfl hl.1 (ar := 2) (by decide +kernel) rfl ⟨Nat.le_of_ble_eq_true rfl, Nat.le_of_ble_eq_true rfl, Nat.le_of_ble_eq_true rfl, Nat.le_of_ble_eq_true rfl⟩ (Nat.le_of_ble_eq_true rfl) (fun uu H locs hp hG => ?_)
    obtain rfl := hp
    replace hG : gW D cy b n s H locs (enc b cy X S_10) := hG
    refine lv_aload_n hx hb dX4_labelledThings_25 rfl (lv_at hl 0 rfl) ?_
    refine lv_iconst (v := iI 1) hx hb dX4_labelledThings_26 (by decide) ?_
    refine m_put S hG 47 47 2 rfl 2 1 ec_47 cpX4 wm_437 dX4_labelledThings_27 (pf_47_2) (Nat.lt_of_lt_of_le (Nat.le_of_ble_eq_true rfl) hn) (by decide) (Nat.le_of_ble_eq_true rfl) rfl rfl rfl (fun H locs S_11 eS_11 hG => ?_)
    replace hM := nx_at hM eS_11
    clear eS_11
    cases hM
    exact hK_3 H locs ls hG (lv_sub hl [0, 1, 2] rfl)
def mX11_labelled (S0 : St) (a1 : Int) (a2 : Int) : Option (Int × St) := bd1 (mX11_sized S0 a1 a2) fun r_2 => gd (inI r_2) <| if r_2 = 0 then (some ((-2), S0)) else (bd2 (mX4_labelledThings S0 a1 a2) fun r_6 S_7 => some (r_6, S_7))
set_option maxHeartbeats 4000000 in
set_option maxRecDepth 100000 in
theorem vX11_labelled (l : Launch) {D : va_G} {cy : Nat → ClassId} {b n : Nat} (hn : 102 ≤ n) {X : Nat → va_E} {S0 : St} (a1 : Int) (a2 : Int) {o1 : Int} {o2 : St} (hM : mX11_labelled S0 a1 a2 = some (o1, o2)) : gL l yX11_labelled cX11_labelled 3 7 0 0 D cy b n (enc b cy X S0) [.ref (b + 0), .int (iI a1), .int (iI a2)] (fun r u => r = jJ o1 ∧ u = (n, enc b cy X o2)) := by
  refine gL_of (by decide) (Nat.le_of_ble_eq_true rfl) ?_
  intro p e s m args below meth c S hr hlk hin hsz ls hl hG
  have hx := S.1
  have hb := S.2.1
  have hl : lv_has ls 3 [(0, .ref (b + 0)), (1, .int (iI a1)), (2, .int (iI a2))] := hl
  replace hG : gW D cy b n s s.heap [] (enc b cy X S0) := hG
  obtain ⟨H, eH⟩ : ∃ H, H = s.heap := ⟨_, rfl⟩
  obtain ⟨locs, elocs⟩ : ∃ locs : List Loc, locs = [] := ⟨_, rfl⟩
  rw [← eH, ← elocs] at hG
  rw [← eH, ← elocs]
  clear eH elocs
  unfold mX11_labelled at hM
  refine lv_aload_n hx hb dX11_labelled_0 rfl (lv_at hl 0 rfl) ?_
  refine lv_iload_n hx hb dX11_labelled_1 rfl (lv_at hl 1 rfl) ?_
  refine lv_iload_n hx hb dX11_labelled_2 rfl (lv_at hl 2 rfl) ?_
  obtain ⟨r_2, hc_1, hM⟩ := bd1_some hM
  refine g_vi (As := [.int (iI a1), .int (iI a2)]) (rest := []) S hG hsz (vX11_sized l hn a1 a2 hc_1) wV_11_175 (ec_0 _) cpX11 (Nat.lt_of_lt_of_le (Nat.le_of_ble_eq_true rfl) hn) dX11_labelled_3 rfl hl.1 (ar := 2) (by decide +kernel) rfl ⟨Nat.le_of_ble_eq_true rfl, Nat.le_of_ble_eq_true rfl, Nat.le_of_ble_eq_true rfl, Nat.le_of_ble_eq_true rfl⟩ (Nat.le_of_ble_eq_true rfl) (fun rv uu H locs hp hG => ?_)
  obtain ⟨rfl, rfl⟩ := hp
  replace hG : gW D cy b n s H locs (enc b cy X S0) := hG
  obtain ⟨hg_3, hM⟩ := gd_some hM
  refine gi_if_eq (tgt := 21) hx hb dX11_labelled_6 (by decide) hg_3 (fun c_4 => ?_) (fun c_4 => ?_)
  · replace hM := ifp hM c_4
    refine lv_ldc2 (v := -2) hx hb S.2.2.2.1 (S.2.2.2.2 _ wm_1160) dX11_labelled_21 ?_
    refine gj_as (-2) (by decide) ?_
    cases hM
    exact g_lret S hr hlk hG hsz dX11_labelled_24 ⟨Nat.le_of_ble_eq_true rfl, Nat.le_of_ble_eq_true rfl⟩ ⟨rfl, rfl⟩
  · replace hM := ifn hM c_4
    refine lv_aload_n hx hb dX11_labelled_9 rfl (lv_at hl 0 rfl) ?_
    refine m_get S hG 0 0 8 rfl ec_0 cpX11 wm_673 dX11_labelled_10 rfl (Nat.lt_of_lt_of_le (Nat.le_of_ble_eq_true rfl) hn) (by decide) ?_
    refine lv_iload_n hx hb dX11_labelled_13 rfl (lv_at hl 1 rfl) ?_
    refine lv_iload_n hx hb dX11_labelled_14 rfl (lv_at hl 2 rfl) ?_
    obtain ⟨r_6, S_7, hc_5, hM⟩ := bd2_some hM
    refine g_vl (As := [.int (iI a1), .int (iI a2)]) (rest := []) S hG hsz (vX4_labelledThings l hn a1 a2 hc_5) wV_11_216 (ec_47 _) cpX4 (Nat.lt_of_lt_of_le (Nat.le_of_ble_eq_true rfl) hn) dX11_labelled_15 rfl hl.1 (ar := 2) (by decide +kernel) rfl ⟨Nat.le_of_ble_eq_true rfl, Nat.le_of_ble_eq_true rfl, Nat.le_of_ble_eq_true rfl, Nat.le_of_ble_eq_true rfl⟩ (Nat.le_of_ble_eq_true rfl) (fun rv uu H locs hp hG => ?_)
    obtain ⟨rfl, rfl⟩ := hp
    replace hG : gW D cy b n s H locs (enc b cy X S_7) := hG
    refine lv_goto (tgt := 24) hx hb dX11_labelled_18 (by decide) ?_
    cases hM
    exact g_lret S hr hlk hG hsz dX11_labelled_24 ⟨Nat.le_of_ble_eq_true rfl, Nat.le_of_ble_eq_true rfl⟩ ⟨rfl, rfl⟩
theorem wS_11_221 : gWS "GrownKinds" 221 yX11_lettered cX11_lettered 1 (some .boolean) := ⟨wm_1197, wm_1198, wm_177, wm_1199, by decide +kernel, by decide +kernel⟩
theorem wV_11_224 : gWV "GrownKinds" 224 yX4_markedThings cX4_markedThings 6 (some .long) := ⟨wm_1200, wm_1201, wm_1202, wm_182, wm_1203, by decide +kernel, by decide +kernel⟩
theorem wV_4_63 : gWV "GrownKinds$Ledger" 63 yX4_keepMarks cX4_keepMarks 5 none := ⟨wm_1204, wm_1206, wm_52, wm_182, wm_1207, by decide +kernel, by decide +kernel⟩
theorem wV_4_66 : gWV "GrownKinds$Ledger" 66 yX0_totalAt cX0_totalAt 4 (some .long) := ⟨wm_1208, wm_1209, wm_1210, wm_181, wm_1211, by decide +kernel, by decide +kernel⟩
def mX0_totalAt_48 (S0 : St) (a1 : Int) (a2 : Int) (a3 : Int) : Option (Int) := gd (0 ≤ (((a1 * 64) + (a2 * 8)) + a3) ∧ (((a1 * 64) + (a2 * 8)) + a3) < 384) <| gd (inL (S0 51 (((a1 * 64) + (a2 * 8)) + a3))) <| some ((min 1000000000000 (S0 51 (((a1 * 64) + (a2 * 8)) + a3))))
set_option maxHeartbeats 4000000 in
set_option maxRecDepth 100000 in
theorem vX0_totalAt_48 (l : Launch) {D : va_G} {cy : Nat → ClassId} {b n : Nat} (hn : 102 ≤ n) {X : Nat → va_E} {S0 : St} (a1 : Int) (a2 : Int) (a3 : Int) {o1 : Int} (hM : mX0_totalAt_48 S0 a1 a2 a3 = some o1) : gL l yX0_totalAt cX0_totalAt 4 1 0 0 D cy b n (enc b cy X S0) [.ref (b + 48), .int (iI a1), .int (iI a2), .int (iI a3)] (fun r u => r = jJ o1 ∧ u = (n, enc b cy X S0)) := by
  refine gL_of (by decide) (Nat.le_of_ble_eq_true rfl) ?_
  intro p e s m args below meth c S hr hlk hin hsz ls hl hG
  have hx := S.1
  have hb := S.2.1
  have hl : lv_has ls 4 [(0, .ref (b + 48)), (1, .int (iI a1)), (2, .int (iI a2)), (3, .int (iI a3))] := hl
  replace hG : gW D cy b n s s.heap [] (enc b cy X S0) := hG
  obtain ⟨H, eH⟩ : ∃ H, H = s.heap := ⟨_, rfl⟩
  obtain ⟨locs, elocs⟩ : ∃ locs : List Loc, locs = [] := ⟨_, rfl⟩
  rw [← eH, ← elocs] at hG
  rw [← eH, ← elocs]
  clear eH elocs
  unfold mX0_totalAt_48 at hM
  refine lv_ldc2 (v := 1000000000000) hx hb S.2.2.2.1 (S.2.2.2.2 _ wm_1147) dX0_totalAt_0 ?_
  refine gj_as 1000000000000 (by decide) ?_
  refine lv_aload_n hx hb dX0_totalAt_3 rfl (lv_at hl 0 rfl) ?_
  refine m_get S hG 48 48 4 rfl ec_48 cpX0 wm_407 dX0_totalAt_4 rfl (Nat.lt_of_lt_of_le (Nat.le_of_ble_eq_true rfl) hn) (by decide) ?_
  refine lv_iload_n hx hb dX0_totalAt_7 rfl (lv_at hl 1 rfl) ?_
  refine lv_bipush (v := iI 64) hx hb dX0_totalAt_8 (by decide) ?_
  refine gi_mul hx hb dX0_totalAt_10 ?_
  refine lv_iload_n hx hb dX0_totalAt_11 rfl (lv_at hl 2 rfl) ?_
  refine lv_bipush (v := iI 8) hx hb dX0_totalAt_12 (by decide) ?_
  refine gi_mul hx hb dX0_totalAt_14 ?_
  refine gi_add hx hb dX0_totalAt_15 ?_
  refine lv_iload_n hx hb dX0_totalAt_16 rfl (lv_at hl 3 rfl) ?_
  refine gi_add hx hb dX0_totalAt_17 ?_
  obtain ⟨hg_1, hM⟩ := gd_some hM
  refine mj_ald S hG 51 51 rfl ec_51 (Nat.lt_of_lt_of_le (Nat.le_of_ble_eq_true rfl) hn) dX0_totalAt_18 hg_1 (by decide) ?_
  obtain ⟨hg_2, hM⟩ := gd_some hM
  refine gj_min S wm_1148 wm_1149 wm_190 wm_1150 hl.1 dX0_totalAt_19 ⟨Nat.le_of_ble_eq_true rfl, Nat.le_of_ble_eq_true rfl, Nat.le_of_ble_eq_true rfl, Nat.le_of_ble_eq_true rfl⟩ (by decide) hg_2 ?_
  cases hM
  exact g_lret S hr hlk hG hsz dX0_totalAt_22 ⟨Nat.le_of_ble_eq_true rfl, Nat.le_of_ble_eq_true rfl⟩ ⟨rfl, rfl⟩
def mX4_keepMarks_29 (v_11 : Int) (v_1 : Int) (a1 : Int) : Nat → Int → St → Option (St)
  | 0, _, _ => none
  | f + 1, v_21, S_22 => gd (inI v_21) <| if v_11 < v_21 then (some (S_22)) else (bd1 (mX0_totalAt_48 S_22 v_1 v_11 v_21) fun r_32 => gd (0 ≤ (((a1 + (v_1 * 64)) + (v_11 * 8)) + v_21) ∧ (((a1 + (v_1 * 64)) + (v_11 * 8)) + v_21) < 9984) <| nx (up S_22 58 (((a1 + (v_1 * 64)) + (v_11 * 8)) + v_21) r_32) fun S_34 => mX4_keepMarks_29 v_11 v_1 a1 f (v_21 + 1) S_34)
def mX4_keepMarks_15 (v_1 : Int) (a1 : Int) : Nat → Int → St → Option (St)
  | 0, _, _ => none
  | f + 1, v_11, S_12 => gd ((inI v_11) ∧ (inI (S_12 2 0))) <| if (S_12 2 0) < v_11 then (some (S_12)) else (bd1 (mX4_keepMarks_29 v_11 v_1 a1 FU 0 S_12) fun S_23 => mX4_keepMarks_15 v_1 a1 f (v_11 + 1) S_23)
def mX4_keepMarks_2 (a1 : Int) : Nat → Int → St → Option (St)
  | 0, _, _ => none
  | f + 1, v_1, S_2 => gd ((inI v_1) ∧ (inI (S_2 2 1))) <| if (S_2 2 1) ≤ v_1 then (some (S_2)) else (bd1 (mX4_keepMarks_15 v_1 a1 FU 0 S_2) fun S_13 => mX4_keepMarks_2 a1 f (v_1 + 1) S_13)
def mX4_keepMarks (S0 : St) (a1 : Int) : Option (St) := bd1 (mX4_keepMarks_2 a1 FU 0 S0) fun S_3 => some (S_3)
set_option maxHeartbeats 4000000 in
set_option maxRecDepth 100000 in
theorem vX4_keepMarks (l : Launch) {D : va_G} {cy : Nat → ClassId} {b n : Nat} (hn : 102 ≤ n) {X : Nat → va_E} {S0 : St} (a1 : Int) {o1 : St} (hM : mX4_keepMarks S0 a1 = some o1) : gV l yX4_keepMarks cX4_keepMarks 5 2 0 0 D cy b n (enc b cy X S0) [.ref (b + 47), .int (iI a1)] (fun u => u = (n, enc b cy X o1)) := by
  refine gV_of (by decide) (Nat.le_of_ble_eq_true rfl) ?_
  intro p e s m args below meth c S hr hlk hin hsz ls hl hG
  have hx := S.1
  have hb := S.2.1
  have hl : lv_has ls 5 [(0, .ref (b + 47)), (1, .int (iI a1))] := hl
  replace hG : gW D cy b n s s.heap [] (enc b cy X S0) := hG
  obtain ⟨H, eH⟩ : ∃ H, H = s.heap := ⟨_, rfl⟩
  obtain ⟨locs, elocs⟩ : ∃ locs : List Loc, locs = [] := ⟨_, rfl⟩
  rw [← eH, ← elocs] at hG
  rw [← eH, ← elocs]
  clear eH elocs
  unfold mX4_keepMarks at hM
  refine lv_iconst (v := iI 0) hx hb dX4_keepMarks_0 (by decide) ?_
  refine lv_istore_n (lv' := [(2, .int (iI 0)), (0, .ref (b + 47)), (1, .int (iI a1))]) hx hb dX4_keepMarks_1 rfl hl (by decide) rfl (fun ls hl => ?_)
  obtain ⟨S_3, hc_4, hM⟩ := bd1_some hM
  have hK_5 : ∀ (H : Heap) (locs : List Loc) (ls : Array Slot), gW D cy b n s H locs (enc b cy X S_3) → lv_has ls 5 [] → W p l e (gRm 2 0 0) s m args below meth c H locs 0 0 (gQV D cy b s args below 0 0 (fun u => u = (n, enc b cy X o1))) (F0 m 83 ls []) := by
    intro H locs ls hG hl
    cases hM
    exact g_vret S hr hlk hG hsz dX4_keepMarks_83 ⟨Nat.le_of_ble_eq_true rfl, Nat.le_of_ble_eq_true rfl⟩ rfl
  have loop_6 : ∀ (f : Nat) (v_1 : Int) (S_2 : St) (H : Heap) (locs : List Loc) (ls : Array Slot), mX4_keepMarks_2 a1 f v_1 S_2 = some S_3 → gW D cy b n s H locs (enc b cy X S_2) → lv_has ls 5 [(2, .int (iI v_1)), (0, .ref (b + 47)), (1, .int (iI a1))] → W p l e (gRm 2 0 0) s m args below meth c H locs 0 0 (gQV D cy b s args below 0 0 (fun u => u = (n, enc b cy X o1))) (F0 m 2 ls []) := by
    clear hM
    intro f
    induction f with
    | zero => intro v_1 S_2 H locs ls hM; rw [mX4_keepMarks_2] at hM; cases hM
    | succ f_8 ih_7 =>
      intro v_1 S_2 H locs ls hM hG hl
      rw [mX4_keepMarks_2] at hM
      refine lv_iload_n hx hb dX4_keepMarks_2 rfl (lv_at hl 0 rfl) ?_
      refine lv_aload_n hx hb dX4_keepMarks_3 rfl (lv_at hl 1 rfl) ?_
      refine m_get S hG 47 47 0 rfl ec_47 cpX4 wm_435 dX4_keepMarks_4 rfl (Nat.lt_of_lt_of_le (Nat.le_of_ble_eq_true rfl) hn) (by decide) ?_
      refine m_get S hG 2 2 1 rfl ec_2 cpX2 wm_221 dX4_keepMarks_7 rfl (Nat.lt_of_lt_of_le (Nat.le_of_ble_eq_true rfl) hn) (by decide) ?_
      obtain ⟨hg_9, hM⟩ := gd_some hM
      refine gi_icmp_ge (tgt := 83) hx hb dX4_keepMarks_10 (by decide) hg_9.1 hg_9.2 (fun c_10 => ?_) (fun c_10 => ?_)
      · replace hM := ifp hM c_10
        cases hM
        exact hK_5 H locs ls hG (lv_sub hl [] rfl)
      · replace hM := ifn hM c_10
        refine lv_iconst (v := iI 0) hx hb dX4_keepMarks_13 (by decide) ?_
        refine lv_istore_n (lv' := [(3, .int (iI 0)), (2, .int (iI v_1)), (0, .ref (b + 47)), (1, .int (iI a1))]) hx hb dX4_keepMarks_14 rfl hl (by decide) rfl (fun ls hl => ?_)
        obtain ⟨S_13, hc_14, hM⟩ := bd1_some hM
        have hK_15 : ∀ (H : Heap) (locs : List Loc) (ls : Array Slot), gW D cy b n s H locs (enc b cy X S_13) → lv_has ls 5 [(2, .int (iI v_1)), (0, .ref (b + 47)), (1, .int (iI a1))] → W p l e (gRm 2 0 0) s m args below meth c H locs 0 0 (gQV D cy b s args below 0 0 (fun u => u = (n, enc b cy X o1))) (F0 m 77 ls []) := by
          intro H locs ls hG hl
          refine lv_iinc (v := iI (v_1 + 1)) (lv' := [(2, .int (iI (v_1 + 1))), (0, .ref (b + 47)), (1, .int (iI a1))]) hx hb dX4_keepMarks_77 hl (k := 0) rfl ((iI_add v_1 (1)).trans (congrArg iI (by omega))) (by decide) rfl (fun ls hl => ?_)
          refine lv_goto (tgt := 2) hx hb dX4_keepMarks_80 (by decide) ?_
          exact ih_7 (v_1 + 1) S_13 H locs ls hM hG (lv_sub hl [0, 1, 2] rfl)
        have loop_16 : ∀ (f : Nat) (v_11 : Int) (S_12 : St) (H : Heap) (locs : List Loc) (ls : Array Slot), mX4_keepMarks_15 v_1 a1 f v_11 S_12 = some S_13 → gW D cy b n s H locs (enc b cy X S_12) → lv_has ls 5 [(3, .int (iI v_11)), (2, .int (iI v_1)), (0, .ref (b + 47)), (1, .int (iI a1))] → W p l e (gRm 2 0 0) s m args below meth c H locs 0 0 (gQV D cy b s args below 0 0 (fun u => u = (n, enc b cy X o1))) (F0 m 15 ls []) := by
          clear hM
          intro f
          induction f with
          | zero => intro v_11 S_12 H locs ls hM; rw [mX4_keepMarks_15] at hM; cases hM
          | succ f_18 ih_17 =>
            intro v_11 S_12 H locs ls hM hG hl
            rw [mX4_keepMarks_15] at hM
            refine lv_iload_n hx hb dX4_keepMarks_15 rfl (lv_at hl 0 rfl) ?_
            refine lv_aload_n hx hb dX4_keepMarks_16 rfl (lv_at hl 2 rfl) ?_
            refine m_get S hG 47 47 0 rfl ec_47 cpX4 wm_435 dX4_keepMarks_17 rfl (Nat.lt_of_lt_of_le (Nat.le_of_ble_eq_true rfl) hn) (by decide) ?_
            refine m_get S hG 2 2 0 rfl ec_2 cpX2 wm_214 dX4_keepMarks_20 rfl (Nat.lt_of_lt_of_le (Nat.le_of_ble_eq_true rfl) hn) (by decide) ?_
            obtain ⟨hg_19, hM⟩ := gd_some hM
            refine gi_icmp_gt (tgt := 77) hx hb dX4_keepMarks_23 (by decide) hg_19.1 hg_19.2 (fun c_20 => ?_) (fun c_20 => ?_)
            · replace hM := ifp hM c_20
              cases hM
              exact hK_15 H locs ls hG (lv_sub hl [1, 2, 3] rfl)
            · replace hM := ifn hM c_20
              refine lv_iconst (v := iI 0) hx hb dX4_keepMarks_26 (by decide) ?_
              refine lv_istore (lv' := [(4, .int (iI 0)), (3, .int (iI v_11)), (2, .int (iI v_1)), (0, .ref (b + 47)), (1, .int (iI a1))]) hx hb dX4_keepMarks_27 hl (by decide) rfl (fun ls hl => ?_)
              obtain ⟨S_23, hc_24, hM⟩ := bd1_some hM
              have hK_25 : ∀ (H : Heap) (locs : List Loc) (ls : Array Slot), gW D cy b n s H locs (enc b cy X S_23) → lv_has ls 5 [(3, .int (iI v_11)), (2, .int (iI v_1)), (0, .ref (b + 47)), (1, .int (iI a1))] → W p l e (gRm 2 0 0) s m args below meth c H locs 0 0 (gQV D cy b s args below 0 0 (fun u => u = (n, enc b cy X o1))) (F0 m 71 ls []) := by
                intro H locs ls hG hl
                refine lv_iinc (v := iI (v_11 + 1)) (lv' := [(3, .int (iI (v_11 + 1))), (2, .int (iI v_1)), (0, .ref (b + 47)), (1, .int (iI a1))]) hx hb dX4_keepMarks_71 hl (k := 0) rfl ((iI_add v_11 (1)).trans (congrArg iI (by omega))) (by decide) rfl (fun ls hl => ?_)
                refine lv_goto (tgt := 15) hx hb dX4_keepMarks_74 (by decide) ?_
                exact ih_17 (v_11 + 1) S_23 H locs ls hM hG (lv_sub hl [0, 1, 2, 3] rfl)
              have loop_26 : ∀ (f : Nat) (v_21 : Int) (S_22 : St) (H : Heap) (locs : List Loc) (ls : Array Slot), mX4_keepMarks_29 v_11 v_1 a1 f v_21 S_22 = some S_23 → gW D cy b n s H locs (enc b cy X S_22) → lv_has ls 5 [(4, .int (iI v_21)), (3, .int (iI v_11)), (2, .int (iI v_1)), (0, .ref (b + 47)), (1, .int (iI a1))] → W p l e (gRm 2 0 0) s m args below meth c H locs 0 0 (gQV D cy b s args below 0 0 (fun u => u = (n, enc b cy X o1))) (F0 m 29 ls []) := by
                clear hM
                intro f
                induction f with
                | zero => intro v_21 S_22 H locs ls hM; rw [mX4_keepMarks_29] at hM; cases hM
                | succ f_28 ih_27 =>
                  intro v_21 S_22 H locs ls hM hG hl
                  rw [mX4_keepMarks_29] at hM
                  refine lv_iload hx hb dX4_keepMarks_29 (lv_at hl 0 rfl) ?_
                  refine lv_iload_n hx hb dX4_keepMarks_31 rfl (lv_at hl 1 rfl) ?_
                  obtain ⟨hg_29, hM⟩ := gd_some hM
                  refine gi_icmp_gt (tgt := 71) hx hb dX4_keepMarks_32 (by decide) hg_29 hg_19.1 (fun c_30 => ?_) (fun c_30 => ?_)
                  · replace hM := ifp hM c_30
                    cases hM
                    exact hK_25 H locs ls hG (lv_sub hl [1, 2, 3, 4] rfl)
                  · replace hM := ifn hM c_30
                    refine lv_aload_n hx hb dX4_keepMarks_35 rfl (lv_at hl 3 rfl) ?_
                    refine m_get S hG 47 47 6 rfl ec_47 cpX4 wm_441 dX4_keepMarks_36 rfl (Nat.lt_of_lt_of_le (Nat.le_of_ble_eq_true rfl) hn) (by decide) ?_
                    refine lv_iload_n hx hb dX4_keepMarks_39 rfl (lv_at hl 4 rfl) ?_
                    refine lv_iload_n hx hb dX4_keepMarks_40 rfl (lv_at hl 2 rfl) ?_
                    refine lv_bipush (v := iI 64) hx hb dX4_keepMarks_41 (by decide) ?_
                    refine gi_mul hx hb dX4_keepMarks_43 ?_
                    refine gi_add hx hb dX4_keepMarks_44 ?_
                    refine lv_iload_n hx hb dX4_keepMarks_45 rfl (lv_at hl 1 rfl) ?_
                    refine lv_bipush (v := iI 8) hx hb dX4_keepMarks_46 (by decide) ?_
                    refine gi_mul hx hb dX4_keepMarks_48 ?_
                    refine gi_add hx hb dX4_keepMarks_49 ?_
                    refine lv_iload hx hb dX4_keepMarks_50 (lv_at hl 0 rfl) ?_
                    refine gi_add hx hb dX4_keepMarks_52 ?_
                    refine lv_aload_n hx hb dX4_keepMarks_53 rfl (lv_at hl 3 rfl) ?_
                    refine m_get S hG 47 47 1 rfl ec_47 cpX4 wm_436 dX4_keepMarks_54 rfl (Nat.lt_of_lt_of_le (Nat.le_of_ble_eq_true rfl) hn) (by decide) ?_
                    refine lv_iload_n hx hb dX4_keepMarks_57 rfl (lv_at hl 2 rfl) ?_
                    refine lv_iload_n hx hb dX4_keepMarks_58 rfl (lv_at hl 1 rfl) ?_
                    refine lv_iload hx hb dX4_keepMarks_59 (lv_at hl 0 rfl) ?_
                    obtain ⟨r_32, hc_31, hM⟩ := bd1_some hM
                    refine g_vl (As := [.int (iI v_1), .int (iI v_11), .int (iI v_21)]) (rest := [.int (iI (((a1 + (v_1 * 64)) + (v_11 * 8)) + v_21)), .ref (b + 56)]) S hG hsz (vX0_totalAt_48 l hn v_1 v_11 v_21 hc_31) wV_4_66 (ec_48 _) cpX0 (Nat.lt_of_lt_of_le (Nat.le_of_ble_eq_true rfl) hn) dX4_keepMarks_61 rfl hl.1 (ar := 3) (by decide +kernel) rfl ⟨Nat.le_of_ble_eq_true rfl, Nat.le_of_ble_eq_true rfl, Nat.le_of_ble_eq_true rfl, Nat.le_of_ble_eq_true rfl⟩ (Nat.le_of_ble_eq_true rfl) (fun rv uu H locs hp hG => ?_)
                    obtain ⟨rfl, rfl⟩ := hp
                    replace hG : gW D cy b n s H locs (enc b cy X S_22) := hG
                    obtain ⟨hg_33, hM⟩ := gd_some hM
                    refine mj_ast S hG 56 58 rfl ec_58 (Nat.lt_of_lt_of_le (Nat.le_of_ble_eq_true rfl) hn) dX4_keepMarks_64 hg_33 (by decide) (fun H locs S_34 eS_34 hG => ?_)
                    replace hM := nx_at hM eS_34
                    clear eS_34
                    refine lv_iinc (v := iI (v_21 + 1)) (lv' := [(4, .int (iI (v_21 + 1))), (3, .int (iI v_11)), (2, .int (iI v_1)), (0, .ref (b + 47)), (1, .int (iI a1))]) hx hb dX4_keepMarks_65 hl (k := 0) rfl ((iI_add v_21 (1)).trans (congrArg iI (by omega))) (by decide) rfl (fun ls hl => ?_)
                    refine lv_goto (tgt := 29) hx hb dX4_keepMarks_68 (by decide) ?_
                    exact ih_27 (v_21 + 1) S_34 H locs ls hM hG (lv_sub hl [0, 1, 2, 3, 4] rfl)
              exact loop_26 FU 0 S_12 H locs ls hc_24 hG (lv_sub hl [0, 1, 2, 3, 4] rfl)
        exact loop_16 FU 0 S_2 H locs ls hc_14 hG (lv_sub hl [0, 1, 2, 3] rfl)
  exact loop_6 FU 0 S0 H locs ls hc_4 hG (lv_sub hl [0, 1, 2] rfl)
def mX4_markedThings (S0 : St) (a1 : Int) (a2 : Int) (a3 : Int) (a4 : Int) : Option (Int × St) := nx ((a3 * 48) * 8) fun x_1 => bd1 (gd (inI (an (shr (S0 47 3) a3) 1)) <| if (an (shr (S0 47 3) a3) 1) = 0 then (bd1 (mX0_take_48 S0 a3) fun S_11 => bd1 (mX4_keepMarks S_11 x_1) fun S_13 => nx (up S_13 47 3 (orr (S_13 47 3) (shl 1 a3))) fun S_14 => some (S_14)) else (some (S0))) fun S_2 => gd ((inI a4) ∧ (inI a2)) <| if a4 ≤ a2 then (gd (0 ≤ (((x_1 + (a1 * 64)) + (a2 * 8)) + a4) ∧ (((x_1 + (a1 * 64)) + (a2 * 8)) + a4) < 9984) <| some ((S_2 58 (((x_1 + (a1 * 64)) + (a2 * 8)) + a4)), S_2)) else (some (0, S_2))
set_option maxHeartbeats 4000000 in
set_option maxRecDepth 100000 in
theorem vX4_markedThings (l : Launch) {D : va_G} {cy : Nat → ClassId} {b n : Nat} (hn : 102 ≤ n) {X : Nat → va_E} {S0 : St} (a1 : Int) (a2 : Int) (a3 : Int) (a4 : Int) {o1 : Int} {o2 : St} (hM : mX4_markedThings S0 a1 a2 a3 a4 = some (o1, o2)) : gL l yX4_markedThings cX4_markedThings 6 6 0 0 D cy b n (enc b cy X S0) [.ref (b + 47), .int (iI a1), .int (iI a2), .int (iI a3), .int (iI a4)] (fun r u => r = jJ o1 ∧ u = (n, enc b cy X o2)) := by
  refine gL_of (by decide) (Nat.le_of_ble_eq_true rfl) ?_
  intro p e s m args below meth c S hr hlk hin hsz ls hl hG
  have hx := S.1
  have hb := S.2.1
  have hl : lv_has ls 6 [(0, .ref (b + 47)), (1, .int (iI a1)), (2, .int (iI a2)), (3, .int (iI a3)), (4, .int (iI a4))] := hl
  replace hG : gW D cy b n s s.heap [] (enc b cy X S0) := hG
  obtain ⟨H, eH⟩ : ∃ H, H = s.heap := ⟨_, rfl⟩
  obtain ⟨locs, elocs⟩ : ∃ locs : List Loc, locs = [] := ⟨_, rfl⟩
  rw [← eH, ← elocs] at hG
  rw [← eH, ← elocs]
  clear eH elocs
  unfold mX4_markedThings at hM
  refine lv_iload_n hx hb dX4_markedThings_0 rfl (lv_at hl 3 rfl) ?_
  refine lv_bipush (v := iI 48) hx hb dX4_markedThings_1 (by decide) ?_
  refine gi_mul hx hb dX4_markedThings_3 ?_
  refine lv_bipush (v := iI 8) hx hb dX4_markedThings_4 (by decide) ?_
  refine gi_mul hx hb dX4_markedThings_6 ?_
  refine gi_nm (fun x_1 ex_1 => ?_)
  replace hM := nx_at hM ex_1
  clear ex_1
  refine lv_istore (lv' := [(5, .int (iI x_1)), (0, .ref (b + 47)), (1, .int (iI a1)), (2, .int (iI a2)), (3, .int (iI a3)), (4, .int (iI a4))]) hx hb dX4_markedThings_7 hl (by decide) rfl (fun ls hl => ?_)
  refine lv_aload_n hx hb dX4_markedThings_9 rfl (lv_at hl 1 rfl) ?_
  refine m_get S hG 47 47 3 rfl ec_47 cpX4 wm_438 dX4_markedThings_10 rfl (Nat.lt_of_lt_of_le (Nat.le_of_ble_eq_true rfl) hn) (by decide) ?_
  refine lv_iload_n hx hb dX4_markedThings_13 rfl (lv_at hl 4 rfl) ?_
  refine gi_shr hx hb dX4_markedThings_14 ?_
  refine lv_iconst (v := iI 1) hx hb dX4_markedThings_15 (by decide) ?_
  refine gi_and hx hb dX4_markedThings_16 ?_
  obtain ⟨S_2, hc_3, hM⟩ := bd1_some hM
  have hK_4 : ∀ (H : Heap) (locs : List Loc) (ls : Array Slot), gW D cy b n s H locs (enc b cy X S_2) → lv_has ls 6 [(5, .int (iI x_1)), (0, .ref (b + 47)), (1, .int (iI a1)), (2, .int (iI a2)), (4, .int (iI a4))] → W p l e (gRm 6 0 0) s m args below meth c H locs 0 0 (gQL D cy b s args below 0 0 (fun r u => r = jJ o1 ∧ u = (n, enc b cy X o2))) (F0 m 46 ls []) := by
    intro H locs ls hG hl
    refine lv_iload hx hb dX4_markedThings_46 (lv_at hl 4 rfl) ?_
    refine lv_iload_n hx hb dX4_markedThings_48 rfl (lv_at hl 3 rfl) ?_
    obtain ⟨hg_5, hM⟩ := gd_some hM
    refine gi_icmp_le (tgt := 56) hx hb dX4_markedThings_49 (by decide) hg_5.1 hg_5.2 (fun c_6 => ?_) (fun c_6 => ?_)
    · replace hM := ifp hM c_6
      refine lv_aload_n hx hb dX4_markedThings_56 rfl (lv_at hl 1 rfl) ?_
      refine m_get S hG 47 47 6 rfl ec_47 cpX4 wm_441 dX4_markedThings_57 rfl (Nat.lt_of_lt_of_le (Nat.le_of_ble_eq_true rfl) hn) (by decide) ?_
      refine lv_iload hx hb dX4_markedThings_60 (lv_at hl 0 rfl) ?_
      refine lv_iload_n hx hb dX4_markedThings_62 rfl (lv_at hl 2 rfl) ?_
      refine lv_bipush (v := iI 64) hx hb dX4_markedThings_63 (by decide) ?_
      refine gi_mul hx hb dX4_markedThings_65 ?_
      refine gi_add hx hb dX4_markedThings_66 ?_
      refine lv_iload_n hx hb dX4_markedThings_67 rfl (lv_at hl 3 rfl) ?_
      refine lv_bipush (v := iI 8) hx hb dX4_markedThings_68 (by decide) ?_
      refine gi_mul hx hb dX4_markedThings_70 ?_
      refine gi_add hx hb dX4_markedThings_71 ?_
      refine lv_iload hx hb dX4_markedThings_72 (lv_at hl 4 rfl) ?_
      refine gi_add hx hb dX4_markedThings_74 ?_
      obtain ⟨hg_7, hM⟩ := gd_some hM
      refine mj_ald S hG 56 58 rfl ec_58 (Nat.lt_of_lt_of_le (Nat.le_of_ble_eq_true rfl) hn) dX4_markedThings_75 hg_7 (by decide) ?_
      cases hM
      exact g_lret S hr hlk hG hsz dX4_markedThings_76 ⟨Nat.le_of_ble_eq_true rfl, Nat.le_of_ble_eq_true rfl⟩ ⟨rfl, rfl⟩
    · replace hM := ifn hM c_6
      refine lv_lconst (v := jJ 0) hx hb dX4_markedThings_52 (by decide) ?_
      refine lv_goto (tgt := 76) hx hb dX4_markedThings_53 (by decide) ?_
      cases hM
      exact g_lret S hr hlk hG hsz dX4_markedThings_76 ⟨Nat.le_of_ble_eq_true rfl, Nat.le_of_ble_eq_true rfl⟩ ⟨rfl, rfl⟩
  clear hM
  replace hM := hc_3
  obtain ⟨hg_8, hM⟩ := gd_some hM
  refine gi_if_ne (tgt := 46) hx hb dX4_markedThings_17 (by decide) hg_8 (fun c_9 => ?_) (fun c_9 => ?_)
  · replace hM := ifn hM c_9
    cases hM
    exact hK_4 H locs ls hG (lv_sub hl [0, 1, 2, 3, 5] rfl)
  · replace hM := ifp hM c_9
    refine lv_aload_n hx hb dX4_markedThings_20 rfl (lv_at hl 1 rfl) ?_
    refine m_get S hG 47 47 1 rfl ec_47 cpX4 wm_436 dX4_markedThings_21 rfl (Nat.lt_of_lt_of_le (Nat.le_of_ble_eq_true rfl) hn) (by decide) ?_
    refine lv_iload_n hx hb dX4_markedThings_24 rfl (lv_at hl 4 rfl) ?_
    obtain ⟨S_11, hc_10, hM⟩ := bd1_some hM
    refine g_vv (As := [.int (iI a3)]) (rest := []) S hG hsz (vX0_take_48 l hn a3 hc_10) wV_4_55 (ec_48 _) cpX0 (Nat.lt_of_lt_of_le (Nat.le_of_ble_eq_true rfl) hn) dX4_markedThings_25 rfl hl.1 (ar := 1) (by decide +kernel) rfl ⟨Nat.le_of_ble_eq_true rfl, Nat.le_of_ble_eq_true rfl, Nat.le_of_ble_eq_true rfl, Nat.le_of_ble_eq_true rfl⟩ (Nat.le_of_ble_eq_true rfl) (fun uu H locs hp hG => ?_)
    obtain rfl := hp
    replace hG : gW D cy b n s H locs (enc b cy X S_11) := hG
    refine lv_aload_n hx hb dX4_markedThings_28 rfl (lv_at hl 1 rfl) ?_
    refine lv_iload hx hb dX4_markedThings_29 (lv_at hl 0 rfl) ?_
    obtain ⟨S_13, hc_12, hM⟩ := bd1_some hM
    refine g_vv (As := [.int (iI x_1)]) (rest := []) S hG hsz (vX4_keepMarks l hn x_1 hc_12) wV_4_63 (ec_47 _) cpX4 (Nat.lt_of_lt_of_le (Nat.le_of_ble_eq_true rfl) hn) dX4_markedThings_31 rfl hl.1 (ar := 1) (by decide +kernel) rfl ⟨Nat.le_of_ble_eq_true rfl, Nat.le_of_ble_eq_true rfl, Nat.le_of_ble_eq_true rfl, Nat.le_of_ble_eq_true rfl⟩ (Nat.le_of_ble_eq_true rfl) (fun uu H locs hp hG => ?_)
    obtain rfl := hp
    replace hG : gW D cy b n s H locs (enc b cy X S_13) := hG
    refine lv_aload_n hx hb dX4_markedThings_34 rfl (lv_at hl 1 rfl) ?_
    refine lv_dup hx hb dX4_markedThings_35 rfl ?_
    refine m_get S hG 47 47 3 rfl ec_47 cpX4 wm_438 dX4_markedThings_36 rfl (Nat.lt_of_lt_of_le (Nat.le_of_ble_eq_true rfl) hn) (by decide) ?_
    refine lv_iconst (v := iI 1) hx hb dX4_markedThings_39 (by decide) ?_
    refine lv_iload_n hx hb dX4_markedThings_40 rfl (lv_at hl 4 rfl) ?_
    refine gi_shl hx hb dX4_markedThings_41 ?_
    refine gi_or hx hb dX4_markedThings_42 ?_
    refine m_put S hG 47 47 3 rfl 3 (orr (S_13 47 3) (shl 1 a3)) ec_47 cpX4 wm_438 dX4_markedThings_43 (pf_47_3) (Nat.lt_of_lt_of_le (Nat.le_of_ble_eq_true rfl) hn) (by decide) (Nat.le_of_ble_eq_true rfl) rfl rfl rfl (fun H locs S_14 eS_14 hG => ?_)
    replace hM := nx_at hM eS_14
    clear eS_14
    cases hM
    exact hK_4 H locs ls hG (lv_sub hl [0, 1, 2, 3, 5] rfl)
def mX11_marked (S0 : St) (a1 : Int) (a2 : Int) (a3 : Int) (a4 : Int) : Option (Int × St) := bd1 (mX11_sized S0 a1 a2) fun r_2 => gd (inI r_2) <| if r_2 = 0 then (some ((-2), S0)) else (bd1 (mX11_lettered a3) fun r_6 => gd (inI r_6) <| if r_6 = 0 then (some ((-2), S0)) else (gd (inI a4) <| if a4 < 0 then (some ((-2), S0)) else (if a4 < 8 then (bd2 (mX4_markedThings S0 a1 a2 a3 a4) fun r_13 S_14 => some (r_13, S_14)) else (some ((-2), S0)))))
set_option maxHeartbeats 4000000 in
set_option maxRecDepth 100000 in
theorem vX11_marked (l : Launch) {D : va_G} {cy : Nat → ClassId} {b n : Nat} (hn : 102 ≤ n) {X : Nat → va_E} {S0 : St} (a1 : Int) (a2 : Int) (a3 : Int) (a4 : Int) {o1 : Int} {o2 : St} (hM : mX11_marked S0 a1 a2 a3 a4 = some (o1, o2)) : gL l yX11_marked cX11_marked 5 7 0 0 D cy b n (enc b cy X S0) [.ref (b + 0), .int (iI a1), .int (iI a2), .int (iI a3), .int (iI a4)] (fun r u => r = jJ o1 ∧ u = (n, enc b cy X o2)) := by
  refine gL_of (by decide) (Nat.le_of_ble_eq_true rfl) ?_
  intro p e s m args below meth c S hr hlk hin hsz ls hl hG
  have hx := S.1
  have hb := S.2.1
  have hl : lv_has ls 5 [(0, .ref (b + 0)), (1, .int (iI a1)), (2, .int (iI a2)), (3, .int (iI a3)), (4, .int (iI a4))] := hl
  replace hG : gW D cy b n s s.heap [] (enc b cy X S0) := hG
  obtain ⟨H, eH⟩ : ∃ H, H = s.heap := ⟨_, rfl⟩
  obtain ⟨locs, elocs⟩ : ∃ locs : List Loc, locs = [] := ⟨_, rfl⟩
  rw [← eH, ← elocs] at hG
  rw [← eH, ← elocs]
  clear eH elocs
  unfold mX11_marked at hM
  refine lv_aload_n hx hb dX11_marked_0 rfl (lv_at hl 0 rfl) ?_
  refine lv_iload_n hx hb dX11_marked_1 rfl (lv_at hl 1 rfl) ?_
  refine lv_iload_n hx hb dX11_marked_2 rfl (lv_at hl 2 rfl) ?_
  obtain ⟨r_2, hc_1, hM⟩ := bd1_some hM
  refine g_vi (As := [.int (iI a1), .int (iI a2)]) (rest := []) S hG hsz (vX11_sized l hn a1 a2 hc_1) wV_11_175 (ec_0 _) cpX11 (Nat.lt_of_lt_of_le (Nat.le_of_ble_eq_true rfl) hn) dX11_marked_3 rfl hl.1 (ar := 2) (by decide +kernel) rfl ⟨Nat.le_of_ble_eq_true rfl, Nat.le_of_ble_eq_true rfl, Nat.le_of_ble_eq_true rfl, Nat.le_of_ble_eq_true rfl⟩ (Nat.le_of_ble_eq_true rfl) (fun rv uu H locs hp hG => ?_)
  obtain ⟨rfl, rfl⟩ := hp
  replace hG : gW D cy b n s H locs (enc b cy X S0) := hG
  obtain ⟨hg_3, hM⟩ := gd_some hM
  refine gi_if_eq (tgt := 28) hx hb dX11_marked_6 (by decide) hg_3 (fun c_4 => ?_) (fun c_4 => ?_)
  · replace hM := ifp hM c_4
    refine lv_ldc2 (v := -2) hx hb S.2.2.2.1 (S.2.2.2.2 _ wm_1160) dX11_marked_28 ?_
    refine gj_as (-2) (by decide) ?_
    cases hM
    exact g_lret S hr hlk hG hsz dX11_marked_31 ⟨Nat.le_of_ble_eq_true rfl, Nat.le_of_ble_eq_true rfl⟩ ⟨rfl, rfl⟩
  · replace hM := ifn hM c_4
    refine lv_iload_n hx hb dX11_marked_9 rfl (lv_at hl 3 rfl) ?_
    obtain ⟨r_6, hc_5, hM⟩ := bd1_some hM
    refine g_si (As := [.int (iI a3)]) (rest := []) S hG hsz (vX11_lettered l hn a3 hc_5) wS_11_221 dX11_marked_10 rfl hl.1 (ar := 1) (by decide +kernel) rfl ⟨Nat.le_of_ble_eq_true rfl, Nat.le_of_ble_eq_true rfl, Nat.le_of_ble_eq_true rfl, Nat.le_of_ble_eq_true rfl⟩ (Nat.le_of_ble_eq_true rfl) (fun rv uu H locs hp hG => ?_)
    obtain ⟨rfl, rfl⟩ := hp
    replace hG : gW D cy b n s H locs (enc b cy X S0) := hG
    obtain ⟨hg_7, hM⟩ := gd_some hM
    refine gi_if_eq (tgt := 28) hx hb dX11_marked_13 (by decide) hg_7 (fun c_8 => ?_) (fun c_8 => ?_)
    · replace hM := ifp hM c_8
      refine lv_ldc2 (v := -2) hx hb S.2.2.2.1 (S.2.2.2.2 _ wm_1160) dX11_marked_28 ?_
      refine gj_as (-2) (by decide) ?_
      cases hM
      exact g_lret S hr hlk hG hsz dX11_marked_31 ⟨Nat.le_of_ble_eq_true rfl, Nat.le_of_ble_eq_true rfl⟩ ⟨rfl, rfl⟩
    · replace hM := ifn hM c_8
      refine lv_iload hx hb dX11_marked_16 (lv_at hl 4 rfl) ?_
      obtain ⟨hg_9, hM⟩ := gd_some hM
      refine gi_if_lt (tgt := 28) hx hb dX11_marked_18 (by decide) hg_9 (fun c_10 => ?_) (fun c_10 => ?_)
      · replace hM := ifp hM c_10
        refine lv_ldc2 (v := -2) hx hb S.2.2.2.1 (S.2.2.2.2 _ wm_1160) dX11_marked_28 ?_
        refine gj_as (-2) (by decide) ?_
        cases hM
        exact g_lret S hr hlk hG hsz dX11_marked_31 ⟨Nat.le_of_ble_eq_true rfl, Nat.le_of_ble_eq_true rfl⟩ ⟨rfl, rfl⟩
      · replace hM := ifn hM c_10
        refine lv_iload hx hb dX11_marked_21 (lv_at hl 4 rfl) ?_
        refine lv_bipush (v := iI 8) hx hb dX11_marked_23 (by decide) ?_
        refine gi_icmp_lt (tgt := 32) hx hb dX11_marked_25 (by decide) hg_9 (by decide) (fun c_11 => ?_) (fun c_11 => ?_)
        · replace hM := ifp hM c_11
          refine lv_aload_n hx hb dX11_marked_32 rfl (lv_at hl 0 rfl) ?_
          refine m_get S hG 0 0 8 rfl ec_0 cpX11 wm_673 dX11_marked_33 rfl (Nat.lt_of_lt_of_le (Nat.le_of_ble_eq_true rfl) hn) (by decide) ?_
          refine lv_iload_n hx hb dX11_marked_36 rfl (lv_at hl 1 rfl) ?_
          refine lv_iload_n hx hb dX11_marked_37 rfl (lv_at hl 2 rfl) ?_
          refine lv_iload_n hx hb dX11_marked_38 rfl (lv_at hl 3 rfl) ?_
          refine lv_iload hx hb dX11_marked_39 (lv_at hl 4 rfl) ?_
          obtain ⟨r_13, S_14, hc_12, hM⟩ := bd2_some hM
          refine g_vl (As := [.int (iI a1), .int (iI a2), .int (iI a3), .int (iI a4)]) (rest := []) S hG hsz (vX4_markedThings l hn a1 a2 a3 a4 hc_12) wV_11_224 (ec_47 _) cpX4 (Nat.lt_of_lt_of_le (Nat.le_of_ble_eq_true rfl) hn) dX11_marked_41 rfl hl.1 (ar := 4) (by decide +kernel) rfl ⟨Nat.le_of_ble_eq_true rfl, Nat.le_of_ble_eq_true rfl, Nat.le_of_ble_eq_true rfl, Nat.le_of_ble_eq_true rfl⟩ (Nat.le_of_ble_eq_true rfl) (fun rv uu H locs hp hG => ?_)
          obtain ⟨rfl, rfl⟩ := hp
          replace hG : gW D cy b n s H locs (enc b cy X S_14) := hG
          cases hM
          exact g_lret S hr hlk hG hsz dX11_marked_44 ⟨Nat.le_of_ble_eq_true rfl, Nat.le_of_ble_eq_true rfl⟩ ⟨rfl, rfl⟩
        · replace hM := ifn hM c_11
          refine lv_ldc2 (v := -2) hx hb S.2.2.2.1 (S.2.2.2.2 _ wm_1160) dX11_marked_28 ?_
          refine gj_as (-2) (by decide) ?_
          cases hM
          exact g_lret S hr hlk hG hsz dX11_marked_31 ⟨Nat.le_of_ble_eq_true rfl, Nat.le_of_ble_eq_true rfl⟩ ⟨rfl, rfl⟩
theorem wV_11_240 : gWV "GrownKinds" 240 yX4_thingsWithout cX4_thingsWithout 7 (some .long) := ⟨wm_1233, wm_1234, wm_1235, wm_182, wm_1236, by decide +kernel, by decide +kernel⟩
theorem wV_4_70 : gWV "GrownKinds$Ledger" 70 yX2_isOff cX2_isOff 3 (some .boolean) := ⟨wm_1237, wm_906, wm_907, wm_178, wm_908, by decide +kernel, by decide +kernel⟩
theorem wV_4_74 : gWV "GrownKinds$Ledger" 74 yX2_flip cX2_flip 3 none := ⟨wm_1238, wm_1239, wm_1240, wm_178, wm_1241, by decide +kernel, by decide +kernel⟩
def mX4_keep_47_59_16 (v_1 : Int) (a2 : Int) : Nat → Int → St → Option (St)
  | 0, _, _ => none
  | f + 1, v_11, S_12 => gd ((inI v_11) ∧ (inI (S_12 2 0))) <| if (S_12 2 0) < v_11 then (some (S_12)) else (bd1 (mX0_thingsAt_48 S_12 v_1 v_11) fun r_22 => gd (0 ≤ ((a2 + (v_1 * 8)) + v_11) ∧ ((a2 + (v_1 * 8)) + v_11) < 2880) <| nx (up S_12 59 ((a2 + (v_1 * 8)) + v_11) r_22) fun S_24 => mX4_keep_47_59_16 v_1 a2 f (v_11 + 1) S_24)
def mX4_keep_47_59_2 (a2 : Int) : Nat → Int → St → Option (St)
  | 0, _, _ => none
  | f + 1, v_1, S_2 => gd ((inI v_1) ∧ (inI (S_2 2 1))) <| if (S_2 2 1) ≤ v_1 then (some (S_2)) else (bd1 (mX4_keep_47_59_16 v_1 a2 FU 0 S_2) fun S_13 => mX4_keep_47_59_2 a2 f (v_1 + 1) S_13)
def mX4_keep_47_59 (S0 : St) (a2 : Int) : Option (St) := bd1 (mX4_keep_47_59_2 a2 FU 0 S0) fun S_3 => some (S_3)
set_option maxHeartbeats 4000000 in
set_option maxRecDepth 100000 in
theorem vX4_keep_47_59 (l : Launch) {D : va_G} {cy : Nat → ClassId} {b n : Nat} (hn : 102 ≤ n) {X : Nat → va_E} {S0 : St} (a2 : Int) {o1 : St} (hM : mX4_keep_47_59 S0 a2 = some o1) : gV l yX4_keep cX4_keep 5 2 0 0 D cy b n (enc b cy X S0) [.ref (b + 47), .ref (b + 57), .int (iI a2)] (fun u => u = (n, enc b cy X o1)) := by
  refine gV_of (by decide) (Nat.le_of_ble_eq_true rfl) ?_
  intro p e s m args below meth c S hr hlk hin hsz ls hl hG
  have hx := S.1
  have hb := S.2.1
  have hl : lv_has ls 5 [(0, .ref (b + 47)), (1, .ref (b + 57)), (2, .int (iI a2))] := hl
  replace hG : gW D cy b n s s.heap [] (enc b cy X S0) := hG
  obtain ⟨H, eH⟩ : ∃ H, H = s.heap := ⟨_, rfl⟩
  obtain ⟨locs, elocs⟩ : ∃ locs : List Loc, locs = [] := ⟨_, rfl⟩
  rw [← eH, ← elocs] at hG
  rw [← eH, ← elocs]
  clear eH elocs
  unfold mX4_keep_47_59 at hM
  refine lv_iconst (v := iI 0) hx hb dX4_keep_0 (by decide) ?_
  refine lv_istore_n (lv' := [(3, .int (iI 0)), (0, .ref (b + 47)), (1, .ref (b + 57)), (2, .int (iI a2))]) hx hb dX4_keep_1 rfl hl (by decide) rfl (fun ls hl => ?_)
  obtain ⟨S_3, hc_4, hM⟩ := bd1_some hM
  have hK_5 : ∀ (H : Heap) (locs : List Loc) (ls : Array Slot), gW D cy b n s H locs (enc b cy X S_3) → lv_has ls 5 [] → W p l e (gRm 2 0 0) s m args below meth c H locs 0 0 (gQV D cy b s args below 0 0 (fun u => u = (n, enc b cy X o1))) (F0 m 61 ls []) := by
    intro H locs ls hG hl
    cases hM
    exact g_vret S hr hlk hG hsz dX4_keep_61 ⟨Nat.le_of_ble_eq_true rfl, Nat.le_of_ble_eq_true rfl⟩ rfl
  have loop_6 : ∀ (f : Nat) (v_1 : Int) (S_2 : St) (H : Heap) (locs : List Loc) (ls : Array Slot), mX4_keep_47_59_2 a2 f v_1 S_2 = some S_3 → gW D cy b n s H locs (enc b cy X S_2) → lv_has ls 5 [(3, .int (iI v_1)), (0, .ref (b + 47)), (1, .ref (b + 57)), (2, .int (iI a2))] → W p l e (gRm 2 0 0) s m args below meth c H locs 0 0 (gQV D cy b s args below 0 0 (fun u => u = (n, enc b cy X o1))) (F0 m 2 ls []) := by
    clear hM
    intro f
    induction f with
    | zero => intro v_1 S_2 H locs ls hM; rw [mX4_keep_47_59_2] at hM; cases hM
    | succ f_8 ih_7 =>
      intro v_1 S_2 H locs ls hM hG hl
      rw [mX4_keep_47_59_2] at hM
      refine lv_iload_n hx hb dX4_keep_2 rfl (lv_at hl 0 rfl) ?_
      refine lv_aload_n hx hb dX4_keep_3 rfl (lv_at hl 1 rfl) ?_
      refine m_get S hG 47 47 0 rfl ec_47 cpX4 wm_435 dX4_keep_4 rfl (Nat.lt_of_lt_of_le (Nat.le_of_ble_eq_true rfl) hn) (by decide) ?_
      refine m_get S hG 2 2 1 rfl ec_2 cpX2 wm_221 dX4_keep_7 rfl (Nat.lt_of_lt_of_le (Nat.le_of_ble_eq_true rfl) hn) (by decide) ?_
      obtain ⟨hg_9, hM⟩ := gd_some hM
      refine gi_icmp_ge (tgt := 61) hx hb dX4_keep_10 (by decide) hg_9.1 hg_9.2 (fun c_10 => ?_) (fun c_10 => ?_)
      · replace hM := ifp hM c_10
        cases hM
        exact hK_5 H locs ls hG (lv_sub hl [] rfl)
      · replace hM := ifn hM c_10
        refine lv_iconst (v := iI 0) hx hb dX4_keep_13 (by decide) ?_
        refine lv_istore (lv' := [(4, .int (iI 0)), (3, .int (iI v_1)), (0, .ref (b + 47)), (1, .ref (b + 57)), (2, .int (iI a2))]) hx hb dX4_keep_14 hl (by decide) rfl (fun ls hl => ?_)
        obtain ⟨S_13, hc_14, hM⟩ := bd1_some hM
        have hK_15 : ∀ (H : Heap) (locs : List Loc) (ls : Array Slot), gW D cy b n s H locs (enc b cy X S_13) → lv_has ls 5 [(3, .int (iI v_1)), (0, .ref (b + 47)), (1, .ref (b + 57)), (2, .int (iI a2))] → W p l e (gRm 2 0 0) s m args below meth c H locs 0 0 (gQV D cy b s args below 0 0 (fun u => u = (n, enc b cy X o1))) (F0 m 55 ls []) := by
          intro H locs ls hG hl
          refine lv_iinc (v := iI (v_1 + 1)) (lv' := [(3, .int (iI (v_1 + 1))), (0, .ref (b + 47)), (1, .ref (b + 57)), (2, .int (iI a2))]) hx hb dX4_keep_55 hl (k := 0) rfl ((iI_add v_1 (1)).trans (congrArg iI (by omega))) (by decide) rfl (fun ls hl => ?_)
          refine lv_goto (tgt := 2) hx hb dX4_keep_58 (by decide) ?_
          exact ih_7 (v_1 + 1) S_13 H locs ls hM hG (lv_sub hl [0, 1, 2, 3] rfl)
        have loop_16 : ∀ (f : Nat) (v_11 : Int) (S_12 : St) (H : Heap) (locs : List Loc) (ls : Array Slot), mX4_keep_47_59_16 v_1 a2 f v_11 S_12 = some S_13 → gW D cy b n s H locs (enc b cy X S_12) → lv_has ls 5 [(4, .int (iI v_11)), (3, .int (iI v_1)), (0, .ref (b + 47)), (1, .ref (b + 57)), (2, .int (iI a2))] → W p l e (gRm 2 0 0) s m args below meth c H locs 0 0 (gQV D cy b s args below 0 0 (fun u => u = (n, enc b cy X o1))) (F0 m 16 ls []) := by
          clear hM
          intro f
          induction f with
          | zero => intro v_11 S_12 H locs ls hM; rw [mX4_keep_47_59_16] at hM; cases hM
          | succ f_18 ih_17 =>
            intro v_11 S_12 H locs ls hM hG hl
            rw [mX4_keep_47_59_16] at hM
            refine lv_iload hx hb dX4_keep_16 (lv_at hl 0 rfl) ?_
            refine lv_aload_n hx hb dX4_keep_18 rfl (lv_at hl 2 rfl) ?_
            refine m_get S hG 47 47 0 rfl ec_47 cpX4 wm_435 dX4_keep_19 rfl (Nat.lt_of_lt_of_le (Nat.le_of_ble_eq_true rfl) hn) (by decide) ?_
            refine m_get S hG 2 2 0 rfl ec_2 cpX2 wm_214 dX4_keep_22 rfl (Nat.lt_of_lt_of_le (Nat.le_of_ble_eq_true rfl) hn) (by decide) ?_
            obtain ⟨hg_19, hM⟩ := gd_some hM
            refine gi_icmp_gt (tgt := 55) hx hb dX4_keep_25 (by decide) hg_19.1 hg_19.2 (fun c_20 => ?_) (fun c_20 => ?_)
            · replace hM := ifp hM c_20
              cases hM
              exact hK_15 H locs ls hG (lv_sub hl [1, 2, 3, 4] rfl)
            · replace hM := ifn hM c_20
              refine lv_aload_n hx hb dX4_keep_28 rfl (lv_at hl 3 rfl) ?_
              refine lv_iload_n hx hb dX4_keep_29 rfl (lv_at hl 4 rfl) ?_
              refine lv_iload_n hx hb dX4_keep_30 rfl (lv_at hl 1 rfl) ?_
              refine lv_bipush (v := iI 8) hx hb dX4_keep_31 (by decide) ?_
              refine gi_mul hx hb dX4_keep_33 ?_
              refine gi_add hx hb dX4_keep_34 ?_
              refine lv_iload hx hb dX4_keep_35 (lv_at hl 0 rfl) ?_
              refine gi_add hx hb dX4_keep_37 ?_
              refine lv_aload_n hx hb dX4_keep_38 rfl (lv_at hl 2 rfl) ?_
              refine m_get S hG 47 47 1 rfl ec_47 cpX4 wm_436 dX4_keep_39 rfl (Nat.lt_of_lt_of_le (Nat.le_of_ble_eq_true rfl) hn) (by decide) ?_
              refine lv_iload_n hx hb dX4_keep_42 rfl (lv_at hl 1 rfl) ?_
              refine lv_iload hx hb dX4_keep_43 (lv_at hl 0 rfl) ?_
              obtain ⟨r_22, hc_21, hM⟩ := bd1_some hM
              refine g_vl (As := [.int (iI v_1), .int (iI v_11)]) (rest := [.int (iI ((a2 + (v_1 * 8)) + v_11)), .ref (b + 57)]) S hG hsz (vX0_thingsAt_48 l hn v_1 v_11 hc_21) wV_4_49 (ec_48 _) cpX0 (Nat.lt_of_lt_of_le (Nat.le_of_ble_eq_true rfl) hn) dX4_keep_45 rfl hl.1 (ar := 2) (by decide +kernel) rfl ⟨Nat.le_of_ble_eq_true rfl, Nat.le_of_ble_eq_true rfl, Nat.le_of_ble_eq_true rfl, Nat.le_of_ble_eq_true rfl⟩ (Nat.le_of_ble_eq_true rfl) (fun rv uu H locs hp hG => ?_)
              obtain ⟨rfl, rfl⟩ := hp
              replace hG : gW D cy b n s H locs (enc b cy X S_12) := hG
              obtain ⟨hg_23, hM⟩ := gd_some hM
              refine mj_ast S hG 57 59 rfl ec_59 (Nat.lt_of_lt_of_le (Nat.le_of_ble_eq_true rfl) hn) dX4_keep_48 hg_23 (by decide) (fun H locs S_24 eS_24 hG => ?_)
              replace hM := nx_at hM eS_24
              clear eS_24
              refine lv_iinc (v := iI (v_11 + 1)) (lv' := [(4, .int (iI (v_11 + 1))), (3, .int (iI v_1)), (0, .ref (b + 47)), (1, .ref (b + 57)), (2, .int (iI a2))]) hx hb dX4_keep_49 hl (k := 0) rfl ((iI_add v_11 (1)).trans (congrArg iI (by omega))) (by decide) rfl (fun ls hl => ?_)
              refine lv_goto (tgt := 16) hx hb dX4_keep_52 (by decide) ?_
              exact ih_17 (v_11 + 1) S_24 H locs ls hM hG (lv_sub hl [0, 1, 2, 3, 4] rfl)
        exact loop_16 FU 0 S_2 H locs ls hc_14 hG (lv_sub hl [0, 1, 2, 3, 4] rfl)
  exact loop_6 FU 0 S0 H locs ls hc_4 hG (lv_sub hl [0, 1, 2, 3] rfl)
def mX4_thingsWithout (S0 : St) (a1 : Int) (a2 : Int) (a3 : Int) (a4 : Int) : Option (Int × St) := nx ((a1 * 10) + a2) fun x_1 => bd1 (gd (inL (lan (lshr (S0 47 4) x_1) 1)) <| if (lan (lshr (S0 47 4) x_1) 1) = 0 then (bd1 (mX2_isOff_2 S0 a1 a2) fun r_9 => bd1 (gd (inI r_9) <| if r_9 = 0 then (bd1 (mX2_flip_2 S0 a1 a2) fun S_28 => some (S_28)) else (some (S0))) fun S_10 => bd1 (mX0_take_48 S_10 (-1)) fun S_14 => bd1 (mX4_keep_47_59 S_14 (x_1 * 48)) fun S_16 => bd1 (gd (inI r_9) <| if r_9 = 0 then (bd1 (mX2_flip_2 S_16 a1 a2) fun S_24 => some (S_24)) else (some (S_16))) fun S_17 => nx (up S_17 47 4 (lor (S_17 47 4) (lsh 1 x_1))) fun S_20 => some (S_20)) else (some (S0))) fun S_2 => gd (0 ≤ (((x_1 * 48) + (a3 * 8)) + a4) ∧ (((x_1 * 48) + (a3 * 8)) + a4) < 2880) <| some ((S_2 59 (((x_1 * 48) + (a3 * 8)) + a4)), S_2)
set_option maxHeartbeats 4000000 in
set_option maxRecDepth 100000 in
theorem vX4_thingsWithout (l : Launch) {D : va_G} {cy : Nat → ClassId} {b n : Nat} (hn : 102 ≤ n) {X : Nat → va_E} {S0 : St} (a1 : Int) (a2 : Int) (a3 : Int) (a4 : Int) {o1 : Int} {o2 : St} (hM : mX4_thingsWithout S0 a1 a2 a3 a4 = some (o1, o2)) : gL l yX4_thingsWithout cX4_thingsWithout 7 6 0 0 D cy b n (enc b cy X S0) [.ref (b + 47), .int (iI a1), .int (iI a2), .int (iI a3), .int (iI a4)] (fun r u => r = jJ o1 ∧ u = (n, enc b cy X o2)) := by
  refine gL_of (by decide) (Nat.le_of_ble_eq_true rfl) ?_
  intro p e s m args below meth c S hr hlk hin hsz ls hl hG
  have hx := S.1
  have hb := S.2.1
  have hl : lv_has ls 7 [(0, .ref (b + 47)), (1, .int (iI a1)), (2, .int (iI a2)), (3, .int (iI a3)), (4, .int (iI a4))] := hl
  replace hG : gW D cy b n s s.heap [] (enc b cy X S0) := hG
  obtain ⟨H, eH⟩ : ∃ H, H = s.heap := ⟨_, rfl⟩
  obtain ⟨locs, elocs⟩ : ∃ locs : List Loc, locs = [] := ⟨_, rfl⟩
  rw [← eH, ← elocs] at hG
  rw [← eH, ← elocs]
  clear eH elocs
  unfold mX4_thingsWithout at hM
  refine lv_iload_n hx hb dX4_thingsWithout_0 rfl (lv_at hl 1 rfl) ?_
  refine lv_bipush (v := iI 10) hx hb dX4_thingsWithout_1 (by decide) ?_
  refine gi_mul hx hb dX4_thingsWithout_3 ?_
  refine lv_iload_n hx hb dX4_thingsWithout_4 rfl (lv_at hl 2 rfl) ?_
  refine gi_add hx hb dX4_thingsWithout_5 ?_
  refine gi_nm (fun x_1 ex_1 => ?_)
  replace hM := nx_at hM ex_1
  clear ex_1
  refine lv_istore (lv' := [(5, .int (iI x_1)), (0, .ref (b + 47)), (1, .int (iI a1)), (2, .int (iI a2)), (3, .int (iI a3)), (4, .int (iI a4))]) hx hb dX4_thingsWithout_6 hl (by decide) rfl (fun ls hl => ?_)
  refine lv_aload_n hx hb dX4_thingsWithout_8 rfl (lv_at hl 1 rfl) ?_
  refine m_get S hG 47 47 4 rfl ec_47 cpX4 wm_439 dX4_thingsWithout_9 rfl (Nat.lt_of_lt_of_le (Nat.le_of_ble_eq_true rfl) hn) (by decide) ?_
  refine lv_iload hx hb dX4_thingsWithout_12 (lv_at hl 0 rfl) ?_
  refine gj_shr hx hb dX4_thingsWithout_14 ?_
  refine lv_lconst (v := jJ 1) hx hb dX4_thingsWithout_15 (by decide) ?_
  refine gj_and hx hb dX4_thingsWithout_16 ?_
  refine lv_lconst (v := jJ 0) hx hb dX4_thingsWithout_17 (by decide) ?_
  obtain ⟨S_2, hc_3, hM⟩ := bd1_some hM
  have hK_4 : ∀ (H : Heap) (locs : List Loc) (ls : Array Slot), gW D cy b n s H locs (enc b cy X S_2) → lv_has ls 7 [(5, .int (iI x_1)), (0, .ref (b + 47)), (3, .int (iI a3)), (4, .int (iI a4))] → W p l e (gRm 6 0 0) s m args below meth c H locs 0 0 (gQL D cy b s args below 0 0 (fun r u => r = jJ o1 ∧ u = (n, enc b cy X o2))) (F0 m 95 ls []) := by
    intro H locs ls hG hl
    refine lv_aload_n hx hb dX4_thingsWithout_95 rfl (lv_at hl 1 rfl) ?_
    refine m_get S hG 47 47 7 rfl ec_47 cpX4 wm_442 dX4_thingsWithout_96 rfl (Nat.lt_of_lt_of_le (Nat.le_of_ble_eq_true rfl) hn) (by decide) ?_
    refine lv_iload hx hb dX4_thingsWithout_99 (lv_at hl 0 rfl) ?_
    refine lv_bipush (v := iI 48) hx hb dX4_thingsWithout_101 (by decide) ?_
    refine gi_mul hx hb dX4_thingsWithout_103 ?_
    refine lv_iload_n hx hb dX4_thingsWithout_104 rfl (lv_at hl 2 rfl) ?_
    refine lv_bipush (v := iI 8) hx hb dX4_thingsWithout_105 (by decide) ?_
    refine gi_mul hx hb dX4_thingsWithout_107 ?_
    refine gi_add hx hb dX4_thingsWithout_108 ?_
    refine lv_iload hx hb dX4_thingsWithout_109 (lv_at hl 3 rfl) ?_
    refine gi_add hx hb dX4_thingsWithout_111 ?_
    obtain ⟨hg_5, hM⟩ := gd_some hM
    refine mj_ald S hG 57 59 rfl ec_59 (Nat.lt_of_lt_of_le (Nat.le_of_ble_eq_true rfl) hn) dX4_thingsWithout_112 hg_5 (by decide) ?_
    cases hM
    exact g_lret S hr hlk hG hsz dX4_thingsWithout_113 ⟨Nat.le_of_ble_eq_true rfl, Nat.le_of_ble_eq_true rfl⟩ ⟨rfl, rfl⟩
  clear hM
  replace hM := hc_3
  obtain ⟨hg_6, hM⟩ := gd_some hM
  refine gj_cmp_ne (tgt := 95) hx hb dX4_thingsWithout_18 dX4_thingsWithout_19 (by decide) hg_6 (by decide) (fun c_7 => ?_) (fun c_7 => ?_)
  · replace hM := ifn hM c_7
    cases hM
    exact hK_4 H locs ls hG (lv_sub hl [0, 1, 4, 5] rfl)
  · replace hM := ifp hM c_7
    refine lv_aload_n hx hb dX4_thingsWithout_22 rfl (lv_at hl 1 rfl) ?_
    refine m_get S hG 47 47 0 rfl ec_47 cpX4 wm_435 dX4_thingsWithout_23 rfl (Nat.lt_of_lt_of_le (Nat.le_of_ble_eq_true rfl) hn) (by decide) ?_
    refine lv_iload_n hx hb dX4_thingsWithout_26 rfl (lv_at hl 2 rfl) ?_
    refine lv_iload_n hx hb dX4_thingsWithout_27 rfl (lv_at hl 3 rfl) ?_
    obtain ⟨r_9, hc_8, hM⟩ := bd1_some hM
    refine g_vi (As := [.int (iI a1), .int (iI a2)]) (rest := []) S hG hsz (vX2_isOff_2 l hn a1 a2 hc_8) wV_4_70 (ec_2 _) cpX2 (Nat.lt_of_lt_of_le (Nat.le_of_ble_eq_true rfl) hn) dX4_thingsWithout_28 rfl hl.1 (ar := 2) (by decide +kernel) rfl ⟨Nat.le_of_ble_eq_true rfl, Nat.le_of_ble_eq_true rfl, Nat.le_of_ble_eq_true rfl, Nat.le_of_ble_eq_true rfl⟩ (Nat.le_of_ble_eq_true rfl) (fun rv uu H locs hp hG => ?_)
    obtain ⟨rfl, rfl⟩ := hp
    replace hG : gW D cy b n s H locs (enc b cy X S0) := hG
    refine lv_istore (lv' := [(6, .int (iI r_9)), (5, .int (iI x_1)), (0, .ref (b + 47)), (1, .int (iI a1)), (2, .int (iI a2)), (3, .int (iI a3)), (4, .int (iI a4))]) hx hb dX4_thingsWithout_31 hl (by decide) rfl (fun ls hl => ?_)
    refine lv_iload hx hb dX4_thingsWithout_33 (lv_at hl 0 rfl) ?_
    obtain ⟨S_10, hc_11, hM⟩ := bd1_some hM
    have hK_12 : ∀ (H : Heap) (locs : List Loc) (ls : Array Slot), gW D cy b n s H locs (enc b cy X S_10) → lv_has ls 7 [(6, .int (iI r_9)), (5, .int (iI x_1)), (0, .ref (b + 47)), (1, .int (iI a1)), (2, .int (iI a2)), (3, .int (iI a3)), (4, .int (iI a4))] → W p l e (gRm 6 0 0) s m args below meth c H locs 0 0 (gQL D cy b s args below 0 0 (fun r u => r = jJ o1 ∧ u = (n, enc b cy X o2))) (F0 m 47 ls []) := by
      intro H locs ls hG hl
      refine lv_aload_n hx hb dX4_thingsWithout_47 rfl (lv_at hl 2 rfl) ?_
      refine m_get S hG 47 47 1 rfl ec_47 cpX4 wm_436 dX4_thingsWithout_48 rfl (Nat.lt_of_lt_of_le (Nat.le_of_ble_eq_true rfl) hn) (by decide) ?_
      refine lv_iconst (v := iI (-1)) hx hb dX4_thingsWithout_51 (by decide) ?_
      obtain ⟨S_14, hc_13, hM⟩ := bd1_some hM
      refine g_vv (As := [.int (iI (-1))]) (rest := []) S hG hsz (vX0_take_48 l hn (-1) hc_13) wV_4_55 (ec_48 _) cpX0 (Nat.lt_of_lt_of_le (Nat.le_of_ble_eq_true rfl) hn) dX4_thingsWithout_52 rfl hl.1 (ar := 1) (by decide +kernel) rfl ⟨Nat.le_of_ble_eq_true rfl, Nat.le_of_ble_eq_true rfl, Nat.le_of_ble_eq_true rfl, Nat.le_of_ble_eq_true rfl⟩ (Nat.le_of_ble_eq_true rfl) (fun uu H locs hp hG => ?_)
      obtain rfl := hp
      replace hG : gW D cy b n s H locs (enc b cy X S_14) := hG
      refine lv_aload_n hx hb dX4_thingsWithout_55 rfl (lv_at hl 2 rfl) ?_
      refine lv_aload_n hx hb dX4_thingsWithout_56 rfl (lv_at hl 2 rfl) ?_
      refine m_get S hG 47 47 7 rfl ec_47 cpX4 wm_442 dX4_thingsWithout_57 rfl (Nat.lt_of_lt_of_le (Nat.le_of_ble_eq_true rfl) hn) (by decide) ?_
      refine lv_iload hx hb dX4_thingsWithout_60 (lv_at hl 1 rfl) ?_
      refine lv_bipush (v := iI 48) hx hb dX4_thingsWithout_62 (by decide) ?_
      refine gi_mul hx hb dX4_thingsWithout_64 ?_
      obtain ⟨S_16, hc_15, hM⟩ := bd1_some hM
      refine g_vv (As := [.ref (b + 57), .int (iI (x_1 * 48))]) (rest := []) S hG hsz (vX4_keep_47_59 l hn (x_1 * 48) hc_15) wV_4_59 (ec_47 _) cpX4 (Nat.lt_of_lt_of_le (Nat.le_of_ble_eq_true rfl) hn) dX4_thingsWithout_65 rfl hl.1 (ar := 2) (by decide +kernel) rfl ⟨Nat.le_of_ble_eq_true rfl, Nat.le_of_ble_eq_true rfl, Nat.le_of_ble_eq_true rfl, Nat.le_of_ble_eq_true rfl⟩ (Nat.le_of_ble_eq_true rfl) (fun uu H locs hp hG => ?_)
      obtain rfl := hp
      replace hG : gW D cy b n s H locs (enc b cy X S_16) := hG
      refine lv_iload hx hb dX4_thingsWithout_68 (lv_at hl 0 rfl) ?_
      obtain ⟨S_17, hc_18, hM⟩ := bd1_some hM
      have hK_19 : ∀ (H : Heap) (locs : List Loc) (ls : Array Slot), gW D cy b n s H locs (enc b cy X S_17) → lv_has ls 7 [(5, .int (iI x_1)), (0, .ref (b + 47)), (3, .int (iI a3)), (4, .int (iI a4))] → W p l e (gRm 6 0 0) s m args below meth c H locs 0 0 (gQL D cy b s args below 0 0 (fun r u => r = jJ o1 ∧ u = (n, enc b cy X o2))) (F0 m 82 ls []) := by
        intro H locs ls hG hl
        refine lv_aload_n hx hb dX4_thingsWithout_82 rfl (lv_at hl 1 rfl) ?_
        refine lv_dup hx hb dX4_thingsWithout_83 rfl ?_
        refine m_get S hG 47 47 4 rfl ec_47 cpX4 wm_439 dX4_thingsWithout_84 rfl (Nat.lt_of_lt_of_le (Nat.le_of_ble_eq_true rfl) hn) (by decide) ?_
        refine lv_lconst (v := jJ 1) hx hb dX4_thingsWithout_87 (by decide) ?_
        refine lv_iload hx hb dX4_thingsWithout_88 (lv_at hl 0 rfl) ?_
        refine gj_shl hx hb dX4_thingsWithout_90 ?_
        refine gj_or hx hb dX4_thingsWithout_91 ?_
        refine m_put S hG 47 47 4 rfl 4 (lor (S_17 47 4) (lsh 1 x_1)) ec_47 cpX4 wm_439 dX4_thingsWithout_92 (pf_47_4) (Nat.lt_of_lt_of_le (Nat.le_of_ble_eq_true rfl) hn) (by decide) (Nat.le_of_ble_eq_true rfl) rfl rfl rfl (fun H locs S_20 eS_20 hG => ?_)
        replace hM := nx_at hM eS_20
        clear eS_20
        cases hM
        exact hK_4 H locs ls hG (lv_sub hl [0, 1, 2, 3] rfl)
      clear hM
      replace hM := hc_18
      obtain ⟨hg_21, hM⟩ := gd_some hM
      refine gi_if_ne (tgt := 82) hx hb dX4_thingsWithout_70 (by decide) hg_21 (fun c_22 => ?_) (fun c_22 => ?_)
      · replace hM := ifn hM c_22
        cases hM
        exact hK_19 H locs ls hG (lv_sub hl [1, 2, 5, 6] rfl)
      · replace hM := ifp hM c_22
        refine lv_aload_n hx hb dX4_thingsWithout_73 rfl (lv_at hl 2 rfl) ?_
        refine m_get S hG 47 47 0 rfl ec_47 cpX4 wm_435 dX4_thingsWithout_74 rfl (Nat.lt_of_lt_of_le (Nat.le_of_ble_eq_true rfl) hn) (by decide) ?_
        refine lv_iload_n hx hb dX4_thingsWithout_77 rfl (lv_at hl 3 rfl) ?_
        refine lv_iload_n hx hb dX4_thingsWithout_78 rfl (lv_at hl 4 rfl) ?_
        obtain ⟨S_24, hc_23, hM⟩ := bd1_some hM
        refine g_vv (As := [.int (iI a1), .int (iI a2)]) (rest := []) S hG hsz (vX2_flip_2 l hn a1 a2 hc_23) wV_4_74 (ec_2 _) cpX2 (Nat.lt_of_lt_of_le (Nat.le_of_ble_eq_true rfl) hn) dX4_thingsWithout_79 rfl hl.1 (ar := 2) (by decide +kernel) rfl ⟨Nat.le_of_ble_eq_true rfl, Nat.le_of_ble_eq_true rfl, Nat.le_of_ble_eq_true rfl, Nat.le_of_ble_eq_true rfl⟩ (Nat.le_of_ble_eq_true rfl) (fun uu H locs hp hG => ?_)
        obtain rfl := hp
        replace hG : gW D cy b n s H locs (enc b cy X S_24) := hG
        cases hM
        exact hK_19 H locs ls hG (lv_sub hl [1, 2, 5, 6] rfl)
    clear hM
    replace hM := hc_11
    obtain ⟨hg_25, hM⟩ := gd_some hM
    refine gi_if_ne (tgt := 47) hx hb dX4_thingsWithout_35 (by decide) hg_25 (fun c_26 => ?_) (fun c_26 => ?_)
    · replace hM := ifn hM c_26
      cases hM
      exact hK_12 H locs ls hG (lv_sub hl [0, 1, 2, 3, 4, 5, 6] rfl)
    · replace hM := ifp hM c_26
      refine lv_aload_n hx hb dX4_thingsWithout_38 rfl (lv_at hl 2 rfl) ?_
      refine m_get S hG 47 47 0 rfl ec_47 cpX4 wm_435 dX4_thingsWithout_39 rfl (Nat.lt_of_lt_of_le (Nat.le_of_ble_eq_true rfl) hn) (by decide) ?_
      refine lv_iload_n hx hb dX4_thingsWithout_42 rfl (lv_at hl 3 rfl) ?_
      refine lv_iload_n hx hb dX4_thingsWithout_43 rfl (lv_at hl 4 rfl) ?_
      obtain ⟨S_28, hc_27, hM⟩ := bd1_some hM
      refine g_vv (As := [.int (iI a1), .int (iI a2)]) (rest := []) S hG hsz (vX2_flip_2 l hn a1 a2 hc_27) wV_4_74 (ec_2 _) cpX2 (Nat.lt_of_lt_of_le (Nat.le_of_ble_eq_true rfl) hn) dX4_thingsWithout_44 rfl hl.1 (ar := 2) (by decide +kernel) rfl ⟨Nat.le_of_ble_eq_true rfl, Nat.le_of_ble_eq_true rfl, Nat.le_of_ble_eq_true rfl, Nat.le_of_ble_eq_true rfl⟩ (Nat.le_of_ble_eq_true rfl) (fun uu H locs hp hG => ?_)
      obtain rfl := hp
      replace hG : gW D cy b n s H locs (enc b cy X S_28) := hG
      cases hM
      exact hK_12 H locs ls hG (lv_sub hl [0, 1, 2, 3, 4, 5, 6] rfl)
def mX11_without (S0 : St) (a1 : Int) (a2 : Int) (a3 : Int) (a4 : Int) : Option (Int × St) := bd1 (mX11_termed S0 a1 a2) fun r_2 => gd (inI r_2) <| if r_2 = 0 then (some ((-2), S0)) else (bd1 (mX11_sized S0 a3 a4) fun r_6 => gd (inI r_6) <| if r_6 = 0 then (some ((-2), S0)) else (bd2 (mX4_thingsWithout S0 a1 a2 a3 a4) fun r_10 S_11 => some (r_10, S_11)))
set_option maxHeartbeats 4000000 in
set_option maxRecDepth 100000 in
theorem vX11_without (l : Launch) {D : va_G} {cy : Nat → ClassId} {b n : Nat} (hn : 102 ≤ n) {X : Nat → va_E} {S0 : St} (a1 : Int) (a2 : Int) (a3 : Int) (a4 : Int) {o1 : Int} {o2 : St} (hM : mX11_without S0 a1 a2 a3 a4 = some (o1, o2)) : gL l yX11_without cX11_without 5 7 0 0 D cy b n (enc b cy X S0) [.ref (b + 0), .int (iI a1), .int (iI a2), .int (iI a3), .int (iI a4)] (fun r u => r = jJ o1 ∧ u = (n, enc b cy X o2)) := by
  refine gL_of (by decide) (Nat.le_of_ble_eq_true rfl) ?_
  intro p e s m args below meth c S hr hlk hin hsz ls hl hG
  have hx := S.1
  have hb := S.2.1
  have hl : lv_has ls 5 [(0, .ref (b + 0)), (1, .int (iI a1)), (2, .int (iI a2)), (3, .int (iI a3)), (4, .int (iI a4))] := hl
  replace hG : gW D cy b n s s.heap [] (enc b cy X S0) := hG
  obtain ⟨H, eH⟩ : ∃ H, H = s.heap := ⟨_, rfl⟩
  obtain ⟨locs, elocs⟩ : ∃ locs : List Loc, locs = [] := ⟨_, rfl⟩
  rw [← eH, ← elocs] at hG
  rw [← eH, ← elocs]
  clear eH elocs
  unfold mX11_without at hM
  refine lv_aload_n hx hb dX11_without_0 rfl (lv_at hl 0 rfl) ?_
  refine lv_iload_n hx hb dX11_without_1 rfl (lv_at hl 1 rfl) ?_
  refine lv_iload_n hx hb dX11_without_2 rfl (lv_at hl 2 rfl) ?_
  obtain ⟨r_2, hc_1, hM⟩ := bd1_some hM
  refine g_vi (As := [.int (iI a1), .int (iI a2)]) (rest := []) S hG hsz (vX11_termed l hn a1 a2 hc_1) wV_11_228 (ec_0 _) cpX11 (Nat.lt_of_lt_of_le (Nat.le_of_ble_eq_true rfl) hn) dX11_without_3 rfl hl.1 (ar := 2) (by decide +kernel) rfl ⟨Nat.le_of_ble_eq_true rfl, Nat.le_of_ble_eq_true rfl, Nat.le_of_ble_eq_true rfl, Nat.le_of_ble_eq_true rfl⟩ (Nat.le_of_ble_eq_true rfl) (fun rv uu H locs hp hG => ?_)
  obtain ⟨rfl, rfl⟩ := hp
  replace hG : gW D cy b n s H locs (enc b cy X S0) := hG
  obtain ⟨hg_3, hM⟩ := gd_some hM
  refine gi_if_eq (tgt := 19) hx hb dX11_without_6 (by decide) hg_3 (fun c_4 => ?_) (fun c_4 => ?_)
  · replace hM := ifp hM c_4
    refine lv_ldc2 (v := -2) hx hb S.2.2.2.1 (S.2.2.2.2 _ wm_1160) dX11_without_19 ?_
    refine gj_as (-2) (by decide) ?_
    cases hM
    exact g_lret S hr hlk hG hsz dX11_without_22 ⟨Nat.le_of_ble_eq_true rfl, Nat.le_of_ble_eq_true rfl⟩ ⟨rfl, rfl⟩
  · replace hM := ifn hM c_4
    refine lv_aload_n hx hb dX11_without_9 rfl (lv_at hl 0 rfl) ?_
    refine lv_iload_n hx hb dX11_without_10 rfl (lv_at hl 3 rfl) ?_
    refine lv_iload hx hb dX11_without_11 (lv_at hl 4 rfl) ?_
    obtain ⟨r_6, hc_5, hM⟩ := bd1_some hM
    refine g_vi (As := [.int (iI a3), .int (iI a4)]) (rest := []) S hG hsz (vX11_sized l hn a3 a4 hc_5) wV_11_175 (ec_0 _) cpX11 (Nat.lt_of_lt_of_le (Nat.le_of_ble_eq_true rfl) hn) dX11_without_13 rfl hl.1 (ar := 2) (by decide +kernel) rfl ⟨Nat.le_of_ble_eq_true rfl, Nat.le_of_ble_eq_true rfl, Nat.le_of_ble_eq_true rfl, Nat.le_of_ble_eq_true rfl⟩ (Nat.le_of_ble_eq_true rfl) (fun rv uu H locs hp hG => ?_)
    obtain ⟨rfl, rfl⟩ := hp
    replace hG : gW D cy b n s H locs (enc b cy X S0) := hG
    obtain ⟨hg_7, hM⟩ := gd_some hM
    refine gi_if_ne (tgt := 23) hx hb dX11_without_16 (by decide) hg_7 (fun c_8 => ?_) (fun c_8 => ?_)
    · replace hM := ifn hM c_8
      refine lv_aload_n hx hb dX11_without_23 rfl (lv_at hl 0 rfl) ?_
      refine m_get S hG 0 0 8 rfl ec_0 cpX11 wm_673 dX11_without_24 rfl (Nat.lt_of_lt_of_le (Nat.le_of_ble_eq_true rfl) hn) (by decide) ?_
      refine lv_iload_n hx hb dX11_without_27 rfl (lv_at hl 1 rfl) ?_
      refine lv_iload_n hx hb dX11_without_28 rfl (lv_at hl 2 rfl) ?_
      refine lv_iload_n hx hb dX11_without_29 rfl (lv_at hl 3 rfl) ?_
      refine lv_iload hx hb dX11_without_30 (lv_at hl 4 rfl) ?_
      obtain ⟨r_10, S_11, hc_9, hM⟩ := bd2_some hM
      refine g_vl (As := [.int (iI a1), .int (iI a2), .int (iI a3), .int (iI a4)]) (rest := []) S hG hsz (vX4_thingsWithout l hn a1 a2 a3 a4 hc_9) wV_11_240 (ec_47 _) cpX4 (Nat.lt_of_lt_of_le (Nat.le_of_ble_eq_true rfl) hn) dX11_without_32 rfl hl.1 (ar := 4) (by decide +kernel) rfl ⟨Nat.le_of_ble_eq_true rfl, Nat.le_of_ble_eq_true rfl, Nat.le_of_ble_eq_true rfl, Nat.le_of_ble_eq_true rfl⟩ (Nat.le_of_ble_eq_true rfl) (fun rv uu H locs hp hG => ?_)
      obtain ⟨rfl, rfl⟩ := hp
      replace hG : gW D cy b n s H locs (enc b cy X S_11) := hG
      cases hM
      exact g_lret S hr hlk hG hsz dX11_without_35 ⟨Nat.le_of_ble_eq_true rfl, Nat.le_of_ble_eq_true rfl⟩ ⟨rfl, rfl⟩
    · replace hM := ifp hM c_8
      refine lv_ldc2 (v := -2) hx hb S.2.2.2.1 (S.2.2.2.2 _ wm_1160) dX11_without_19 ?_
      refine gj_as (-2) (by decide) ?_
      cases hM
      exact g_lret S hr hlk hG hsz dX11_without_22 ⟨Nat.le_of_ble_eq_true rfl, Nat.le_of_ble_eq_true rfl⟩ ⟨rfl, rfl⟩
def mX11_hangs_60 (v_10 : Int) (x_7 : Int) (a1 : Int) (a2 : Int) : Nat → Int → Int → Int → St → Option (Int × Int × St)
  | 0, _, _, _, _ => none
  | f + 1, v_23, v_24, v_25, S_26 => gd (inI (an (shr x_7 v_10) 1)) <| if (an (shr x_7 v_10) 1) = 0 then (some (v_25, v_24, S_26)) else (gd (0 ≤ v_10 ∧ v_10 < 30) <| gd ((inI v_23) ∧ (inI (S_26 8 v_10))) <| if (S_26 8 v_10) ≤ v_23 then (some (v_25, v_24, S_26)) else (bd1 (mX2_isOff_2 S_26 v_10 v_23) fun r_41 => bd2 (gd (inI r_41) <| if r_41 = 0 then (bd2 (mX4_thingsWithout S_26 v_10 v_23 a1 a2) fun r_52 S_53 => some (r_52, S_53)) else (some (v_25, S_26))) fun z_42 S_43 => gd ((inL z_42) ∧ (inL v_25)) <| if v_25 ≤ z_42 then (mX11_hangs_60 v_10 x_7 a1 a2 f (v_23 + 1) v_24 v_25 S_43) else (nx ((10 * v_10) + v_23) fun x_48 => mX11_hangs_60 v_10 x_7 a1 a2 f (v_23 + 1) x_48 z_42 S_43)))
def mX11_hangs_45 (x_7 : Int) (a1 : Int) (a2 : Int) : Nat → Int → Int → Int → St → Option (Int × St)
  | 0, _, _, _, _ => none
  | f + 1, v_10, v_11, v_12, S_13 => gd ((inI v_10) ∧ (inI (S_13 2 1))) <| if (S_13 2 1) ≤ v_10 then (some (v_11, S_13)) else (bd3 (mX11_hangs_60 v_10 x_7 a1 a2 FU 0 v_11 v_12 S_13) fun y_27 y_28 S_29 => mX11_hangs_45 x_7 a1 a2 f (v_10 + 1) y_28 y_27 S_29)
def mX11_hangs (S0 : St) (a1 : Int) (a2 : Int) : Option (Int × St) := bd1 (mX11_sized S0 a1 a2) fun r_2 => gd (inI r_2) <| if r_2 = 0 then (some ((-2), S0)) else (bd1 (mX3_closure_38 S0 a1) fun r_6 => nx (orr r_6 (shl 1 a1)) fun x_7 => bd1 (mX0_thingsAt_40 S0 a1 a2) fun r_9 => bd2 (mX11_hangs_45 x_7 a1 a2 FU 0 (-1) r_9 S0) fun y_14 S_15 => some (y_14, S_15))
set_option maxHeartbeats 4000000 in
set_option maxRecDepth 100000 in
theorem vX11_hangs (l : Launch) {D : va_G} {cy : Nat → ClassId} {b n : Nat} (hn : 102 ≤ n) {X : Nat → va_E} {S0 : St} (a1 : Int) (a2 : Int) {o1 : Int} {o2 : St} (hM : mX11_hangs S0 a1 a2 = some (o1, o2)) : gI l yX11_hangs cX11_hangs 11 (some .int) 7 0 0 D cy b n (enc b cy X S0) [.ref (b + 0), .int (iI a1), .int (iI a2)] (fun r u => r = iI o1 ∧ u = (n, enc b cy X o2)) := by
  refine gI_of (by decide) (Nat.le_of_ble_eq_true rfl) ?_
  intro p e s m args below meth c S hr hlk hin hsz ls hl hG
  have hx := S.1
  have hb := S.2.1
  have hl : lv_has ls 11 [(0, .ref (b + 0)), (1, .int (iI a1)), (2, .int (iI a2))] := hl
  replace hG : gW D cy b n s s.heap [] (enc b cy X S0) := hG
  obtain ⟨H, eH⟩ : ∃ H, H = s.heap := ⟨_, rfl⟩
  obtain ⟨locs, elocs⟩ : ∃ locs : List Loc, locs = [] := ⟨_, rfl⟩
  rw [← eH, ← elocs] at hG
  rw [← eH, ← elocs]
  clear eH elocs
  unfold mX11_hangs at hM
  refine lv_aload_n hx hb dX11_hangs_0 rfl (lv_at hl 0 rfl) ?_
  refine lv_iload_n hx hb dX11_hangs_1 rfl (lv_at hl 1 rfl) ?_
  refine lv_iload_n hx hb dX11_hangs_2 rfl (lv_at hl 2 rfl) ?_
  obtain ⟨r_2, hc_1, hM⟩ := bd1_some hM
  refine g_vi (As := [.int (iI a1), .int (iI a2)]) (rest := []) S hG hsz (vX11_sized l hn a1 a2 hc_1) wV_11_175 (ec_0 _) cpX11 (Nat.lt_of_lt_of_le (Nat.le_of_ble_eq_true rfl) hn) dX11_hangs_3 rfl hl.1 (ar := 2) (by decide +kernel) rfl ⟨Nat.le_of_ble_eq_true rfl, Nat.le_of_ble_eq_true rfl, Nat.le_of_ble_eq_true rfl, Nat.le_of_ble_eq_true rfl⟩ (Nat.le_of_ble_eq_true rfl) (fun rv uu H locs hp hG => ?_)
  obtain ⟨rfl, rfl⟩ := hp
  replace hG : gW D cy b n s H locs (enc b cy X S0) := hG
  obtain ⟨hg_3, hM⟩ := gd_some hM
  refine gi_if_ne (tgt := 12) hx hb dX11_hangs_6 (by decide) hg_3 (fun c_4 => ?_) (fun c_4 => ?_)
  · replace hM := ifn hM c_4
    refine lv_aload_n hx hb dX11_hangs_12 rfl (lv_at hl 0 rfl) ?_
    refine m_get S hG 0 0 6 rfl ec_0 cpX11 wm_671 dX11_hangs_13 rfl (Nat.lt_of_lt_of_le (Nat.le_of_ble_eq_true rfl) hn) (by decide) ?_
    refine m_get S hG 33 33 7 rfl ec_33 cpX3 wm_330 dX11_hangs_16 rfl (Nat.lt_of_lt_of_le (Nat.le_of_ble_eq_true rfl) hn) (by decide) ?_
    refine lv_iload_n hx hb dX11_hangs_19 rfl (lv_at hl 1 rfl) ?_
    obtain ⟨r_6, hc_5, hM⟩ := bd1_some hM
    refine g_si (As := [.ref (b + 38), .int (iI a1)]) (rest := []) S hG hsz (vX3_closure_38 l hn a1 hc_5) wS_11_188 dX11_hangs_20 rfl hl.1 (ar := 2) (by decide +kernel) rfl ⟨Nat.le_of_ble_eq_true rfl, Nat.le_of_ble_eq_true rfl, Nat.le_of_ble_eq_true rfl, Nat.le_of_ble_eq_true rfl⟩ (Nat.le_of_ble_eq_true rfl) (fun rv uu H locs hp hG => ?_)
    obtain ⟨rfl, rfl⟩ := hp
    replace hG : gW D cy b n s H locs (enc b cy X S0) := hG
    refine lv_iconst (v := iI 1) hx hb dX11_hangs_23 (by decide) ?_
    refine lv_iload_n hx hb dX11_hangs_24 rfl (lv_at hl 1 rfl) ?_
    refine gi_shl hx hb dX11_hangs_25 ?_
    refine gi_or hx hb dX11_hangs_26 ?_
    refine gi_nm (fun x_7 ex_7 => ?_)
    replace hM := nx_at hM ex_7
    clear ex_7
    refine lv_istore_n (lv' := [(3, .int (iI x_7)), (0, .ref (b + 0)), (1, .int (iI a1)), (2, .int (iI a2))]) hx hb dX11_hangs_27 rfl hl (by decide) rfl (fun ls hl => ?_)
    refine lv_aload_n hx hb dX11_hangs_28 rfl (lv_at hl 1 rfl) ?_
    refine m_get S hG 0 0 7 rfl ec_0 cpX11 wm_672 dX11_hangs_29 rfl (Nat.lt_of_lt_of_le (Nat.le_of_ble_eq_true rfl) hn) (by decide) ?_
    refine lv_iload_n hx hb dX11_hangs_32 rfl (lv_at hl 2 rfl) ?_
    refine lv_iload_n hx hb dX11_hangs_33 rfl (lv_at hl 3 rfl) ?_
    obtain ⟨r_9, hc_8, hM⟩ := bd1_some hM
    refine g_vl (As := [.int (iI a1), .int (iI a2)]) (rest := []) S hG hsz (vX0_thingsAt_40 l hn a1 a2 hc_8) wV_11_206 (ec_40 _) cpX0 (Nat.lt_of_lt_of_le (Nat.le_of_ble_eq_true rfl) hn) dX11_hangs_34 rfl hl.1 (ar := 2) (by decide +kernel) rfl ⟨Nat.le_of_ble_eq_true rfl, Nat.le_of_ble_eq_true rfl, Nat.le_of_ble_eq_true rfl, Nat.le_of_ble_eq_true rfl⟩ (Nat.le_of_ble_eq_true rfl) (fun rv uu H locs hp hG => ?_)
    obtain ⟨rfl, rfl⟩ := hp
    replace hG : gW D cy b n s H locs (enc b cy X S0) := hG
    refine lv_lstore (lv' := [(4, .long (jJ r_9)), (3, .int (iI x_7)), (0, .ref (b + 0)), (1, .int (iI a1)), (2, .int (iI a2))]) hx hb dX11_hangs_37 hl (by decide) rfl (fun ls hl => ?_)
    refine lv_iconst (v := iI (-1)) hx hb dX11_hangs_39 (by decide) ?_
    refine lv_istore (lv' := [(6, .int (iI (-1))), (4, .long (jJ r_9)), (3, .int (iI x_7)), (0, .ref (b + 0)), (1, .int (iI a1)), (2, .int (iI a2))]) hx hb dX11_hangs_40 hl (by decide) rfl (fun ls hl => ?_)
    refine lv_iconst (v := iI 0) hx hb dX11_hangs_42 (by decide) ?_
    refine lv_istore (lv' := [(7, .int (iI 0)), (6, .int (iI (-1))), (4, .long (jJ r_9)), (3, .int (iI x_7)), (0, .ref (b + 0)), (1, .int (iI a1)), (2, .int (iI a2))]) hx hb dX11_hangs_43 hl (by decide) rfl (fun ls hl => ?_)
    obtain ⟨y_14, S_15, hc_16, hM⟩ := bd2_some hM
    have hK_17 : ∀ (H : Heap) (locs : List Loc) (ls : Array Slot), gW D cy b n s H locs (enc b cy X S_15) → lv_has ls 11 [(6, .int (iI y_14))] → W p l e (gRm 7 0 0) s m args below meth c H locs 0 0 (gQI D cy b s args below 0 0 (fun r u => r = iI o1 ∧ u = (n, enc b cy X o2))) (F0 m 152 ls []) := by
      intro H locs ls hG hl
      refine lv_iload hx hb dX11_hangs_152 (lv_at hl 0 rfl) ?_
      cases hM
      exact g_iret S hr hlk hG hsz dX11_hangs_154 ⟨Nat.le_of_ble_eq_true rfl, Nat.le_of_ble_eq_true rfl⟩ ⟨rfl, rfl⟩
    have loop_18 : ∀ (f : Nat) (v_10 : Int) (v_11 : Int) (v_12 : Int) (S_13 : St) (H : Heap) (locs : List Loc) (ls : Array Slot), mX11_hangs_45 x_7 a1 a2 f v_10 v_11 v_12 S_13 = some (y_14, S_15) → gW D cy b n s H locs (enc b cy X S_13) → lv_has ls 11 [(7, .int (iI v_10)), (6, .int (iI v_11)), (4, .long (jJ v_12)), (3, .int (iI x_7)), (0, .ref (b + 0)), (1, .int (iI a1)), (2, .int (iI a2))] → W p l e (gRm 7 0 0) s m args below meth c H locs 0 0 (gQI D cy b s args below 0 0 (fun r u => r = iI o1 ∧ u = (n, enc b cy X o2))) (F0 m 45 ls []) := by
      clear hM
      intro f
      induction f with
      | zero => intro v_10 v_11 v_12 S_13 H locs ls hM; rw [mX11_hangs_45] at hM; cases hM
      | succ f_20 ih_19 =>
        intro v_10 v_11 v_12 S_13 H locs ls hM hG hl
        rw [mX11_hangs_45] at hM
        refine lv_iload hx hb dX11_hangs_45 (lv_at hl 0 rfl) ?_
        refine lv_aload_n hx hb dX11_hangs_47 rfl (lv_at hl 4 rfl) ?_
        refine m_get S hG 0 0 2 rfl ec_0 cpX11 wm_667 dX11_hangs_48 rfl (Nat.lt_of_lt_of_le (Nat.le_of_ble_eq_true rfl) hn) (by decide) ?_
        refine m_get S hG 2 2 1 rfl ec_2 cpX2 wm_222 dX11_hangs_51 rfl (Nat.lt_of_lt_of_le (Nat.le_of_ble_eq_true rfl) hn) (by decide) ?_
        obtain ⟨hg_21, hM⟩ := gd_some hM
        refine gi_icmp_ge (tgt := 152) hx hb dX11_hangs_54 (by decide) hg_21.1 hg_21.2 (fun c_22 => ?_) (fun c_22 => ?_)
        · replace hM := ifp hM c_22
          cases hM
          exact hK_17 H locs ls hG (lv_sub hl [1] rfl)
        · replace hM := ifn hM c_22
          refine lv_iconst (v := iI 0) hx hb dX11_hangs_57 (by decide) ?_
          refine lv_istore (lv' := [(8, .int (iI 0)), (7, .int (iI v_10)), (6, .int (iI v_11)), (4, .long (jJ v_12)), (3, .int (iI x_7)), (0, .ref (b + 0)), (1, .int (iI a1)), (2, .int (iI a2))]) hx hb dX11_hangs_58 hl (by decide) rfl (fun ls hl => ?_)
          obtain ⟨y_27, y_28, S_29, hc_30, hM⟩ := bd3_some hM
          have hK_31 : ∀ (H : Heap) (locs : List Loc) (ls : Array Slot), gW D cy b n s H locs (enc b cy X S_29) → lv_has ls 11 [(7, .int (iI v_10)), (3, .int (iI x_7)), (0, .ref (b + 0)), (1, .int (iI a1)), (2, .int (iI a2)), (4, .long (jJ y_27)), (6, .int (iI y_28))] → W p l e (gRm 7 0 0) s m args below meth c H locs 0 0 (gQI D cy b s args below 0 0 (fun r u => r = iI o1 ∧ u = (n, enc b cy X o2))) (F0 m 146 ls []) := by
            intro H locs ls hG hl
            refine lv_iinc (v := iI (v_10 + 1)) (lv' := [(7, .int (iI (v_10 + 1))), (3, .int (iI x_7)), (0, .ref (b + 0)), (1, .int (iI a1)), (2, .int (iI a2)), (4, .long (jJ y_27)), (6, .int (iI y_28))]) hx hb dX11_hangs_146 hl (k := 0) rfl ((iI_add v_10 (1)).trans (congrArg iI (by omega))) (by decide) rfl (fun ls hl => ?_)
            refine lv_goto (tgt := 45) hx hb dX11_hangs_149 (by decide) ?_
            exact ih_19 (v_10 + 1) y_28 y_27 S_29 H locs ls hM hG (lv_sub hl [0, 6, 5, 1, 2, 3, 4] rfl)
          have loop_32 : ∀ (f : Nat) (v_23 : Int) (v_24 : Int) (v_25 : Int) (S_26 : St) (H : Heap) (locs : List Loc) (ls : Array Slot), mX11_hangs_60 v_10 x_7 a1 a2 f v_23 v_24 v_25 S_26 = some (y_27, y_28, S_29) → gW D cy b n s H locs (enc b cy X S_26) → lv_has ls 11 [(8, .int (iI v_23)), (7, .int (iI v_10)), (6, .int (iI v_24)), (4, .long (jJ v_25)), (3, .int (iI x_7)), (0, .ref (b + 0)), (1, .int (iI a1)), (2, .int (iI a2))] → W p l e (gRm 7 0 0) s m args below meth c H locs 0 0 (gQI D cy b s args below 0 0 (fun r u => r = iI o1 ∧ u = (n, enc b cy X o2))) (F0 m 60 ls []) := by
            clear hM
            intro f
            induction f with
            | zero => intro v_23 v_24 v_25 S_26 H locs ls hM; rw [mX11_hangs_60] at hM; cases hM
            | succ f_34 ih_33 =>
              intro v_23 v_24 v_25 S_26 H locs ls hM hG hl
              rw [mX11_hangs_60] at hM
              refine lv_iload_n hx hb dX11_hangs_60 rfl (lv_at hl 4 rfl) ?_
              refine lv_iload hx hb dX11_hangs_61 (lv_at hl 1 rfl) ?_
              refine gi_shr hx hb dX11_hangs_63 ?_
              refine lv_iconst (v := iI 1) hx hb dX11_hangs_64 (by decide) ?_
              refine gi_and hx hb dX11_hangs_65 ?_
              obtain ⟨hg_35, hM⟩ := gd_some hM
              refine gi_if_eq (tgt := 146) hx hb dX11_hangs_66 (by decide) hg_35 (fun c_36 => ?_) (fun c_36 => ?_)
              · replace hM := ifp hM c_36
                cases hM
                exact hK_31 H locs ls hG (lv_sub hl [1, 4, 5, 6, 7, 3, 2] rfl)
              · replace hM := ifn hM c_36
                refine lv_iload hx hb dX11_hangs_69 (lv_at hl 0 rfl) ?_
                refine lv_aload_n hx hb dX11_hangs_71 rfl (lv_at hl 5 rfl) ?_
                refine m_get S hG 0 0 2 rfl ec_0 cpX11 wm_667 dX11_hangs_72 rfl (Nat.lt_of_lt_of_le (Nat.le_of_ble_eq_true rfl) hn) (by decide) ?_
                refine m_get S hG 2 2 10 rfl ec_2 cpX2 wm_266 dX11_hangs_75 rfl (Nat.lt_of_lt_of_le (Nat.le_of_ble_eq_true rfl) hn) (by decide) ?_
                refine lv_iload hx hb dX11_hangs_78 (lv_at hl 1 rfl) ?_
                obtain ⟨hg_37, hM⟩ := gd_some hM
                refine mi_ald S hG 8 8 rfl ec_8 (Nat.lt_of_lt_of_le (Nat.le_of_ble_eq_true rfl) hn) dX11_hangs_80 hg_37 (by decide) ?_
                obtain ⟨hg_38, hM⟩ := gd_some hM
                refine gi_icmp_ge (tgt := 146) hx hb dX11_hangs_81 (by decide) hg_38.1 hg_38.2 (fun c_39 => ?_) (fun c_39 => ?_)
                · replace hM := ifp hM c_39
                  cases hM
                  exact hK_31 H locs ls hG (lv_sub hl [1, 4, 5, 6, 7, 3, 2] rfl)
                · replace hM := ifn hM c_39
                  refine lv_aload_n hx hb dX11_hangs_84 rfl (lv_at hl 5 rfl) ?_
                  refine m_get S hG 0 0 2 rfl ec_0 cpX11 wm_667 dX11_hangs_85 rfl (Nat.lt_of_lt_of_le (Nat.le_of_ble_eq_true rfl) hn) (by decide) ?_
                  refine lv_iload hx hb dX11_hangs_88 (lv_at hl 1 rfl) ?_
                  refine lv_iload hx hb dX11_hangs_90 (lv_at hl 0 rfl) ?_
                  obtain ⟨r_41, hc_40, hM⟩ := bd1_some hM
                  refine g_vi (As := [.int (iI v_10), .int (iI v_23)]) (rest := []) S hG hsz (vX2_isOff_2 l hn v_10 v_23 hc_40) wV_11_243 (ec_2 _) cpX2 (Nat.lt_of_lt_of_le (Nat.le_of_ble_eq_true rfl) hn) dX11_hangs_92 rfl hl.1 (ar := 2) (by decide +kernel) rfl ⟨Nat.le_of_ble_eq_true rfl, Nat.le_of_ble_eq_true rfl, Nat.le_of_ble_eq_true rfl, Nat.le_of_ble_eq_true rfl⟩ (Nat.le_of_ble_eq_true rfl) (fun rv uu H locs hp hG => ?_)
                  obtain ⟨rfl, rfl⟩ := hp
                  replace hG : gW D cy b n s H locs (enc b cy X S_26) := hG
                  obtain ⟨z_42, S_43, hc_44, hM⟩ := bd2_some hM
                  have hK_45 : ∀ (H : Heap) (locs : List Loc) (ls : Array Slot), gW D cy b n s H locs (enc b cy X S_43) → lv_has ls 11 [(8, .int (iI v_23)), (7, .int (iI v_10)), (6, .int (iI v_24)), (4, .long (jJ v_25)), (3, .int (iI x_7)), (0, .ref (b + 0)), (1, .int (iI a1)), (2, .int (iI a2))] → W p l e (gRm 7 0 0) s m args below meth c H locs 0 0 (gQI D cy b s args below 0 0 (fun r u => r = iI o1 ∧ u = (n, enc b cy X o2))) (F0 m 116 ls [.long (jJ z_42)]) := by
                    intro H locs ls hG hl
                    refine lv_lstore (lv' := [(9, .long (jJ z_42)), (8, .int (iI v_23)), (7, .int (iI v_10)), (6, .int (iI v_24)), (4, .long (jJ v_25)), (3, .int (iI x_7)), (0, .ref (b + 0)), (1, .int (iI a1)), (2, .int (iI a2))]) hx hb dX11_hangs_116 hl (by decide) rfl (fun ls hl => ?_)
                    refine lv_lload hx hb dX11_hangs_118 (lv_at hl 0 rfl) ?_
                    refine lv_lload hx hb dX11_hangs_120 (lv_at hl 4 rfl) ?_
                    obtain ⟨hg_46, hM⟩ := gd_some hM
                    refine gj_cmp_ge (tgt := 140) hx hb dX11_hangs_122 dX11_hangs_123 (by decide) hg_46.1 hg_46.2 (fun c_47 => ?_) (fun c_47 => ?_)
                    · replace hM := ifp hM c_47
                      refine lv_iinc (v := iI (v_23 + 1)) (lv' := [(8, .int (iI (v_23 + 1))), (9, .long (jJ z_42)), (7, .int (iI v_10)), (6, .int (iI v_24)), (4, .long (jJ v_25)), (3, .int (iI x_7)), (0, .ref (b + 0)), (1, .int (iI a1)), (2, .int (iI a2))]) hx hb dX11_hangs_140 hl (k := 1) rfl ((iI_add v_23 (1)).trans (congrArg iI (by omega))) (by decide) rfl (fun ls hl => ?_)
                      refine lv_goto (tgt := 60) hx hb dX11_hangs_143 (by decide) ?_
                      exact ih_33 (v_23 + 1) v_24 v_25 S_43 H locs ls hM hG (lv_sub hl [0, 2, 3, 4, 5, 6, 7, 8] rfl)
                    · replace hM := ifn hM c_47
                      refine lv_lload hx hb dX11_hangs_126 (lv_at hl 0 rfl) ?_
                      refine lv_lstore (lv' := [(4, .long (jJ z_42)), (9, .long (jJ z_42)), (8, .int (iI v_23)), (7, .int (iI v_10)), (6, .int (iI v_24)), (3, .int (iI x_7)), (0, .ref (b + 0)), (1, .int (iI a1)), (2, .int (iI a2))]) hx hb dX11_hangs_128 hl (by decide) rfl (fun ls hl => ?_)
                      refine lv_bipush (v := iI 10) hx hb dX11_hangs_130 (by decide) ?_
                      refine lv_iload hx hb dX11_hangs_132 (lv_at hl 3 rfl) ?_
                      refine gi_mul hx hb dX11_hangs_134 ?_
                      refine lv_iload hx hb dX11_hangs_135 (lv_at hl 2 rfl) ?_
                      refine gi_add hx hb dX11_hangs_137 ?_
                      refine gi_nm (fun x_48 ex_48 => ?_)
                      replace hM := nx_at hM ex_48
                      clear ex_48
                      refine lv_istore (lv' := [(6, .int (iI x_48)), (4, .long (jJ z_42)), (9, .long (jJ z_42)), (8, .int (iI v_23)), (7, .int (iI v_10)), (3, .int (iI x_7)), (0, .ref (b + 0)), (1, .int (iI a1)), (2, .int (iI a2))]) hx hb dX11_hangs_138 hl (by decide) rfl (fun ls hl => ?_)
                      refine lv_iinc (v := iI (v_23 + 1)) (lv' := [(8, .int (iI (v_23 + 1))), (6, .int (iI x_48)), (4, .long (jJ z_42)), (9, .long (jJ z_42)), (7, .int (iI v_10)), (3, .int (iI x_7)), (0, .ref (b + 0)), (1, .int (iI a1)), (2, .int (iI a2))]) hx hb dX11_hangs_140 hl (k := 3) rfl ((iI_add v_23 (1)).trans (congrArg iI (by omega))) (by decide) rfl (fun ls hl => ?_)
                      refine lv_goto (tgt := 60) hx hb dX11_hangs_143 (by decide) ?_
                      exact ih_33 (v_23 + 1) x_48 z_42 S_43 H locs ls hM hG (lv_sub hl [0, 4, 1, 2, 5, 6, 7, 8] rfl)
                  clear hM
                  replace hM := hc_44
                  obtain ⟨hg_49, hM⟩ := gd_some hM
                  refine gi_if_eq (tgt := 103) hx hb dX11_hangs_95 (by decide) hg_49 (fun c_50 => ?_) (fun c_50 => ?_)
                  · replace hM := ifp hM c_50
                    refine lv_aload_n hx hb dX11_hangs_103 rfl (lv_at hl 5 rfl) ?_
                    refine m_get S hG 0 0 8 rfl ec_0 cpX11 wm_673 dX11_hangs_104 rfl (Nat.lt_of_lt_of_le (Nat.le_of_ble_eq_true rfl) hn) (by decide) ?_
                    refine lv_iload hx hb dX11_hangs_107 (lv_at hl 1 rfl) ?_
                    refine lv_iload hx hb dX11_hangs_109 (lv_at hl 0 rfl) ?_
                    refine lv_iload_n hx hb dX11_hangs_111 rfl (lv_at hl 6 rfl) ?_
                    refine lv_iload_n hx hb dX11_hangs_112 rfl (lv_at hl 7 rfl) ?_
                    obtain ⟨r_52, S_53, hc_51, hM⟩ := bd2_some hM
                    refine g_vl (As := [.int (iI v_10), .int (iI v_23), .int (iI a1), .int (iI a2)]) (rest := []) S hG hsz (vX4_thingsWithout l hn v_10 v_23 a1 a2 hc_51) wV_11_240 (ec_47 _) cpX4 (Nat.lt_of_lt_of_le (Nat.le_of_ble_eq_true rfl) hn) dX11_hangs_113 rfl hl.1 (ar := 4) (by decide +kernel) rfl ⟨Nat.le_of_ble_eq_true rfl, Nat.le_of_ble_eq_true rfl, Nat.le_of_ble_eq_true rfl, Nat.le_of_ble_eq_true rfl⟩ (Nat.le_of_ble_eq_true rfl) (fun rv uu H locs hp hG => ?_)
                    obtain ⟨rfl, rfl⟩ := hp
                    replace hG : gW D cy b n s H locs (enc b cy X S_53) := hG
                    cases hM
                    exact hK_45 H locs ls hG (lv_sub hl [0, 1, 2, 3, 4, 5, 6, 7] rfl)
                  · replace hM := ifn hM c_50
                    refine lv_lload hx hb dX11_hangs_98 (lv_at hl 3 rfl) ?_
                    refine lv_goto (tgt := 116) hx hb dX11_hangs_100 (by decide) ?_
                    cases hM
                    exact hK_45 H locs ls hG (lv_sub hl [0, 1, 2, 3, 4, 5, 6, 7] rfl)
          exact loop_32 FU 0 v_11 v_12 S_13 H locs ls hc_30 hG (lv_sub hl [0, 1, 2, 3, 4, 5, 6, 7] rfl)
    exact loop_18 FU 0 (-1) r_9 S0 H locs ls hc_16 hG (lv_sub hl [0, 1, 2, 3, 4, 5, 6] rfl)
  · replace hM := ifp hM c_4
    refine lv_bipush (v := iI (-2)) hx hb dX11_hangs_9 (by decide) ?_
    cases hM
    exact g_iret S hr hlk hG hsz dX11_hangs_11 ⟨Nat.le_of_ble_eq_true rfl, Nat.le_of_ble_eq_true rfl⟩ ⟨rfl, rfl⟩
