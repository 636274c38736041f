theorem dX12_in_0 : decode cX12_in 0 = .ok (.lload_n 0, 1) := by decide +kernel
theorem dX12_in_1 : decode cX12_in 1 = .ok (.lload_n 2, 1) := by decide +kernel
theorem dX12_in_2 : decode cX12_in 2 = .ok (.lcmp, 1) := by decide +kernel
theorem dX12_in_3 : decode cX12_in 3 = .ok (.ifCond .lt 14, 3) := by decide +kernel
theorem dX12_in_17 : decode cX12_in 17 = .ok (.iconst 0, 1) := by decide +kernel
theorem dX12_in_18 : decode cX12_in 18 = .ok (.ireturn, 1) := by decide +kernel
theorem dX12_in_6 : decode cX12_in 6 = .ok (.lload_n 0, 1) := by decide +kernel
theorem dX12_in_7 : decode cX12_in 7 = .ok (.lload 4, 2) := by decide +kernel
theorem dX12_in_9 : decode cX12_in 9 = .ok (.lcmp, 1) := by decide +kernel
theorem dX12_in_10 : decode cX12_in 10 = .ok (.ifCond .gt 7, 3) := by decide +kernel
theorem dX12_in_13 : decode cX12_in 13 = .ok (.iconst 1, 1) := by decide +kernel
theorem dX12_in_14 : decode cX12_in 14 = .ok (.goto 4, 3) := by decide +kernel
theorem dX11_known_0 : decode cX11_known 0 = .ok (.iload_n 1, 1) := by decide +kernel
theorem dX11_known_1 : decode cX11_known 1 = .ok (.ifCond .lt 18, 3) := by decide +kernel
theorem dX11_known_19 : decode cX11_known 19 = .ok (.iconst 0, 1) := by decide +kernel
theorem dX11_known_20 : decode cX11_known 20 = .ok (.ireturn, 1) := by decide +kernel
theorem dX11_known_4 : decode cX11_known 4 = .ok (.iload_n 1, 1) := by decide +kernel
theorem dX11_known_5 : decode cX11_known 5 = .ok (.aload_n 0, 1) := by decide +kernel
theorem dX11_known_6 : decode cX11_known 6 = .ok (.getfield 20, 3) := by decide +kernel
theorem dX11_known_9 : decode cX11_known 9 = .ok (.getfield 156, 3) := by decide +kernel
theorem wm_221 : (Jvm.Cond.fieldLink "GrownKinds" (156 : Nat) "GrownKinds$Grammar" "kinds" "I") ∈ gT := gT_in (List.mem_of_getElem? (i := 221) (by decide +kernel)) (by decide +kernel)
theorem dX11_known_12 : decode cX11_known 12 = .ok (.if_icmp .ge 7, 3) := by decide +kernel
theorem dX11_sized_0 : decode cX11_sized 0 = .ok (.aload_n 0, 1) := by decide +kernel
theorem dX11_sized_1 : decode cX11_sized 1 = .ok (.iload_n 1, 1) := by decide +kernel
theorem dX11_sized_2 : decode cX11_sized 2 = .ok (.invokevirtual 168, 3) := by decide +kernel
theorem wm_1109 : (Jvm.Cond.methodLink "GrownKinds" (168 : Nat) ({ cls := "GrownKinds", name := "known", desc := "(I)Z" } : Jvm.MethodName)) ∈ gT := gT_in (List.mem_of_getElem? (i := 1109) (by decide +kernel)) (by decide +kernel)
theorem wm_1111 : (Jvm.Cond.instanceMethod ({ cls := "GrownKinds", name := "known", desc := "(I)Z" } : Jvm.MethodName)) ∈ gT := gT_in (List.mem_of_getElem? (i := 1111) (by decide +kernel)) (by decide +kernel)
theorem wm_48 : Cond.selects "GrownKinds" ⟨"GrownKinds", "known", "(I)Z"⟩ ⟨"GrownKinds", "known", "(I)Z"⟩ ∈ gT := gT_in (List.mem_of_getElem? (i := 48) (by decide +kernel)) (by decide +kernel)
theorem wm_176 : (Jvm.Cond.initialized "GrownKinds") ∈ gT := gT_in (List.mem_of_getElem? (i := 176) (by decide +kernel)) (by decide +kernel)
theorem wm_1112 : (Jvm.Cond.code ({ cls := "GrownKinds", name := "known", desc := "(I)Z" } : Jvm.MethodName) prog_1_method_9_code (2 : Nat) (Option.some Jvm.ClassFile.FieldType.boolean)) ∈ gT := gT_in (List.mem_of_getElem? (i := 1112) (by decide +kernel)) (by decide +kernel)
theorem dX11_sized_5 : decode cX11_sized 5 = .ok (.ifCond .eq 22, 3) := by decide +kernel
theorem dX11_sized_27 : decode cX11_sized 27 = .ok (.iconst 0, 1) := by decide +kernel
theorem dX11_sized_28 : decode cX11_sized 28 = .ok (.ireturn, 1) := by decide +kernel
theorem dX11_termed_0 : decode cX11_termed 0 = .ok (.aload_n 0, 1) := by decide +kernel
theorem dX11_termed_1 : decode cX11_termed 1 = .ok (.iload_n 1, 1) := by decide +kernel
theorem dX11_termed_2 : decode cX11_termed 2 = .ok (.invokevirtual 168, 3) := by decide +kernel
theorem dX11_termed_5 : decode cX11_termed 5 = .ok (.ifCond .eq 24, 3) := by decide +kernel
theorem dX11_termed_29 : decode cX11_termed 29 = .ok (.iconst 0, 1) := by decide +kernel
theorem dX11_termed_30 : decode cX11_termed 30 = .ok (.ireturn, 1) := by decide +kernel
theorem dX11_boxy_0 : decode cX11_boxy 0 = .ok (.aload_n 0, 1) := by decide +kernel
theorem dX11_boxy_1 : decode cX11_boxy 1 = .ok (.iload_n 1, 1) := by decide +kernel
theorem dX11_boxy_2 : decode cX11_boxy 2 = .ok (.iload_n 2, 1) := by decide +kernel
theorem dX11_boxy_3 : decode cX11_boxy 3 = .ok (.invokevirtual 175, 3) := by decide +kernel
theorem wm_1162 : (Jvm.Cond.methodLink "GrownKinds" (175 : Nat) ({ cls := "GrownKinds", name := "sized", desc := "(II)Z" } : Jvm.MethodName)) ∈ gT := gT_in (List.mem_of_getElem? (i := 1162) (by decide +kernel)) (by decide +kernel)
theorem wm_1164 : (Jvm.Cond.instanceMethod ({ cls := "GrownKinds", name := "sized", desc := "(II)Z" } : Jvm.MethodName)) ∈ gT := gT_in (List.mem_of_getElem? (i := 1164) (by decide +kernel)) (by decide +kernel)
theorem wm_49 : Cond.selects "GrownKinds" ⟨"GrownKinds", "sized", "(II)Z"⟩ ⟨"GrownKinds", "sized", "(II)Z"⟩ ∈ gT := gT_in (List.mem_of_getElem? (i := 49) (by decide +kernel)) (by decide +kernel)
theorem wm_1165 : (Jvm.Cond.code ({ cls := "GrownKinds", name := "sized", desc := "(II)Z" } : Jvm.MethodName) prog_1_method_10_code (3 : Nat) (Option.some Jvm.ClassFile.FieldType.boolean)) ∈ gT := gT_in (List.mem_of_getElem? (i := 1165) (by decide +kernel)) (by decide +kernel)
theorem dX11_boxy_6 : decode cX11_boxy 6 = .ok (.ifCond .eq 21, 3) := by decide +kernel
theorem dX11_boxy_27 : decode cX11_boxy 27 = .ok (.iconst 0, 1) := by decide +kernel
theorem dX11_boxy_28 : decode cX11_boxy 28 = .ok (.ireturn, 1) := by decide +kernel
theorem dX11_lettered_0 : decode cX11_lettered 0 = .ok (.iload_n 0, 1) := by decide +kernel
theorem dX11_lettered_1 : decode cX11_lettered 1 = .ok (.ifCond .lt 13, 3) := by decide +kernel
theorem dX11_lettered_14 : decode cX11_lettered 14 = .ok (.iconst 0, 1) := by decide +kernel
theorem dX11_lettered_15 : decode cX11_lettered 15 = .ok (.ireturn, 1) := by decide +kernel
theorem dX11_lettered_4 : decode cX11_lettered 4 = .ok (.iload_n 0, 1) := by decide +kernel
theorem dX11_lettered_5 : decode cX11_lettered 5 = .ok (.bipush 26, 2) := by decide +kernel
theorem dX11_lettered_7 : decode cX11_lettered 7 = .ok (.if_icmp .ge 7, 3) := by decide +kernel
theorem dX11_lettered_10 : decode cX11_lettered 10 = .ok (.iconst 1, 1) := by decide +kernel
theorem dX11_lettered_11 : decode cX11_lettered 11 = .ok (.goto 4, 3) := by decide +kernel
theorem dX11_terms_0 : decode cX11_terms 0 = .ok (.aload_n 0, 1) := by decide +kernel
theorem dX11_terms_1 : decode cX11_terms 1 = .ok (.iload_n 1, 1) := by decide +kernel
theorem dX11_terms_2 : decode cX11_terms 2 = .ok (.invokevirtual 168, 3) := by decide +kernel
theorem dX11_terms_5 : decode cX11_terms 5 = .ok (.ifCond .eq 15, 3) := by decide +kernel
theorem dX11_terms_20 : decode cX11_terms 20 = .ok (.bipush (-2), 2) := by decide +kernel
theorem dX11_terms_22 : decode cX11_terms 22 = .ok (.ireturn, 1) := by decide +kernel
theorem dX11_off_0 : decode cX11_off 0 = .ok (.aload_n 0, 1) := by decide +kernel
theorem dX11_off_1 : decode cX11_off 1 = .ok (.iload_n 1, 1) := by decide +kernel
theorem dX11_off_2 : decode cX11_off 2 = .ok (.invokevirtual 168, 3) := by decide +kernel
theorem dX11_off_5 : decode cX11_off 5 = .ok (.ifCond .eq 15, 3) := by decide +kernel
theorem dX11_off_20 : decode cX11_off 20 = .ok (.bipush (-2), 2) := by decide +kernel
theorem dX11_off_22 : decode cX11_off 22 = .ok (.ireturn, 1) := by decide +kernel
theorem dX11_letters_0 : decode cX11_letters 0 = .ok (.aload_n 0, 1) := by decide +kernel
theorem dX11_letters_1 : decode cX11_letters 1 = .ok (.iload_n 1, 1) := by decide +kernel
theorem dX11_letters_2 : decode cX11_letters 2 = .ok (.invokevirtual 168, 3) := by decide +kernel
theorem dX11_letters_5 : decode cX11_letters 5 = .ok (.ifCond .eq 15, 3) := by decide +kernel
theorem dX11_letters_20 : decode cX11_letters 20 = .ok (.bipush (-2), 2) := by decide +kernel
theorem dX11_letters_22 : decode cX11_letters 22 = .ok (.ireturn, 1) := by decide +kernel
theorem dX11_uses_0 : decode cX11_uses 0 = .ok (.aload_n 0, 1) := by decide +kernel
theorem dX11_uses_1 : decode cX11_uses 1 = .ok (.iload_n 1, 1) := by decide +kernel
theorem dX11_uses_2 : decode cX11_uses 2 = .ok (.invokevirtual 168, 3) := by decide +kernel
theorem dX11_uses_5 : decode cX11_uses 5 = .ok (.ifCond .eq 15, 3) := by decide +kernel
theorem dX11_uses_20 : decode cX11_uses 20 = .ok (.bipush (-2), 2) := by decide +kernel
theorem dX11_uses_22 : decode cX11_uses 22 = .ok (.ireturn, 1) := by decide +kernel
theorem dX11_reaches_0 : decode cX11_reaches 0 = .ok (.aload_n 0, 1) := by decide +kernel
theorem dX11_reaches_1 : decode cX11_reaches 1 = .ok (.iload_n 1, 1) := by decide +kernel
theorem dX11_reaches_2 : decode cX11_reaches 2 = .ok (.invokevirtual 168, 3) := by decide +kernel
theorem dX11_reaches_5 : decode cX11_reaches 5 = .ok (.ifCond .eq 17, 3) := by decide +kernel
theorem dX11_reaches_22 : decode cX11_reaches 22 = .ok (.bipush (-2), 2) := by decide +kernel
theorem dX11_reaches_24 : decode cX11_reaches 24 = .ok (.ireturn, 1) := by decide +kernel
theorem dX11_empty_0 : decode cX11_empty 0 = .ok (.aload_n 0, 1) := by decide +kernel
theorem dX11_empty_1 : decode cX11_empty 1 = .ok (.iload_n 1, 1) := by decide +kernel
theorem dX11_empty_2 : decode cX11_empty 2 = .ok (.invokevirtual 168, 3) := by decide +kernel
theorem dX11_empty_5 : decode cX11_empty 5 = .ok (.ifCond .eq 17, 3) := by decide +kernel
theorem dX11_empty_22 : decode cX11_empty 22 = .ok (.bipush (-2), 2) := by decide +kernel
theorem dX11_empty_24 : decode cX11_empty 24 = .ok (.ireturn, 1) := by decide +kernel
theorem dX11_leans_0 : decode cX11_leans 0 = .ok (.aload_n 0, 1) := by decide +kernel
theorem dX11_leans_1 : decode cX11_leans 1 = .ok (.iload_n 1, 1) := by decide +kernel
theorem dX11_leans_2 : decode cX11_leans 2 = .ok (.invokevirtual 168, 3) := by decide +kernel
theorem dX11_leans_5 : decode cX11_leans 5 = .ok (.ifCond .eq 15, 3) := by decide +kernel
theorem dX11_leans_20 : decode cX11_leans 20 = .ok (.bipush (-2), 2) := by decide +kernel
theorem dX11_leans_22 : decode cX11_leans 22 = .ok (.ireturn, 1) := by decide +kernel
theorem dX11_blank_0 : decode cX11_blank 0 = .ok (.aload_n 0, 1) := by decide +kernel
theorem dX11_blank_1 : decode cX11_blank 1 = .ok (.getfield 20, 3) := by decide +kernel
theorem dX11_blank_4 : decode cX11_blank 4 = .ok (.getfield 165, 3) := by decide +kernel
theorem wm_224 : (Jvm.Cond.fieldLink "GrownKinds" (165 : Nat) "GrownKinds$Grammar" "lines" "I") ∈ gT := gT_in (List.mem_of_getElem? (i := 224) (by decide +kernel)) (by decide +kernel)
theorem dX11_blank_7 : decode cX11_blank 7 = .ok (.ifCond .ne 6, 3) := by decide +kernel
theorem dX11_blank_10 : decode cX11_blank 10 = .ok (.bipush (-2), 2) := by decide +kernel
theorem dX11_blank_12 : decode cX11_blank 12 = .ok (.ireturn, 1) := by decide +kernel
theorem dX11_things_0 : decode cX11_things 0 = .ok (.aload_n 0, 1) := by decide +kernel
theorem dX11_things_1 : decode cX11_things 1 = .ok (.iload_n 1, 1) := by decide +kernel
theorem dX11_things_2 : decode cX11_things 2 = .ok (.iload_n 2, 1) := by decide +kernel
theorem dX11_things_3 : decode cX11_things 3 = .ok (.invokevirtual 175, 3) := by decide +kernel
theorem dX11_things_6 : decode cX11_things 6 = .ok (.ifCond .eq 15, 3) := by decide +kernel
theorem dX11_things_21 : decode cX11_things 21 = .ok (.ldc2_w 210, 3) := by decide +kernel
theorem wm_1166 : (Jvm.Cond.constantLong "GrownKinds" (210 : Nat) (-2 : Int64)) ∈ gT := gT_in (List.mem_of_getElem? (i := 1166) (by decide +kernel)) (by decide +kernel)
theorem dX11_things_24 : decode cX11_things 24 = .ok (.lreturn, 1) := by decide +kernel
theorem dX11_labelled_0 : decode cX11_labelled 0 = .ok (.aload_n 0, 1) := by decide +kernel
theorem dX11_labelled_1 : decode cX11_labelled 1 = .ok (.iload_n 1, 1) := by decide +kernel
theorem dX11_labelled_2 : decode cX11_labelled 2 = .ok (.iload_n 2, 1) := by decide +kernel
theorem dX11_labelled_3 : decode cX11_labelled 3 = .ok (.invokevirtual 175, 3) := by decide +kernel
theorem dX11_labelled_6 : decode cX11_labelled 6 = .ok (.ifCond .eq 15, 3) := by decide +kernel
theorem dX11_labelled_21 : decode cX11_labelled 21 = .ok (.ldc2_w 210, 3) := by decide +kernel
theorem dX11_labelled_24 : decode cX11_labelled 24 = .ok (.lreturn, 1) := by decide +kernel
theorem dX11_marked_0 : decode cX11_marked 0 = .ok (.aload_n 0, 1) := by decide +kernel
theorem dX11_marked_1 : decode cX11_marked 1 = .ok (.iload_n 1, 1) := by decide +kernel
theorem dX11_marked_2 : decode cX11_marked 2 = .ok (.iload_n 2, 1) := by decide +kernel
theorem dX11_marked_3 : decode cX11_marked 3 = .ok (.invokevirtual 175, 3) := by decide +kernel
theorem dX11_marked_6 : decode cX11_marked 6 = .ok (.ifCond .eq 22, 3) := by decide +kernel
theorem dX11_marked_28 : decode cX11_marked 28 = .ok (.ldc2_w 210, 3) := by decide +kernel
theorem dX11_marked_31 : decode cX11_marked 31 = .ok (.lreturn, 1) := by decide +kernel
theorem dX11_by_0 : decode cX11_by 0 = .ok (.aload_n 0, 1) := by decide +kernel
theorem dX11_by_1 : decode cX11_by 1 = .ok (.iload_n 1, 1) := by decide +kernel
theorem dX11_by_2 : decode cX11_by 2 = .ok (.iload_n 2, 1) := by decide +kernel
theorem dX11_by_3 : decode cX11_by 3 = .ok (.invokevirtual 175, 3) := by decide +kernel
theorem dX11_by_6 : decode cX11_by 6 = .ok (.ifCond .eq 12, 3) := by decide +kernel
theorem dX11_by_18 : decode cX11_by 18 = .ok (.ldc2_w 210, 3) := by decide +kernel
theorem dX11_by_21 : decode cX11_by 21 = .ok (.lreturn, 1) := by decide +kernel
theorem dX11_without_0 : decode cX11_without 0 = .ok (.aload_n 0, 1) := by decide +kernel
theorem dX11_without_1 : decode cX11_without 1 = .ok (.iload_n 1, 1) := by decide +kernel
theorem dX11_without_2 : decode cX11_without 2 = .ok (.iload_n 2, 1) := by decide +kernel
theorem dX11_without_3 : decode cX11_without 3 = .ok (.invokevirtual 228, 3) := by decide +kernel
theorem wm_1222 : (Jvm.Cond.methodLink "GrownKinds" (228 : Nat) ({ cls := "GrownKinds", name := "termed", desc := "(II)Z" } : Jvm.MethodName)) ∈ gT := gT_in (List.mem_of_getElem? (i := 1222) (by decide +kernel)) (by decide +kernel)
theorem wm_1224 : (Jvm.Cond.instanceMethod ({ cls := "GrownKinds", name := "termed", desc := "(II)Z" } : Jvm.MethodName)) ∈ gT := gT_in (List.mem_of_getElem? (i := 1224) (by decide +kernel)) (by decide +kernel)
theorem wm_53 : Cond.selects "GrownKinds" ⟨"GrownKinds", "termed", "(II)Z"⟩ ⟨"GrownKinds", "termed", "(II)Z"⟩ ∈ gT := gT_in (List.mem_of_getElem? (i := 53) (by decide +kernel)) (by decide +kernel)
theorem wm_1225 : (Jvm.Cond.code ({ cls := "GrownKinds", name := "termed", desc := "(II)Z" } : Jvm.MethodName) prog_1_method_11_code (3 : Nat) (Option.some Jvm.ClassFile.FieldType.boolean)) ∈ gT := gT_in (List.mem_of_getElem? (i := 1225) (by decide +kernel)) (by decide +kernel)
theorem dX11_without_6 : decode cX11_without 6 = .ok (.ifCond .eq 13, 3) := by decide +kernel
theorem dX11_without_19 : decode cX11_without 19 = .ok (.ldc2_w 210, 3) := by decide +kernel
theorem dX11_without_22 : decode cX11_without 22 = .ok (.lreturn, 1) := by decide +kernel
theorem dX11_hangs_0 : decode cX11_hangs 0 = .ok (.aload_n 0, 1) := by decide +kernel
theorem dX11_hangs_1 : decode cX11_hangs 1 = .ok (.iload_n 1, 1) := by decide +kernel
theorem dX11_hangs_2 : decode cX11_hangs 2 = .ok (.iload_n 2, 1) := by decide +kernel
theorem dX11_hangs_3 : decode cX11_hangs 3 = .ok (.invokevirtual 175, 3) := by decide +kernel
theorem dX11_hangs_6 : decode cX11_hangs 6 = .ok (.ifCond .ne 6, 3) := by decide +kernel
theorem dX11_hangs_9 : decode cX11_hangs 9 = .ok (.bipush (-2), 2) := by decide +kernel
theorem dX11_hangs_11 : decode cX11_hangs 11 = .ok (.ireturn, 1) := by decide +kernel
theorem dX11_idle_0 : decode cX11_idle 0 = .ok (.aload_n 0, 1) := by decide +kernel
theorem dX11_idle_1 : decode cX11_idle 1 = .ok (.getfield 20, 3) := by decide +kernel
theorem dX11_idle_4 : decode cX11_idle 4 = .ok (.getfield 165, 3) := by decide +kernel
theorem dX11_idle_7 : decode cX11_idle 7 = .ok (.ifCond .ne 6, 3) := by decide +kernel
theorem dX11_idle_10 : decode cX11_idle 10 = .ok (.bipush (-2), 2) := by decide +kernel
theorem dX11_idle_12 : decode cX11_idle 12 = .ok (.ireturn, 1) := by decide +kernel
theorem dX11_first_0 : decode cX11_first 0 = .ok (.aload_n 0, 1) := by decide +kernel
theorem dX11_first_1 : decode cX11_first 1 = .ok (.iload_n 1, 1) := by decide +kernel
theorem dX11_first_2 : decode cX11_first 2 = .ok (.invokevirtual 168, 3) := by decide +kernel
theorem dX11_first_5 : decode cX11_first 5 = .ok (.ifCond .eq 17, 3) := by decide +kernel
theorem dX11_first_22 : decode cX11_first 22 = .ok (.bipush (-2), 2) := by decide +kernel
theorem dX11_first_24 : decode cX11_first 24 = .ok (.ireturn, 1) := by decide +kernel
theorem dX11_least_0 : decode cX11_least 0 = .ok (.aload_n 0, 1) := by decide +kernel
theorem dX11_least_1 : decode cX11_least 1 = .ok (.iload_n 1, 1) := by decide +kernel
theorem dX11_least_2 : decode cX11_least 2 = .ok (.lconst 1, 1) := by decide +kernel
theorem dX11_least_3 : decode cX11_least 3 = .ok (.invokevirtual 202, 3) := by decide +kernel
theorem wm_1146 : (Jvm.Cond.methodLink "GrownKinds" (202 : Nat) ({ cls := "GrownKinds", name := "first", desc := "(IJ)I" } : Jvm.MethodName)) ∈ gT := gT_in (List.mem_of_getElem? (i := 1146) (by decide +kernel)) (by decide +kernel)
theorem wm_1147 : (Jvm.Cond.instanceMethod ({ cls := "GrownKinds", name := "first", desc := "(IJ)I" } : Jvm.MethodName)) ∈ gT := gT_in (List.mem_of_getElem? (i := 1147) (by decide +kernel)) (by decide +kernel)
theorem wm_1148 : (Jvm.Cond.selects "GrownKinds" ({ cls := "GrownKinds", name := "first", desc := "(IJ)I" } : Jvm.MethodName) ({ cls := "GrownKinds", name := "first", desc := "(IJ)I" } : Jvm.MethodName)) ∈ gT := gT_in (List.mem_of_getElem? (i := 1148) (by decide +kernel)) (by decide +kernel)
theorem wm_1149 : (Jvm.Cond.code ({ cls := "GrownKinds", name := "first", desc := "(IJ)I" } : Jvm.MethodName) prog_1_method_26_code (5 : Nat) (Option.some Jvm.ClassFile.FieldType.int)) ∈ gT := gT_in (List.mem_of_getElem? (i := 1149) (by decide +kernel)) (by decide +kernel)
theorem dX11_least_6 : decode cX11_least 6 = .ok (.ireturn, 1) := by decide +kernel
theorem dX11_boxed_0 : decode cX11_boxed 0 = .ok (.aload_n 0, 1) := by decide +kernel
theorem dX11_boxed_1 : decode cX11_boxed 1 = .ok (.iload_n 1, 1) := by decide +kernel
theorem dX11_boxed_2 : decode cX11_boxed 2 = .ok (.iload_n 2, 1) := by decide +kernel
theorem dX11_boxed_3 : decode cX11_boxed 3 = .ok (.iload_n 3, 1) := by decide +kernel
theorem dX11_boxed_4 : decode cX11_boxed 4 = .ok (.invokevirtual 333, 3) := by decide +kernel
theorem wm_1175 : (Jvm.Cond.methodLink "GrownKinds" (333 : Nat) ({ cls := "GrownKinds", name := "boxy", desc := "(III)Z" } : Jvm.MethodName)) ∈ gT := gT_in (List.mem_of_getElem? (i := 1175) (by decide +kernel)) (by decide +kernel)
theorem wm_1177 : (Jvm.Cond.instanceMethod ({ cls := "GrownKinds", name := "boxy", desc := "(III)Z" } : Jvm.MethodName)) ∈ gT := gT_in (List.mem_of_getElem? (i := 1177) (by decide +kernel)) (by decide +kernel)
theorem wm_50 : Cond.selects "GrownKinds" ⟨"GrownKinds", "boxy", "(III)Z"⟩ ⟨"GrownKinds", "boxy", "(III)Z"⟩ ∈ gT := gT_in (List.mem_of_getElem? (i := 50) (by decide +kernel)) (by decide +kernel)
theorem wm_1178 : (Jvm.Cond.code ({ cls := "GrownKinds", name := "boxy", desc := "(III)Z" } : Jvm.MethodName) prog_1_method_13_code (4 : Nat) (Option.some Jvm.ClassFile.FieldType.boolean)) ∈ gT := gT_in (List.mem_of_getElem? (i := 1178) (by decide +kernel)) (by decide +kernel)
theorem dX11_boxed_7 : decode cX11_boxed 7 = .ok (.ifCond .eq 16, 3) := by decide +kernel
theorem dX11_boxed_23 : decode cX11_boxed 23 = .ok (.ldc2_w 210, 3) := by decide +kernel
theorem dX11_boxed_26 : decode cX11_boxed 26 = .ok (.lreturn, 1) := by decide +kernel
theorem dX11_upto_0 : decode cX11_upto 0 = .ok (.aload_n 0, 1) := by decide +kernel
theorem dX11_upto_1 : decode cX11_upto 1 = .ok (.iload_n 1, 1) := by decide +kernel
theorem dX11_upto_2 : decode cX11_upto 2 = .ok (.iconst 0, 1) := by decide +kernel
theorem dX11_upto_3 : decode cX11_upto 3 = .ok (.iload_n 2, 1) := by decide +kernel
theorem dX11_upto_4 : decode cX11_upto 4 = .ok (.invokevirtual 212, 3) := by decide +kernel
theorem wm_1171 : (Jvm.Cond.methodLink "GrownKinds" (212 : Nat) ({ cls := "GrownKinds", name := "boxed", desc := "(III)J" } : Jvm.MethodName)) ∈ gT := gT_in (List.mem_of_getElem? (i := 1171) (by decide +kernel)) (by decide +kernel)
theorem wm_1172 : (Jvm.Cond.instanceMethod ({ cls := "GrownKinds", name := "boxed", desc := "(III)J" } : Jvm.MethodName)) ∈ gT := gT_in (List.mem_of_getElem? (i := 1172) (by decide +kernel)) (by decide +kernel)
theorem wm_1173 : (Jvm.Cond.selects "GrownKinds" ({ cls := "GrownKinds", name := "boxed", desc := "(III)J" } : Jvm.MethodName) ({ cls := "GrownKinds", name := "boxed", desc := "(III)J" } : Jvm.MethodName)) ∈ gT := gT_in (List.mem_of_getElem? (i := 1173) (by decide +kernel)) (by decide +kernel)
theorem wm_1174 : (Jvm.Cond.code ({ cls := "GrownKinds", name := "boxed", desc := "(III)J" } : Jvm.MethodName) prog_1_method_52_code (4 : Nat) (Option.some Jvm.ClassFile.FieldType.long)) ∈ gT := gT_in (List.mem_of_getElem? (i := 1174) (by decide +kernel)) (by decide +kernel)
theorem dX11_upto_7 : decode cX11_upto 7 = .ok (.lreturn, 1) := by decide +kernel
theorem dX11_listing_0 : decode cX11_listing 0 = .ok (.aload_n 0, 1) := by decide +kernel
theorem dX11_listing_1 : decode cX11_listing 1 = .ok (.iload_n 1, 1) := by decide +kernel
theorem dX11_listing_2 : decode cX11_listing 2 = .ok (.iload_n 2, 1) := by decide +kernel
theorem dX11_listing_3 : decode cX11_listing 3 = .ok (.invokevirtual 175, 3) := by decide +kernel
theorem dX11_listing_6 : decode cX11_listing 6 = .ok (.ifCond .ne 6, 3) := by decide +kernel
theorem dX11_listing_9 : decode cX11_listing 9 = .ok (.bipush (-2), 2) := by decide +kernel
theorem dX11_listing_11 : decode cX11_listing 11 = .ok (.ireturn, 1) := by decide +kernel
theorem dX11_spelling_0 : decode cX11_spelling 0 = .ok (.aload_n 0, 1) := by decide +kernel
theorem dX11_spelling_1 : decode cX11_spelling 1 = .ok (.iload_n 1, 1) := by decide +kernel
theorem dX11_spelling_2 : decode cX11_spelling 2 = .ok (.iload_n 2, 1) := by decide +kernel
theorem dX11_spelling_3 : decode cX11_spelling 3 = .ok (.invokevirtual 251, 3) := by decide +kernel
theorem wm_1269 : (Jvm.Cond.methodLink "GrownKinds" (251 : Nat) ({ cls := "GrownKinds", name := "listing", desc := "(II)I" } : Jvm.MethodName)) ∈ gT := gT_in (List.mem_of_getElem? (i := 1269) (by decide +kernel)) (by decide +kernel)
theorem wm_1271 : (Jvm.Cond.instanceMethod ({ cls := "GrownKinds", name := "listing", desc := "(II)I" } : Jvm.MethodName)) ∈ gT := gT_in (List.mem_of_getElem? (i := 1271) (by decide +kernel)) (by decide +kernel)
theorem wm_55 : Cond.selects "GrownKinds" ⟨"GrownKinds", "listing", "(II)I"⟩ ⟨"GrownKinds", "listing", "(II)I"⟩ ∈ gT := gT_in (List.mem_of_getElem? (i := 55) (by decide +kernel)) (by decide +kernel)
theorem wm_1272 : (Jvm.Cond.code ({ cls := "GrownKinds", name := "listing", desc := "(II)I" } : Jvm.MethodName) prog_1_method_32_code (3 : Nat) (Option.some Jvm.ClassFile.FieldType.int)) ∈ gT := gT_in (List.mem_of_getElem? (i := 1272) (by decide +kernel)) (by decide +kernel)
theorem dX11_spelling_6 : decode cX11_spelling 6 = .ok (.istore 4, 2) := by decide +kernel
theorem dX11_spelling_8 : decode cX11_spelling 8 = .ok (.iload 4, 2) := by decide +kernel
theorem dX11_spelling_10 : decode cX11_spelling 10 = .ok (.ifCond .eq 6, 3) := by decide +kernel
theorem dX11_spelling_13 : decode cX11_spelling 13 = .ok (.iload 4, 2) := by decide +kernel
theorem dX11_spelling_15 : decode cX11_spelling 15 = .ok (.ireturn, 1) := by decide +kernel
theorem dX11_rolling_0 : decode cX11_rolling 0 = .ok (.aload_n 0, 1) := by decide +kernel
theorem dX11_rolling_1 : decode cX11_rolling 1 = .ok (.iload_n 1, 1) := by decide +kernel
theorem dX11_rolling_2 : decode cX11_rolling 2 = .ok (.iload_n 2, 1) := by decide +kernel
theorem dX11_rolling_3 : decode cX11_rolling 3 = .ok (.invokevirtual 251, 3) := by decide +kernel
theorem dX11_rolling_6 : decode cX11_rolling 6 = .ok (.istore_n 3, 1) := by decide +kernel
theorem dX11_rolling_7 : decode cX11_rolling 7 = .ok (.iload_n 3, 1) := by decide +kernel
theorem dX11_rolling_8 : decode cX11_rolling 8 = .ok (.ifCond .eq 5, 3) := by decide +kernel
theorem dX11_rolling_11 : decode cX11_rolling 11 = .ok (.iload_n 3, 1) := by decide +kernel
theorem dX11_rolling_12 : decode cX11_rolling 12 = .ok (.ireturn, 1) := by decide +kernel
theorem dX11_length_0 : decode cX11_length 0 = .ok (.aload_n 0, 1) := by decide +kernel
theorem dX11_length_1 : decode cX11_length 1 = .ok (.iload_n 1, 1) := by decide +kernel
theorem dX11_length_2 : decode cX11_length 2 = .ok (.iload_n 2, 1) := by decide +kernel
theorem dX11_length_3 : decode cX11_length 3 = .ok (.iload_n 3, 1) := by decide +kernel
theorem dX11_length_4 : decode cX11_length 4 = .ok (.invokevirtual 259, 3) := by decide +kernel
theorem wm_1265 : (Jvm.Cond.methodLink "GrownKinds" (259 : Nat) ({ cls := "GrownKinds", name := "spelling", desc := "(III)I" } : Jvm.MethodName)) ∈ gT := gT_in (List.mem_of_getElem? (i := 1265) (by decide +kernel)) (by decide +kernel)
theorem wm_1267 : (Jvm.Cond.instanceMethod ({ cls := "GrownKinds", name := "spelling", desc := "(III)I" } : Jvm.MethodName)) ∈ gT := gT_in (List.mem_of_getElem? (i := 1267) (by decide +kernel)) (by decide +kernel)
theorem wm_54 : Cond.selects "GrownKinds" ⟨"GrownKinds", "spelling", "(III)I"⟩ ⟨"GrownKinds", "spelling", "(III)I"⟩ ∈ gT := gT_in (List.mem_of_getElem? (i := 54) (by decide +kernel)) (by decide +kernel)
theorem wm_1268 : (Jvm.Cond.code ({ cls := "GrownKinds", name := "spelling", desc := "(III)I" } : Jvm.MethodName) prog_1_method_33_code (5 : Nat) (Option.some Jvm.ClassFile.FieldType.int)) ∈ gT := gT_in (List.mem_of_getElem? (i := 1268) (by decide +kernel)) (by decide +kernel)
theorem dX11_length_7 : decode cX11_length 7 = .ok (.istore 4, 2) := by decide +kernel
theorem dX11_length_9 : decode cX11_length 9 = .ok (.iload 4, 2) := by decide +kernel
theorem dX11_length_11 : decode cX11_length 11 = .ok (.ifCond .eq 8, 3) := by decide +kernel
theorem dX11_length_14 : decode cX11_length 14 = .ok (.iload 4, 2) := by decide +kernel
theorem dX11_length_16 : decode cX11_length 16 = .ok (.goto 10, 3) := by decide +kernel
theorem dX11_length_26 : decode cX11_length 26 = .ok (.ireturn, 1) := by decide +kernel
theorem dX11_sign_0 : decode cX11_sign 0 = .ok (.iload 4, 2) := by decide +kernel
theorem dX11_sign_2 : decode cX11_sign 2 = .ok (.ifCond .ge 6, 3) := by decide +kernel
theorem dX11_sign_8 : decode cX11_sign 8 = .ok (.aload_n 0, 1) := by decide +kernel
theorem dX11_sign_9 : decode cX11_sign 9 = .ok (.iload_n 1, 1) := by decide +kernel
theorem dX11_sign_10 : decode cX11_sign 10 = .ok (.iload_n 2, 1) := by decide +kernel
theorem dX11_sign_11 : decode cX11_sign 11 = .ok (.iload_n 3, 1) := by decide +kernel
theorem dX11_sign_12 : decode cX11_sign 12 = .ok (.invokevirtual 259, 3) := by decide +kernel
theorem dX11_sign_15 : decode cX11_sign 15 = .ok (.istore 5, 2) := by decide +kernel
theorem dX11_sign_17 : decode cX11_sign 17 = .ok (.iload 5, 2) := by decide +kernel
theorem dX11_sign_19 : decode cX11_sign 19 = .ok (.ifCond .eq 8, 3) := by decide +kernel
theorem dX11_sign_22 : decode cX11_sign 22 = .ok (.iload 5, 2) := by decide +kernel
theorem dX11_sign_24 : decode cX11_sign 24 = .ok (.goto 12, 3) := by decide +kernel
theorem dX11_sign_36 : decode cX11_sign 36 = .ok (.ireturn, 1) := by decide +kernel
theorem dX11_sign_5 : decode cX11_sign 5 = .ok (.bipush (-2), 2) := by decide +kernel
theorem dX11_sign_7 : decode cX11_sign 7 = .ok (.ireturn, 1) := by decide +kernel
theorem dX11_deep_0 : decode cX11_deep 0 = .ok (.aload_n 0, 1) := by decide +kernel
theorem dX11_deep_1 : decode cX11_deep 1 = .ok (.iload_n 1, 1) := by decide +kernel
theorem dX11_deep_2 : decode cX11_deep 2 = .ok (.iload_n 2, 1) := by decide +kernel
theorem dX11_deep_3 : decode cX11_deep 3 = .ok (.iload_n 3, 1) := by decide +kernel
theorem dX11_deep_4 : decode cX11_deep 4 = .ok (.invokevirtual 259, 3) := by decide +kernel
theorem dX11_deep_7 : decode cX11_deep 7 = .ok (.istore 4, 2) := by decide +kernel
theorem dX11_deep_9 : decode cX11_deep 9 = .ok (.iload 4, 2) := by decide +kernel
theorem dX11_deep_11 : decode cX11_deep 11 = .ok (.ifCond .eq 8, 3) := by decide +kernel
theorem dX11_deep_14 : decode cX11_deep 14 = .ok (.iload 4, 2) := by decide +kernel
theorem dX11_deep_16 : decode cX11_deep 16 = .ok (.goto 10, 3) := by decide +kernel
theorem dX11_deep_26 : decode cX11_deep 26 = .ok (.ireturn, 1) := by decide +kernel
theorem dX11_atoms_0 : decode cX11_atoms 0 = .ok (.iload 4, 2) := by decide +kernel
theorem dX11_atoms_2 : decode cX11_atoms 2 = .ok (.invokestatic 221, 3) := by decide +kernel
theorem wm_1203 : (Jvm.Cond.methodLink "GrownKinds" (221 : Nat) ({ cls := "GrownKinds", name := "lettered", desc := "(I)Z" } : Jvm.MethodName)) ∈ gT := gT_in (List.mem_of_getElem? (i := 1203) (by decide +kernel)) (by decide +kernel)
theorem wm_1204 : (Jvm.Cond.static ({ cls := "GrownKinds", name := "lettered", desc := "(I)Z" } : Jvm.MethodName)) ∈ gT := gT_in (List.mem_of_getElem? (i := 1204) (by decide +kernel)) (by decide +kernel)
theorem wm_1205 : (Jvm.Cond.code ({ cls := "GrownKinds", name := "lettered", desc := "(I)Z" } : Jvm.MethodName) prog_1_method_12_code (1 : Nat) (Option.some Jvm.ClassFile.FieldType.boolean)) ∈ gT := gT_in (List.mem_of_getElem? (i := 1205) (by decide +kernel)) (by decide +kernel)
theorem dX11_atoms_5 : decode cX11_atoms 5 = .ok (.ifCond .ne 6, 3) := by decide +kernel
theorem dX11_atoms_11 : decode cX11_atoms 11 = .ok (.aload_n 0, 1) := by decide +kernel
theorem dX11_atoms_12 : decode cX11_atoms 12 = .ok (.iload_n 1, 1) := by decide +kernel
theorem dX11_atoms_13 : decode cX11_atoms 13 = .ok (.iload_n 2, 1) := by decide +kernel
theorem dX11_atoms_14 : decode cX11_atoms 14 = .ok (.iload_n 3, 1) := by decide +kernel
theorem dX11_atoms_15 : decode cX11_atoms 15 = .ok (.invokevirtual 259, 3) := by decide +kernel
theorem dX11_atoms_18 : decode cX11_atoms 18 = .ok (.istore 5, 2) := by decide +kernel
theorem dX11_atoms_20 : decode cX11_atoms 20 = .ok (.iload 5, 2) := by decide +kernel
theorem dX11_atoms_22 : decode cX11_atoms 22 = .ok (.ifCond .eq 8, 3) := by decide +kernel
theorem dX11_atoms_25 : decode cX11_atoms 25 = .ok (.iload 5, 2) := by decide +kernel
theorem dX11_atoms_27 : decode cX11_atoms 27 = .ok (.goto 13, 3) := by decide +kernel
theorem dX11_atoms_40 : decode cX11_atoms 40 = .ok (.ireturn, 1) := by decide +kernel
theorem dX11_atoms_8 : decode cX11_atoms 8 = .ok (.bipush (-2), 2) := by decide +kernel
theorem dX11_atoms_10 : decode cX11_atoms 10 = .ok (.ireturn, 1) := by decide +kernel
theorem dX11_term_0 : decode cX11_term 0 = .ok (.aload_n 0, 1) := by decide +kernel
theorem dX11_term_1 : decode cX11_term 1 = .ok (.iload_n 1, 1) := by decide +kernel
theorem dX11_term_2 : decode cX11_term 2 = .ok (.iload_n 2, 1) := by decide +kernel
theorem dX11_term_3 : decode cX11_term 3 = .ok (.iload_n 3, 1) := by decide +kernel
theorem dX11_term_4 : decode cX11_term 4 = .ok (.invokevirtual 259, 3) := by decide +kernel
theorem dX11_term_7 : decode cX11_term 7 = .ok (.istore 4, 2) := by decide +kernel
theorem dX11_term_9 : decode cX11_term 9 = .ok (.iload 4, 2) := by decide +kernel
theorem dX11_term_11 : decode cX11_term 11 = .ok (.ifCond .eq 8, 3) := by decide +kernel
theorem dX11_term_14 : decode cX11_term 14 = .ok (.iload 4, 2) := by decide +kernel
theorem dX11_term_16 : decode cX11_term 16 = .ok (.goto 10, 3) := by decide +kernel
theorem dX11_term_26 : decode cX11_term 26 = .ok (.ireturn, 1) := by decide +kernel
theorem dX11_symmetries_0 : decode cX11_symmetries 0 = .ok (.aload_n 0, 1) := by decide +kernel
theorem dX11_symmetries_1 : decode cX11_symmetries 1 = .ok (.iload_n 1, 1) := by decide +kernel
theorem dX11_symmetries_2 : decode cX11_symmetries 2 = .ok (.iload_n 2, 1) := by decide +kernel
theorem dX11_symmetries_3 : decode cX11_symmetries 3 = .ok (.iload_n 3, 1) := by decide +kernel
theorem dX11_symmetries_4 : decode cX11_symmetries 4 = .ok (.invokevirtual 259, 3) := by decide +kernel
theorem dX11_symmetries_7 : decode cX11_symmetries 7 = .ok (.istore 4, 2) := by decide +kernel
theorem dX11_symmetries_9 : decode cX11_symmetries 9 = .ok (.iload 4, 2) := by decide +kernel
theorem dX11_symmetries_11 : decode cX11_symmetries 11 = .ok (.ifCond .eq 8, 3) := by decide +kernel
theorem dX11_symmetries_14 : decode cX11_symmetries 14 = .ok (.iload 4, 2) := by decide +kernel
theorem dX11_symmetries_16 : decode cX11_symmetries 16 = .ok (.goto 10, 3) := by decide +kernel
theorem dX11_symmetries_26 : decode cX11_symmetries 26 = .ok (.ireturn, 1) := by decide +kernel
theorem dX11_labels_0 : decode cX11_labels 0 = .ok (.aload_n 0, 1) := by decide +kernel
theorem dX11_labels_1 : decode cX11_labels 1 = .ok (.iload_n 1, 1) := by decide +kernel
theorem dX11_labels_2 : decode cX11_labels 2 = .ok (.iload_n 2, 1) := by decide +kernel
theorem dX11_labels_3 : decode cX11_labels 3 = .ok (.iload_n 3, 1) := by decide +kernel
theorem dX11_labels_4 : decode cX11_labels 4 = .ok (.invokevirtual 259, 3) := by decide +kernel
theorem dX11_labels_7 : decode cX11_labels 7 = .ok (.istore 4, 2) := by decide +kernel
theorem dX11_labels_9 : decode cX11_labels 9 = .ok (.iload 4, 2) := by decide +kernel
theorem dX11_labels_11 : decode cX11_labels 11 = .ok (.ifCond .eq 6, 3) := by decide +kernel
theorem dX11_labels_14 : decode cX11_labels 14 = .ok (.iload 4, 2) := by decide +kernel
theorem dX11_labels_16 : decode cX11_labels 16 = .ok (.ireturn, 1) := by decide +kernel
theorem dX11_tells_0 : decode cX11_tells 0 = .ok (.aload_n 0, 1) := by decide +kernel
theorem dX11_tells_1 : decode cX11_tells 1 = .ok (.iload_n 1, 1) := by decide +kernel
theorem dX11_tells_2 : decode cX11_tells 2 = .ok (.invokevirtual 168, 3) := by decide +kernel
theorem dX11_tells_5 : decode cX11_tells 5 = .ok (.ifCond .ne 6, 3) := by decide +kernel
theorem dX11_tells_8 : decode cX11_tells 8 = .ok (.bipush (-2), 2) := by decide +kernel
theorem dX11_tells_10 : decode cX11_tells 10 = .ok (.ireturn, 1) := by decide +kernel
theorem dX11_shared_0 : decode cX11_shared 0 = .ok (.aload_n 0, 1) := by decide +kernel
theorem dX11_shared_1 : decode cX11_shared 1 = .ok (.iload_n 2, 1) := by decide +kernel
theorem dX11_shared_2 : decode cX11_shared 2 = .ok (.invokevirtual 168, 3) := by decide +kernel
theorem dX11_shared_5 : decode cX11_shared 5 = .ok (.ifCond .ne 6, 3) := by decide +kernel
theorem dX11_shared_8 : decode cX11_shared 8 = .ok (.bipush (-2), 2) := by decide +kernel
theorem dX11_shared_10 : decode cX11_shared 10 = .ok (.ireturn, 1) := by decide +kernel
theorem dX11_deepest_0 : decode cX11_deepest 0 = .ok (.aload_n 0, 1) := by decide +kernel
theorem dX11_deepest_1 : decode cX11_deepest 1 = .ok (.iload_n 1, 1) := by decide +kernel
theorem dX11_deepest_2 : decode cX11_deepest 2 = .ok (.iload_n 2, 1) := by decide +kernel
theorem dX11_deepest_3 : decode cX11_deepest 3 = .ok (.invokevirtual 315, 3) := by decide +kernel
theorem wm_1543 : (Jvm.Cond.methodLink "GrownKinds" (315 : Nat) ({ cls := "GrownKinds", name := "rolling", desc := "(II)I" } : Jvm.MethodName)) ∈ gT := gT_in (List.mem_of_getElem? (i := 1543) (by decide +kernel)) (by decide +kernel)
theorem wm_1545 : (Jvm.Cond.instanceMethod ({ cls := "GrownKinds", name := "rolling", desc := "(II)I" } : Jvm.MethodName)) ∈ gT := gT_in (List.mem_of_getElem? (i := 1545) (by decide +kernel)) (by decide +kernel)
theorem wm_82 : Cond.selects "GrownKinds" ⟨"GrownKinds", "rolling", "(II)I"⟩ ⟨"GrownKinds", "rolling", "(II)I"⟩ ∈ gT := gT_in (List.mem_of_getElem? (i := 82) (by decide +kernel)) (by decide +kernel)
theorem wm_1546 : (Jvm.Cond.code ({ cls := "GrownKinds", name := "rolling", desc := "(II)I" } : Jvm.MethodName) prog_1_method_45_code (7 : Nat) (Option.some Jvm.ClassFile.FieldType.int)) ∈ gT := gT_in (List.mem_of_getElem? (i := 1546) (by decide +kernel)) (by decide +kernel)
theorem dX11_deepest_6 : decode cX11_deepest 6 = .ok (.istore_n 3, 1) := by decide +kernel
theorem dX11_deepest_7 : decode cX11_deepest 7 = .ok (.iload_n 3, 1) := by decide +kernel
theorem dX11_deepest_8 : decode cX11_deepest 8 = .ok (.ifCond .eq 7, 3) := by decide +kernel
theorem dX11_deepest_11 : decode cX11_deepest 11 = .ok (.iload_n 3, 1) := by decide +kernel
theorem dX11_deepest_12 : decode cX11_deepest 12 = .ok (.goto 17, 3) := by decide +kernel
theorem dX11_deepest_29 : decode cX11_deepest 29 = .ok (.ireturn, 1) := by decide +kernel
theorem dX11_fullest_0 : decode cX11_fullest 0 = .ok (.iload_n 3, 1) := by decide +kernel
theorem dX11_fullest_1 : decode cX11_fullest 1 = .ok (.invokestatic 221, 3) := by decide +kernel
theorem dX11_fullest_4 : decode cX11_fullest 4 = .ok (.ifCond .ne 6, 3) := by decide +kernel
theorem dX11_fullest_10 : decode cX11_fullest 10 = .ok (.aload_n 0, 1) := by decide +kernel
theorem dX11_fullest_11 : decode cX11_fullest 11 = .ok (.iload_n 1, 1) := by decide +kernel
theorem dX11_fullest_12 : decode cX11_fullest 12 = .ok (.iload_n 2, 1) := by decide +kernel
theorem dX11_fullest_13 : decode cX11_fullest 13 = .ok (.invokevirtual 315, 3) := by decide +kernel
theorem dX11_fullest_16 : decode cX11_fullest 16 = .ok (.istore 4, 2) := by decide +kernel
theorem dX11_fullest_18 : decode cX11_fullest 18 = .ok (.iload 4, 2) := by decide +kernel
theorem dX11_fullest_20 : decode cX11_fullest 20 = .ok (.ifCond .eq 8, 3) := by decide +kernel
theorem dX11_fullest_23 : decode cX11_fullest 23 = .ok (.iload 4, 2) := by decide +kernel
theorem dX11_fullest_25 : decode cX11_fullest 25 = .ok (.goto 22, 3) := by decide +kernel
theorem dX11_fullest_47 : decode cX11_fullest 47 = .ok (.ireturn, 1) := by decide +kernel
theorem dX11_fullest_7 : decode cX11_fullest 7 = .ok (.bipush (-2), 2) := by decide +kernel
theorem dX11_fullest_9 : decode cX11_fullest 9 = .ok (.ireturn, 1) := by decide +kernel
theorem dX11_stiffest_0 : decode cX11_stiffest 0 = .ok (.aload_n 0, 1) := by decide +kernel
theorem dX11_stiffest_1 : decode cX11_stiffest 1 = .ok (.iload_n 1, 1) := by decide +kernel
theorem dX11_stiffest_2 : decode cX11_stiffest 2 = .ok (.iload_n 2, 1) := by decide +kernel
theorem dX11_stiffest_3 : decode cX11_stiffest 3 = .ok (.invokevirtual 315, 3) := by decide +kernel
theorem dX11_stiffest_6 : decode cX11_stiffest 6 = .ok (.istore_n 3, 1) := by decide +kernel
theorem dX11_stiffest_7 : decode cX11_stiffest 7 = .ok (.iload_n 3, 1) := by decide +kernel
theorem dX11_stiffest_8 : decode cX11_stiffest 8 = .ok (.ifCond .eq 7, 3) := by decide +kernel
theorem dX11_stiffest_11 : decode cX11_stiffest 11 = .ok (.iload_n 3, 1) := by decide +kernel
theorem dX11_stiffest_12 : decode cX11_stiffest 12 = .ok (.goto 17, 3) := by decide +kernel
theorem dX11_stiffest_29 : decode cX11_stiffest 29 = .ok (.ireturn, 1) := by decide +kernel
theorem dX11_chance_0 : decode cX11_chance 0 = .ok (.aload_n 0, 1) := by decide +kernel
theorem dX11_chance_1 : decode cX11_chance 1 = .ok (.iload_n 1, 1) := by decide +kernel
theorem dX11_chance_2 : decode cX11_chance 2 = .ok (.iload_n 3, 1) := by decide +kernel
theorem dX11_chance_3 : decode cX11_chance 3 = .ok (.invokevirtual 228, 3) := by decide +kernel
theorem dX11_chance_6 : decode cX11_chance 6 = .ok (.ifCond .eq 14, 3) := by decide +kernel
theorem dX11_chance_20 : decode cX11_chance 20 = .ok (.bipush (-2), 2) := by decide +kernel
theorem dX11_chance_22 : decode cX11_chance 22 = .ok (.ireturn, 1) := by decide +kernel
theorem dX11_mean_0 : decode cX11_mean 0 = .ok (.iload_n 3, 1) := by decide +kernel
theorem dX11_mean_1 : decode cX11_mean 1 = .ok (.invokestatic 221, 3) := by decide +kernel
theorem dX11_mean_4 : decode cX11_mean 4 = .ok (.ifCond .eq 14, 3) := by decide +kernel
theorem dX11_mean_18 : decode cX11_mean 18 = .ok (.bipush (-2), 2) := by decide +kernel
theorem dX11_mean_20 : decode cX11_mean 20 = .ok (.ireturn, 1) := by decide +kernel
theorem dX11_mean_7 : decode cX11_mean 7 = .ok (.iload 4, 2) := by decide +kernel
theorem dX11_mean_9 : decode cX11_mean 9 = .ok (.ifCond .lt 9, 3) := by decide +kernel
theorem dX11_mean_12 : decode cX11_mean 12 = .ok (.iload 4, 2) := by decide +kernel
theorem dX11_mean_14 : decode cX11_mean 14 = .ok (.iconst 1, 1) := by decide +kernel
theorem dX11_mean_15 : decode cX11_mean 15 = .ok (.if_icmp .le 6, 3) := by decide +kernel
theorem dX11_mean_21 : decode cX11_mean 21 = .ok (.aload_n 0, 1) := by decide +kernel
theorem dX11_mean_22 : decode cX11_mean 22 = .ok (.iload_n 1, 1) := by decide +kernel
theorem dX11_mean_23 : decode cX11_mean 23 = .ok (.iload_n 2, 1) := by decide +kernel
theorem dX11_mean_24 : decode cX11_mean 24 = .ok (.invokevirtual 315, 3) := by decide +kernel
theorem dX11_mean_27 : decode cX11_mean 27 = .ok (.istore 5, 2) := by decide +kernel
theorem dX11_mean_29 : decode cX11_mean 29 = .ok (.iload 5, 2) := by decide +kernel
theorem dX11_mean_31 : decode cX11_mean 31 = .ok (.ifCond .eq 6, 3) := by decide +kernel
theorem dX11_mean_34 : decode cX11_mean 34 = .ok (.iload 5, 2) := by decide +kernel
theorem dX11_mean_36 : decode cX11_mean 36 = .ok (.ireturn, 1) := by decide +kernel
theorem dX11_bits_0 : decode cX11_bits 0 = .ok (.aload_n 0, 1) := by decide +kernel
theorem dX11_bits_1 : decode cX11_bits 1 = .ok (.iload_n 1, 1) := by decide +kernel
theorem dX11_bits_2 : decode cX11_bits 2 = .ok (.iload_n 2, 1) := by decide +kernel
theorem dX11_bits_3 : decode cX11_bits 3 = .ok (.iload_n 3, 1) := by decide +kernel
theorem dX11_bits_4 : decode cX11_bits 4 = .ok (.invokevirtual 333, 3) := by decide +kernel
theorem dX11_bits_7 : decode cX11_bits 7 = .ok (.ifCond .ne 6, 3) := by decide +kernel
theorem dX11_bits_10 : decode cX11_bits 10 = .ok (.bipush (-2), 2) := by decide +kernel
theorem dX11_bits_12 : decode cX11_bits 12 = .ok (.ireturn, 1) := by decide +kernel
theorem dX11_drawn_0 : decode cX11_drawn 0 = .ok (.aload_n 0, 1) := by decide +kernel
theorem dX11_drawn_1 : decode cX11_drawn 1 = .ok (.iload_n 1, 1) := by decide +kernel
theorem dX11_drawn_2 : decode cX11_drawn 2 = .ok (.iload_n 2, 1) := by decide +kernel
theorem dX11_drawn_3 : decode cX11_drawn 3 = .ok (.iload_n 3, 1) := by decide +kernel
theorem dX11_drawn_4 : decode cX11_drawn 4 = .ok (.invokevirtual 333, 3) := by decide +kernel
theorem dX11_drawn_7 : decode cX11_drawn 7 = .ok (.ifCond .eq 27, 3) := by decide +kernel
theorem dX11_drawn_34 : decode cX11_drawn 34 = .ok (.bipush (-2), 2) := by decide +kernel
theorem dX11_drawn_36 : decode cX11_drawn 36 = .ok (.ireturn, 1) := by decide +kernel
theorem dX11_deal_0 : decode cX11_deal 0 = .ok (.aload_n 0, 1) := by decide +kernel
theorem dX11_deal_1 : decode cX11_deal 1 = .ok (.iload_n 1, 1) := by decide +kernel
theorem dX11_deal_2 : decode cX11_deal 2 = .ok (.iload_n 2, 1) := by decide +kernel
theorem dX11_deal_3 : decode cX11_deal 3 = .ok (.iload_n 3, 1) := by decide +kernel
theorem dX11_deal_4 : decode cX11_deal 4 = .ok (.invokevirtual 333, 3) := by decide +kernel
theorem dX11_deal_7 : decode cX11_deal 7 = .ok (.ifCond .eq 16, 3) := by decide +kernel
theorem dX11_deal_23 : decode cX11_deal 23 = .ok (.bipush (-2), 2) := by decide +kernel
theorem dX11_deal_25 : decode cX11_deal 25 = .ok (.ireturn, 1) := by decide +kernel
theorem dX11_takes_0 : decode cX11_takes 0 = .ok (.aload_n 0, 1) := by decide +kernel
theorem dX11_takes_1 : decode cX11_takes 1 = .ok (.iload_n 1, 1) := by decide +kernel
theorem dX11_takes_2 : decode cX11_takes 2 = .ok (.iload_n 2, 1) := by decide +kernel
theorem dX11_takes_3 : decode cX11_takes 3 = .ok (.invokevirtual 228, 3) := by decide +kernel
theorem dX11_takes_6 : decode cX11_takes 6 = .ok (.ifCond .ne 6, 3) := by decide +kernel
theorem dX11_takes_9 : decode cX11_takes 9 = .ok (.bipush (-2), 2) := by decide +kernel
theorem dX11_takes_11 : decode cX11_takes 11 = .ok (.ireturn, 1) := by decide +kernel
theorem dX11_undo_0 : decode cX11_undo 0 = .ok (.aload_n 0, 1) := by decide +kernel
theorem dX11_undo_1 : decode cX11_undo 1 = .ok (.getfield 20, 3) := by decide +kernel
theorem dX11_undo_4 : decode cX11_undo 4 = .ok (.getfield 165, 3) := by decide +kernel
theorem dX11_undo_7 : decode cX11_undo 7 = .ok (.ifCond .ne 6, 3) := by decide +kernel
theorem dX11_undo_10 : decode cX11_undo 10 = .ok (.bipush (-2), 2) := by decide +kernel
theorem dX11_undo_12 : decode cX11_undo 12 = .ok (.ireturn, 1) := by decide +kernel
theorem dX11_anew_0 : decode cX11_anew 0 = .ok (.aload_n 0, 1) := by decide +kernel
theorem dX11_anew_1 : decode cX11_anew 1 = .ok (.getfield 20, 3) := by decide +kernel
theorem dX11_anew_4 : decode cX11_anew 4 = .ok (.getfield 165, 3) := by decide +kernel
theorem dX11_anew_7 : decode cX11_anew 7 = .ok (.ifCond .ne 6, 3) := by decide +kernel
theorem dX11_anew_10 : decode cX11_anew 10 = .ok (.bipush (-2), 2) := by decide +kernel
theorem dX11_anew_12 : decode cX11_anew 12 = .ok (.ireturn, 1) := by decide +kernel
theorem dX1_next_0 : decode cX1_next 0 = .ok (.aload_n 0, 1) := by decide +kernel
theorem dX1_next_1 : decode cX1_next 1 = .ok (.getfield 9, 3) := by decide +kernel
theorem dX1_next_4 : decode cX1_next 4 = .ok (.ifCond .ne 5, 3) := by decide +kernel
theorem dX1_next_7 : decode cX1_next 7 = .ok (.iconst (-1), 1) := by decide +kernel
theorem dX1_next_8 : decode cX1_next 8 = .ok (.ireturn, 1) := by decide +kernel
theorem dX11_dealt_0 : decode cX11_dealt 0 = .ok (.aload_n 0, 1) := by decide +kernel
theorem dX11_dealt_1 : decode cX11_dealt 1 = .ok (.getfield 97, 3) := by decide +kernel
theorem dX11_dealt_4 : decode cX11_dealt 4 = .ok (.invokevirtual 361, 3) := by decide +kernel
theorem wm_1627 : (Jvm.Cond.methodLink "GrownKinds" (361 : Nat) ({ cls := "GrownKinds$Dealer", name := "next", desc := "()I" } : Jvm.MethodName)) ∈ gT := gT_in (List.mem_of_getElem? (i := 1627) (by decide +kernel)) (by decide +kernel)
theorem wm_1628 : (Jvm.Cond.instanceMethod ({ cls := "GrownKinds$Dealer", name := "next", desc := "()I" } : Jvm.MethodName)) ∈ gT := gT_in (List.mem_of_getElem? (i := 1628) (by decide +kernel)) (by decide +kernel)
theorem wm_1629 : (Jvm.Cond.selects "GrownKinds$Dealer" ({ cls := "GrownKinds$Dealer", name := "next", desc := "()I" } : Jvm.MethodName) ({ cls := "GrownKinds$Dealer", name := "next", desc := "()I" } : Jvm.MethodName)) ∈ gT := gT_in (List.mem_of_getElem? (i := 1629) (by decide +kernel)) (by decide +kernel)
theorem wm_1630 : (Jvm.Cond.code ({ cls := "GrownKinds$Dealer", name := "next", desc := "()I" } : Jvm.MethodName) prog_3_method_6_code (2 : Nat) (Option.some Jvm.ClassFile.FieldType.int)) ∈ gT := gT_in (List.mem_of_getElem? (i := 1630) (by decide +kernel)) (by decide +kernel)
theorem dX11_dealt_7 : decode cX11_dealt 7 = .ok (.ireturn, 1) := by decide +kernel
theorem dX11_left_0 : decode cX11_left 0 = .ok (.aload_n 0, 1) := by decide +kernel
theorem dX11_left_1 : decode cX11_left 1 = .ok (.getfield 97, 3) := by decide +kernel
theorem dX11_left_4 : decode cX11_left 4 = .ok (.getfield 365, 3) := by decide +kernel
theorem wm_645 : (Jvm.Cond.fieldLink "GrownKinds" (365 : Nat) "GrownKinds$Dealer" "leftOver" "I") ∈ gT := gT_in (List.mem_of_getElem? (i := 645) (by decide +kernel)) (by decide +kernel)
theorem dX11_left_7 : decode cX11_left 7 = .ok (.ireturn, 1) := by decide +kernel
theorem dX12_isKind_0 : decode cX12_isKind 0 = .ok (.iload_n 1, 1) := by decide +kernel
theorem dX12_isKind_1 : decode cX12_isKind 1 = .ok (.i2l, 1) := by decide +kernel
theorem dX12_isKind_2 : decode cX12_isKind 2 = .ok (.lconst 0, 1) := by decide +kernel
theorem dX12_isKind_3 : decode cX12_isKind 3 = .ok (.aload_n 0, 1) := by decide +kernel
theorem dX12_isKind_4 : decode cX12_isKind 4 = .ok (.getfield 15, 3) := by decide +kernel
theorem dX12_isKind_7 : decode cX12_isKind 7 = .ok (.iconst 0, 1) := by decide +kernel
theorem dX12_isKind_8 : decode cX12_isKind 8 = .ok (.iaload, 1) := by decide +kernel
theorem dX12_isKind_9 : decode cX12_isKind 9 = .ok (.iconst 1, 1) := by decide +kernel
theorem dX12_isKind_10 : decode cX12_isKind 10 = .ok (.isub, 1) := by decide +kernel
theorem dX12_isKind_11 : decode cX12_isKind 11 = .ok (.i2l, 1) := by decide +kernel
theorem dX12_isKind_12 : decode cX12_isKind 12 = .ok (.invokestatic 97, 3) := by decide +kernel
theorem wm_1839 : (Jvm.Cond.methodLink "GrownKindsModel" (97 : Nat) ({ cls := "GrownKindsModel", name := "in", desc := "(JJJ)Z" } : Jvm.MethodName)) ∈ gT := gT_in (List.mem_of_getElem? (i := 1839) (by decide +kernel)) (by decide +kernel)
theorem wm_1840 : (Jvm.Cond.static ({ cls := "GrownKindsModel", name := "in", desc := "(JJJ)Z" } : Jvm.MethodName)) ∈ gT := gT_in (List.mem_of_getElem? (i := 1840) (by decide +kernel)) (by decide +kernel)
theorem wm_1841 : (Jvm.Cond.code ({ cls := "GrownKindsModel", name := "in", desc := "(JJJ)Z" } : Jvm.MethodName) prog_14_method_1_code (6 : Nat) (Option.some Jvm.ClassFile.FieldType.boolean)) ∈ gT := gT_in (List.mem_of_getElem? (i := 1841) (by decide +kernel)) (by decide +kernel)
theorem dX12_isKind_15 : decode cX12_isKind 15 = .ok (.ireturn, 1) := by decide +kernel
theorem dX12_isTerm_0 : decode cX12_isTerm 0 = .ok (.aload_n 0, 1) := by decide +kernel
theorem dX12_isTerm_1 : decode cX12_isTerm 1 = .ok (.iload_n 1, 1) := by decide +kernel
theorem dX12_isTerm_2 : decode cX12_isTerm 2 = .ok (.invokevirtual 225, 3) := by decide +kernel
theorem wm_1982 : (Jvm.Cond.methodLink "GrownKindsModel" (225 : Nat) ({ cls := "GrownKindsModel", name := "isKind", desc := "(I)Z" } : Jvm.MethodName)) ∈ gT := gT_in (List.mem_of_getElem? (i := 1982) (by decide +kernel)) (by decide +kernel)
theorem wm_1984 : (Jvm.Cond.instanceMethod ({ cls := "GrownKindsModel", name := "isKind", desc := "(I)Z" } : Jvm.MethodName)) ∈ gT := gT_in (List.mem_of_getElem? (i := 1984) (by decide +kernel)) (by decide +kernel)
theorem wm_112 : Cond.selects "GrownKindsModel" ⟨"GrownKindsModel", "isKind", "(I)Z"⟩ ⟨"GrownKindsModel", "isKind", "(I)Z"⟩ ∈ gT := gT_in (List.mem_of_getElem? (i := 112) (by decide +kernel)) (by decide +kernel)
theorem wm_1985 : (Jvm.Cond.code ({ cls := "GrownKindsModel", name := "isKind", desc := "(I)Z" } : Jvm.MethodName) prog_14_method_30_code (2 : Nat) (Option.some Jvm.ClassFile.FieldType.boolean)) ∈ gT := gT_in (List.mem_of_getElem? (i := 1985) (by decide +kernel)) (by decide +kernel)
theorem dX12_isTerm_5 : decode cX12_isTerm 5 = .ok (.ifCond .eq 29, 3) := by decide +kernel
theorem dX12_isTerm_34 : decode cX12_isTerm 34 = .ok (.iconst 0, 1) := by decide +kernel
theorem dX12_isTerm_35 : decode cX12_isTerm 35 = .ok (.ireturn, 1) := by decide +kernel
theorem dX12_terms_0 : decode cX12_terms 0 = .ok (.aload_n 0, 1) := by decide +kernel
theorem dX12_terms_1 : decode cX12_terms 1 = .ok (.iload_n 1, 1) := by decide +kernel
theorem dX12_terms_2 : decode cX12_terms 2 = .ok (.invokevirtual 225, 3) := by decide +kernel
theorem dX12_terms_5 : decode cX12_terms 5 = .ok (.ifCond .eq 16, 3) := by decide +kernel
theorem dX12_terms_21 : decode cX12_terms 21 = .ok (.bipush (-2), 2) := by decide +kernel
theorem dX12_terms_23 : decode cX12_terms 23 = .ok (.ireturn, 1) := by decide +kernel
theorem dX12_off_0 : decode cX12_off 0 = .ok (.aload_n 0, 1) := by decide +kernel
theorem dX12_off_1 : decode cX12_off 1 = .ok (.iload_n 1, 1) := by decide +kernel
theorem dX12_off_2 : decode cX12_off 2 = .ok (.invokevirtual 225, 3) := by decide +kernel
theorem dX12_off_5 : decode cX12_off 5 = .ok (.ifCond .eq 15, 3) := by decide +kernel
theorem dX12_off_20 : decode cX12_off 20 = .ok (.bipush (-2), 2) := by decide +kernel
theorem dX12_off_22 : decode cX12_off 22 = .ok (.ireturn, 1) := by decide +kernel
theorem dX12_letters_0 : decode cX12_letters 0 = .ok (.aload_n 0, 1) := by decide +kernel
theorem dX12_letters_1 : decode cX12_letters 1 = .ok (.iload_n 1, 1) := by decide +kernel
theorem dX12_letters_2 : decode cX12_letters 2 = .ok (.invokevirtual 225, 3) := by decide +kernel
theorem dX12_letters_5 : decode cX12_letters 5 = .ok (.ifCond .eq 12, 3) := by decide +kernel
theorem dX12_letters_17 : decode cX12_letters 17 = .ok (.bipush (-2), 2) := by decide +kernel
theorem dX12_letters_19 : decode cX12_letters 19 = .ok (.ireturn, 1) := by decide +kernel
theorem dX12_uses_0 : decode cX12_uses 0 = .ok (.aload_n 0, 1) := by decide +kernel
theorem dX12_uses_1 : decode cX12_uses 1 = .ok (.iload_n 1, 1) := by decide +kernel
theorem dX12_uses_2 : decode cX12_uses 2 = .ok (.invokevirtual 225, 3) := by decide +kernel
theorem dX12_uses_5 : decode cX12_uses 5 = .ok (.ifCond .eq 12, 3) := by decide +kernel
theorem dX12_uses_17 : decode cX12_uses 17 = .ok (.bipush (-2), 2) := by decide +kernel
theorem dX12_uses_19 : decode cX12_uses 19 = .ok (.ireturn, 1) := by decide +kernel
theorem dX12_reaches_0 : decode cX12_reaches 0 = .ok (.aload_n 0, 1) := by decide +kernel
theorem dX12_reaches_1 : decode cX12_reaches 1 = .ok (.iload_n 1, 1) := by decide +kernel
theorem dX12_reaches_2 : decode cX12_reaches 2 = .ok (.invokevirtual 225, 3) := by decide +kernel
theorem dX12_reaches_5 : decode cX12_reaches 5 = .ok (.ifCond .ne 6, 3) := by decide +kernel
theorem dX12_reaches_8 : decode cX12_reaches 8 = .ok (.bipush (-2), 2) := by decide +kernel
theorem dX12_reaches_10 : decode cX12_reaches 10 = .ok (.ireturn, 1) := by decide +kernel
theorem dX12_empty_0 : decode cX12_empty 0 = .ok (.aload_n 0, 1) := by decide +kernel
theorem dX12_empty_1 : decode cX12_empty 1 = .ok (.iload_n 1, 1) := by decide +kernel
theorem dX12_empty_2 : decode cX12_empty 2 = .ok (.invokevirtual 225, 3) := by decide +kernel
theorem dX12_empty_5 : decode cX12_empty 5 = .ok (.ifCond .ne 6, 3) := by decide +kernel
theorem dX12_empty_8 : decode cX12_empty 8 = .ok (.bipush (-2), 2) := by decide +kernel
theorem dX12_empty_10 : decode cX12_empty 10 = .ok (.ireturn, 1) := by decide +kernel
theorem dX12_leans_0 : decode cX12_leans 0 = .ok (.aload_n 0, 1) := by decide +kernel
theorem dX12_leans_1 : decode cX12_leans 1 = .ok (.iload_n 1, 1) := by decide +kernel
theorem dX12_leans_2 : decode cX12_leans 2 = .ok (.invokevirtual 225, 3) := by decide +kernel
theorem dX12_leans_5 : decode cX12_leans 5 = .ok (.ifCond .ne 6, 3) := by decide +kernel
theorem dX12_leans_8 : decode cX12_leans 8 = .ok (.bipush (-2), 2) := by decide +kernel
theorem dX12_leans_10 : decode cX12_leans 10 = .ok (.ireturn, 1) := by decide +kernel
theorem dX12_blank_0 : decode cX12_blank 0 = .ok (.aload_n 0, 1) := by decide +kernel
theorem dX12_blank_1 : decode cX12_blank 1 = .ok (.getfield 15, 3) := by decide +kernel
theorem dX12_blank_4 : decode cX12_blank 4 = .ok (.iconst 3, 1) := by decide +kernel
theorem dX12_blank_5 : decode cX12_blank 5 = .ok (.iaload, 1) := by decide +kernel
theorem dX12_blank_6 : decode cX12_blank 6 = .ok (.ifCond .ne 6, 3) := by decide +kernel
theorem dX12_blank_9 : decode cX12_blank 9 = .ok (.bipush (-2), 2) := by decide +kernel
theorem dX12_blank_11 : decode cX12_blank 11 = .ok (.ireturn, 1) := by decide +kernel
theorem dX12_things_0 : decode cX12_things 0 = .ok (.aload_n 0, 1) := by decide +kernel
theorem dX12_things_1 : decode cX12_things 1 = .ok (.iload_n 1, 1) := by decide +kernel
theorem dX12_things_2 : decode cX12_things 2 = .ok (.invokevirtual 225, 3) := by decide +kernel
theorem dX12_things_5 : decode cX12_things 5 = .ok (.ifCond .eq 11, 3) := by decide +kernel
theorem dX12_things_16 : decode cX12_things 16 = .ok (.ldc2_w 337, 3) := by decide +kernel
theorem wm_2101 : (Jvm.Cond.constantLong "GrownKindsModel" (337 : Nat) (-2 : Int64)) ∈ gT := gT_in (List.mem_of_getElem? (i := 2101) (by decide +kernel)) (by decide +kernel)
theorem dX12_things_19 : decode cX12_things 19 = .ok (.lreturn, 1) := by decide +kernel
theorem dX12_upto_0 : decode cX12_upto 0 = .ok (.aload_n 0, 1) := by decide +kernel
theorem dX12_upto_1 : decode cX12_upto 1 = .ok (.iload_n 1, 1) := by decide +kernel
theorem dX12_upto_2 : decode cX12_upto 2 = .ok (.invokevirtual 225, 3) := by decide +kernel
theorem dX12_upto_5 : decode cX12_upto 5 = .ok (.ifCond .eq 11, 3) := by decide +kernel
theorem dX12_upto_16 : decode cX12_upto 16 = .ok (.ldc2_w 337, 3) := by decide +kernel
theorem dX12_upto_19 : decode cX12_upto 19 = .ok (.lreturn, 1) := by decide +kernel
theorem dX12_labelled_0 : decode cX12_labelled 0 = .ok (.aload_n 0, 1) := by decide +kernel
theorem dX12_labelled_1 : decode cX12_labelled 1 = .ok (.iload_n 1, 1) := by decide +kernel
theorem dX12_labelled_2 : decode cX12_labelled 2 = .ok (.invokevirtual 225, 3) := by decide +kernel
theorem dX12_labelled_5 : decode cX12_labelled 5 = .ok (.ifCond .eq 11, 3) := by decide +kernel
theorem dX12_labelled_16 : decode cX12_labelled 16 = .ok (.ldc2_w 337, 3) := by decide +kernel
theorem dX12_labelled_19 : decode cX12_labelled 19 = .ok (.lreturn, 1) := by decide +kernel
theorem dX12_first_0 : decode cX12_first 0 = .ok (.aload_n 0, 1) := by decide +kernel
theorem dX12_first_1 : decode cX12_first 1 = .ok (.iload_n 1, 1) := by decide +kernel
theorem dX12_first_2 : decode cX12_first 2 = .ok (.invokevirtual 225, 3) := by decide +kernel
theorem dX12_first_5 : decode cX12_first 5 = .ok (.ifCond .eq 14, 3) := by decide +kernel
theorem dX12_first_19 : decode cX12_first 19 = .ok (.bipush (-2), 2) := by decide +kernel
theorem dX12_first_21 : decode cX12_first 21 = .ok (.ireturn, 1) := by decide +kernel
theorem dX12_least_0 : decode cX12_least 0 = .ok (.aload_n 0, 1) := by decide +kernel
theorem dX12_least_1 : decode cX12_least 1 = .ok (.iload_n 1, 1) := by decide +kernel
theorem dX12_least_2 : decode cX12_least 2 = .ok (.lconst 1, 1) := by decide +kernel
theorem dX12_least_3 : decode cX12_least 3 = .ok (.invokevirtual 330, 3) := by decide +kernel
theorem wm_2089 : (Jvm.Cond.methodLink "GrownKindsModel" (330 : Nat) ({ cls := "GrownKindsModel", name := "first", desc := "(IJ)I" } : Jvm.MethodName)) ∈ gT := gT_in (List.mem_of_getElem? (i := 2089) (by decide +kernel)) (by decide +kernel)
theorem wm_2090 : (Jvm.Cond.instanceMethod ({ cls := "GrownKindsModel", name := "first", desc := "(IJ)I" } : Jvm.MethodName)) ∈ gT := gT_in (List.mem_of_getElem? (i := 2090) (by decide +kernel)) (by decide +kernel)
theorem wm_2091 : (Jvm.Cond.selects "GrownKindsModel" ({ cls := "GrownKindsModel", name := "first", desc := "(IJ)I" } : Jvm.MethodName) ({ cls := "GrownKindsModel", name := "first", desc := "(IJ)I" } : Jvm.MethodName)) ∈ gT := gT_in (List.mem_of_getElem? (i := 2091) (by decide +kernel)) (by decide +kernel)
theorem wm_2092 : (Jvm.Cond.code ({ cls := "GrownKindsModel", name := "first", desc := "(IJ)I" } : Jvm.MethodName) prog_14_method_69_code (5 : Nat) (Option.some Jvm.ClassFile.FieldType.int)) ∈ gT := gT_in (List.mem_of_getElem? (i := 2092) (by decide +kernel)) (by decide +kernel)
theorem dX12_least_6 : decode cX12_least 6 = .ok (.ireturn, 1) := by decide +kernel
theorem dX12_marked_0 : decode cX12_marked 0 = .ok (.aload_n 0, 1) := by decide +kernel
theorem dX12_marked_1 : decode cX12_marked 1 = .ok (.iload_n 1, 1) := by decide +kernel
theorem dX12_marked_2 : decode cX12_marked 2 = .ok (.invokevirtual 225, 3) := by decide +kernel
theorem dX12_marked_5 : decode cX12_marked 5 = .ok (.ifCond .eq 36, 3) := by decide +kernel
theorem dX12_marked_41 : decode cX12_marked 41 = .ok (.ldc2_w 337, 3) := by decide +kernel
theorem dX12_marked_44 : decode cX12_marked 44 = .ok (.lreturn, 1) := by decide +kernel
theorem dX12_by_0 : decode cX12_by 0 = .ok (.aload_n 0, 1) := by decide +kernel
theorem dX12_by_1 : decode cX12_by 1 = .ok (.iload_n 1, 1) := by decide +kernel
theorem dX12_by_2 : decode cX12_by 2 = .ok (.iload_n 3, 1) := by decide +kernel
theorem dX12_by_3 : decode cX12_by 3 = .ok (.invokevirtual 344, 3) := by decide +kernel
theorem wm_2116 : (Jvm.Cond.methodLink "GrownKindsModel" (344 : Nat) ({ cls := "GrownKindsModel", name := "isTerm", desc := "(II)Z" } : Jvm.MethodName)) ∈ gT := gT_in (List.mem_of_getElem? (i := 2116) (by decide +kernel)) (by decide +kernel)
theorem wm_2118 : (Jvm.Cond.instanceMethod ({ cls := "GrownKindsModel", name := "isTerm", desc := "(II)Z" } : Jvm.MethodName)) ∈ gT := gT_in (List.mem_of_getElem? (i := 2118) (by decide +kernel)) (by decide +kernel)
theorem wm_127 : Cond.selects "GrownKindsModel" ⟨"GrownKindsModel", "isTerm", "(II)Z"⟩ ⟨"GrownKindsModel", "isTerm", "(II)Z"⟩ ∈ gT := gT_in (List.mem_of_getElem? (i := 127) (by decide +kernel)) (by decide +kernel)
theorem wm_2119 : (Jvm.Cond.code ({ cls := "GrownKindsModel", name := "isTerm", desc := "(II)Z" } : Jvm.MethodName) prog_14_method_32_code (3 : Nat) (Option.some Jvm.ClassFile.FieldType.boolean)) ∈ gT := gT_in (List.mem_of_getElem? (i := 2119) (by decide +kernel)) (by decide +kernel)
theorem dX12_by_6 : decode cX12_by 6 = .ok (.ifCond .eq 11, 3) := by decide +kernel
theorem dX12_by_17 : decode cX12_by 17 = .ok (.ldc2_w 337, 3) := by decide +kernel
theorem dX12_by_20 : decode cX12_by 20 = .ok (.lreturn, 1) := by decide +kernel
theorem dX12_without_0 : decode cX12_without 0 = .ok (.aload_n 0, 1) := by decide +kernel
theorem dX12_without_1 : decode cX12_without 1 = .ok (.iload_n 1, 1) := by decide +kernel
theorem dX12_without_2 : decode cX12_without 2 = .ok (.iload_n 2, 1) := by decide +kernel
theorem dX12_without_3 : decode cX12_without 3 = .ok (.invokevirtual 344, 3) := by decide +kernel
theorem dX12_without_6 : decode cX12_without 6 = .ok (.ifCond .eq 32, 3) := by decide +kernel
theorem dX12_without_38 : decode cX12_without 38 = .ok (.ldc2_w 337, 3) := by decide +kernel
theorem dX12_without_41 : decode cX12_without 41 = .ok (.lreturn, 1) := by decide +kernel
theorem dX12_hangs_0 : decode cX12_hangs 0 = .ok (.aload_n 0, 1) := by decide +kernel
theorem dX12_hangs_1 : decode cX12_hangs 1 = .ok (.iload_n 1, 1) := by decide +kernel
theorem dX12_hangs_2 : decode cX12_hangs 2 = .ok (.invokevirtual 225, 3) := by decide +kernel
theorem dX12_hangs_5 : decode cX12_hangs 5 = .ok (.ifCond .eq 11, 3) := by decide +kernel
theorem dX12_hangs_16 : decode cX12_hangs 16 = .ok (.bipush (-2), 2) := by decide +kernel
theorem dX12_hangs_18 : decode cX12_hangs 18 = .ok (.ireturn, 1) := by decide +kernel
theorem dX12_idle_0 : decode cX12_idle 0 = .ok (.aload_n 0, 1) := by decide +kernel
theorem dX12_idle_1 : decode cX12_idle 1 = .ok (.getfield 15, 3) := by decide +kernel
theorem dX12_idle_4 : decode cX12_idle 4 = .ok (.iconst 3, 1) := by decide +kernel
theorem dX12_idle_5 : decode cX12_idle 5 = .ok (.iaload, 1) := by decide +kernel
theorem dX12_idle_6 : decode cX12_idle 6 = .ok (.ifCond .ne 6, 3) := by decide +kernel
theorem dX12_idle_9 : decode cX12_idle 9 = .ok (.bipush (-2), 2) := by decide +kernel
theorem dX12_idle_11 : decode cX12_idle 11 = .ok (.ireturn, 1) := by decide +kernel
theorem dX12_whyNot_0 : decode cX12_whyNot 0 = .ok (.aload_n 0, 1) := by decide +kernel
theorem dX12_whyNot_1 : decode cX12_whyNot 1 = .ok (.iload_n 1, 1) := by decide +kernel
theorem dX12_whyNot_2 : decode cX12_whyNot 2 = .ok (.invokevirtual 225, 3) := by decide +kernel
theorem dX12_whyNot_5 : decode cX12_whyNot 5 = .ok (.ifCond .eq 11, 3) := by decide +kernel
theorem dX12_whyNot_16 : decode cX12_whyNot 16 = .ok (.bipush (-2), 2) := by decide +kernel
theorem dX12_whyNot_18 : decode cX12_whyNot 18 = .ok (.ireturn, 1) := by decide +kernel
theorem dX12_whyNone_0 : decode cX12_whyNone 0 = .ok (.aload_n 0, 1) := by decide +kernel
theorem dX12_whyNone_1 : decode cX12_whyNone 1 = .ok (.iload_n 1, 1) := by decide +kernel
theorem dX12_whyNone_2 : decode cX12_whyNone 2 = .ok (.invokevirtual 225, 3) := by decide +kernel
theorem dX12_whyNone_5 : decode cX12_whyNone 5 = .ok (.ifCond .eq 11, 3) := by decide +kernel
theorem dX12_whyNone_16 : decode cX12_whyNone 16 = .ok (.bipush (-2), 2) := by decide +kernel
theorem dX12_whyNone_18 : decode cX12_whyNone 18 = .ok (.ireturn, 1) := by decide +kernel
theorem dX12_length_0 : decode cX12_length 0 = .ok (.aload_n 0, 1) := by decide +kernel
theorem dX12_length_1 : decode cX12_length 1 = .ok (.iload_n 1, 1) := by decide +kernel
theorem dX12_length_2 : decode cX12_length 2 = .ok (.iload_n 2, 1) := by decide +kernel
theorem dX12_length_3 : decode cX12_length 3 = .ok (.iload_n 3, 1) := by decide +kernel
theorem dX12_length_4 : decode cX12_length 4 = .ok (.invokevirtual 472, 3) := by decide +kernel
theorem wm_2178 : (Jvm.Cond.methodLink "GrownKindsModel" (472 : Nat) ({ cls := "GrownKindsModel", name := "whyNot", desc := "(III)I" } : Jvm.MethodName)) ∈ gT := gT_in (List.mem_of_getElem? (i := 2178) (by decide +kernel)) (by decide +kernel)
theorem wm_2180 : (Jvm.Cond.instanceMethod ({ cls := "GrownKindsModel", name := "whyNot", desc := "(III)I" } : Jvm.MethodName)) ∈ gT := gT_in (List.mem_of_getElem? (i := 2180) (by decide +kernel)) (by decide +kernel)
theorem wm_136 : Cond.selects "GrownKindsModel" ⟨"GrownKindsModel", "whyNot", "(III)I"⟩ ⟨"GrownKindsModel", "whyNot", "(III)I"⟩ ∈ gT := gT_in (List.mem_of_getElem? (i := 136) (by decide +kernel)) (by decide +kernel)
theorem wm_2181 : (Jvm.Cond.code ({ cls := "GrownKindsModel", name := "whyNot", desc := "(III)I" } : Jvm.MethodName) prog_14_method_105_code (4 : Nat) (Option.some Jvm.ClassFile.FieldType.int)) ∈ gT := gT_in (List.mem_of_getElem? (i := 2181) (by decide +kernel)) (by decide +kernel)
theorem dX12_length_7 : decode cX12_length 7 = .ok (.istore 4, 2) := by decide +kernel
theorem dX12_length_9 : decode cX12_length 9 = .ok (.iload 4, 2) := by decide +kernel
theorem dX12_length_11 : decode cX12_length 11 = .ok (.ifCond .ge 6, 3) := by decide +kernel
theorem dX12_length_14 : decode cX12_length 14 = .ok (.iload 4, 2) := by decide +kernel
theorem dX12_length_16 : decode cX12_length 16 = .ok (.ireturn, 1) := by decide +kernel
theorem dX12_sign_0 : decode cX12_sign 0 = .ok (.iload 4, 2) := by decide +kernel
theorem dX12_sign_2 : decode cX12_sign 2 = .ok (.ifCond .ge 8, 3) := by decide +kernel
theorem dX12_sign_10 : decode cX12_sign 10 = .ok (.aload_n 0, 1) := by decide +kernel
theorem dX12_sign_11 : decode cX12_sign 11 = .ok (.iload_n 1, 1) := by decide +kernel
theorem dX12_sign_12 : decode cX12_sign 12 = .ok (.iload_n 2, 1) := by decide +kernel
theorem dX12_sign_13 : decode cX12_sign 13 = .ok (.iload_n 3, 1) := by decide +kernel
theorem dX12_sign_14 : decode cX12_sign 14 = .ok (.invokevirtual 472, 3) := by decide +kernel
theorem dX12_sign_17 : decode cX12_sign 17 = .ok (.istore 5, 2) := by decide +kernel
theorem dX12_sign_19 : decode cX12_sign 19 = .ok (.iload 5, 2) := by decide +kernel
theorem dX12_sign_21 : decode cX12_sign 21 = .ok (.ifCond .ge 6, 3) := by decide +kernel
theorem dX12_sign_24 : decode cX12_sign 24 = .ok (.iload 5, 2) := by decide +kernel
theorem dX12_sign_26 : decode cX12_sign 26 = .ok (.ireturn, 1) := by decide +kernel
theorem dX12_sign_5 : decode cX12_sign 5 = .ok (.bipush (-2), 2) := by decide +kernel
theorem dX12_sign_7 : decode cX12_sign 7 = .ok (.goto 10, 3) := by decide +kernel
theorem dX12_deep_0 : decode cX12_deep 0 = .ok (.aload_n 0, 1) := by decide +kernel
theorem dX12_deep_1 : decode cX12_deep 1 = .ok (.iload_n 1, 1) := by decide +kernel
theorem dX12_deep_2 : decode cX12_deep 2 = .ok (.iload_n 2, 1) := by decide +kernel
theorem dX12_deep_3 : decode cX12_deep 3 = .ok (.iload_n 3, 1) := by decide +kernel
theorem dX12_deep_4 : decode cX12_deep 4 = .ok (.invokevirtual 472, 3) := by decide +kernel
theorem dX12_deep_7 : decode cX12_deep 7 = .ok (.istore 4, 2) := by decide +kernel
theorem dX12_deep_9 : decode cX12_deep 9 = .ok (.iload 4, 2) := by decide +kernel
theorem dX12_deep_11 : decode cX12_deep 11 = .ok (.ifCond .ge 6, 3) := by decide +kernel
theorem dX12_deep_14 : decode cX12_deep 14 = .ok (.iload 4, 2) := by decide +kernel
theorem dX12_deep_16 : decode cX12_deep 16 = .ok (.ireturn, 1) := by decide +kernel
theorem dX12_atoms_0 : decode cX12_atoms 0 = .ok (.iload 4, 2) := by decide +kernel
theorem dX12_atoms_2 : decode cX12_atoms 2 = .ok (.i2l, 1) := by decide +kernel
theorem dX12_atoms_3 : decode cX12_atoms 3 = .ok (.lconst 0, 1) := by decide +kernel
theorem dX12_atoms_4 : decode cX12_atoms 4 = .ok (.ldc2_w 339, 3) := by decide +kernel
theorem wm_2111 : (Jvm.Cond.constantLong "GrownKindsModel" (339 : Nat) (25 : Int64)) ∈ gT := gT_in (List.mem_of_getElem? (i := 2111) (by decide +kernel)) (by decide +kernel)
theorem dX12_atoms_7 : decode cX12_atoms 7 = .ok (.invokestatic 97, 3) := by decide +kernel
theorem dX12_atoms_10 : decode cX12_atoms 10 = .ok (.ifCond .eq 13, 3) := by decide +kernel
theorem dX12_atoms_23 : decode cX12_atoms 23 = .ok (.bipush (-2), 2) := by decide +kernel
theorem dX12_atoms_25 : decode cX12_atoms 25 = .ok (.istore 5, 2) := by decide +kernel
theorem dX12_atoms_27 : decode cX12_atoms 27 = .ok (.iload 5, 2) := by decide +kernel
theorem dX12_atoms_29 : decode cX12_atoms 29 = .ok (.ifCond .ge 6, 3) := by decide +kernel
theorem dX12_atoms_32 : decode cX12_atoms 32 = .ok (.iload 5, 2) := by decide +kernel
theorem dX12_atoms_34 : decode cX12_atoms 34 = .ok (.ireturn, 1) := by decide +kernel
theorem dX12_atoms_13 : decode cX12_atoms 13 = .ok (.aload_n 0, 1) := by decide +kernel
theorem dX12_atoms_14 : decode cX12_atoms 14 = .ok (.iload_n 1, 1) := by decide +kernel
theorem dX12_atoms_15 : decode cX12_atoms 15 = .ok (.iload_n 2, 1) := by decide +kernel
theorem dX12_atoms_16 : decode cX12_atoms 16 = .ok (.iload_n 3, 1) := by decide +kernel
theorem dX12_atoms_17 : decode cX12_atoms 17 = .ok (.invokevirtual 472, 3) := by decide +kernel
theorem dX12_atoms_20 : decode cX12_atoms 20 = .ok (.goto 5, 3) := by decide +kernel
theorem dX12_term_0 : decode cX12_term 0 = .ok (.aload_n 0, 1) := by decide +kernel
theorem dX12_term_1 : decode cX12_term 1 = .ok (.iload_n 1, 1) := by decide +kernel
theorem dX12_term_2 : decode cX12_term 2 = .ok (.iload_n 2, 1) := by decide +kernel
theorem dX12_term_3 : decode cX12_term 3 = .ok (.iload_n 3, 1) := by decide +kernel
theorem dX12_term_4 : decode cX12_term 4 = .ok (.invokevirtual 472, 3) := by decide +kernel
theorem dX12_term_7 : decode cX12_term 7 = .ok (.istore 4, 2) := by decide +kernel
theorem dX12_term_9 : decode cX12_term 9 = .ok (.iload 4, 2) := by decide +kernel
theorem dX12_term_11 : decode cX12_term 11 = .ok (.ifCond .ge 6, 3) := by decide +kernel
theorem dX12_term_14 : decode cX12_term 14 = .ok (.iload 4, 2) := by decide +kernel
theorem dX12_term_16 : decode cX12_term 16 = .ok (.ireturn, 1) := by decide +kernel
theorem dX12_symmetries_0 : decode cX12_symmetries 0 = .ok (.aload_n 0, 1) := by decide +kernel
theorem dX12_symmetries_1 : decode cX12_symmetries 1 = .ok (.iload_n 1, 1) := by decide +kernel
theorem dX12_symmetries_2 : decode cX12_symmetries 2 = .ok (.iload_n 2, 1) := by decide +kernel
theorem dX12_symmetries_3 : decode cX12_symmetries 3 = .ok (.iload_n 3, 1) := by decide +kernel
theorem dX12_symmetries_4 : decode cX12_symmetries 4 = .ok (.invokevirtual 472, 3) := by decide +kernel
theorem dX12_symmetries_7 : decode cX12_symmetries 7 = .ok (.istore 4, 2) := by decide +kernel
theorem dX12_symmetries_9 : decode cX12_symmetries 9 = .ok (.iload 4, 2) := by decide +kernel
theorem dX12_symmetries_11 : decode cX12_symmetries 11 = .ok (.ifCond .ge 6, 3) := by decide +kernel
theorem dX12_symmetries_14 : decode cX12_symmetries 14 = .ok (.iload 4, 2) := by decide +kernel
theorem dX12_symmetries_16 : decode cX12_symmetries 16 = .ok (.ireturn, 1) := by decide +kernel
theorem dX12_labels_0 : decode cX12_labels 0 = .ok (.aload_n 0, 1) := by decide +kernel
theorem dX12_labels_1 : decode cX12_labels 1 = .ok (.iload_n 1, 1) := by decide +kernel
theorem dX12_labels_2 : decode cX12_labels 2 = .ok (.iload_n 2, 1) := by decide +kernel
theorem dX12_labels_3 : decode cX12_labels 3 = .ok (.iload_n 3, 1) := by decide +kernel
theorem dX12_labels_4 : decode cX12_labels 4 = .ok (.invokevirtual 479, 3) := by decide +kernel
theorem wm_2285 : (Jvm.Cond.methodLink "GrownKindsModel" (479 : Nat) ({ cls := "GrownKindsModel", name := "symmetries", desc := "(III)I" } : Jvm.MethodName)) ∈ gT := gT_in (List.mem_of_getElem? (i := 2285) (by decide +kernel)) (by decide +kernel)
theorem wm_2278 : (Jvm.Cond.instanceMethod ({ cls := "GrownKindsModel", name := "symmetries", desc := "(III)I" } : Jvm.MethodName)) ∈ gT := gT_in (List.mem_of_getElem? (i := 2278) (by decide +kernel)) (by decide +kernel)
theorem wm_2279 : (Jvm.Cond.selects "GrownKindsModel" ({ cls := "GrownKindsModel", name := "symmetries", desc := "(III)I" } : Jvm.MethodName) ({ cls := "GrownKindsModel", name := "symmetries", desc := "(III)I" } : Jvm.MethodName)) ∈ gT := gT_in (List.mem_of_getElem? (i := 2279) (by decide +kernel)) (by decide +kernel)
theorem wm_2280 : (Jvm.Cond.code ({ cls := "GrownKindsModel", name := "symmetries", desc := "(III)I" } : Jvm.MethodName) prog_14_method_111_code (5 : Nat) (Option.some Jvm.ClassFile.FieldType.int)) ∈ gT := gT_in (List.mem_of_getElem? (i := 2280) (by decide +kernel)) (by decide +kernel)
theorem dX12_labels_7 : decode cX12_labels 7 = .ok (.istore 4, 2) := by decide +kernel
theorem dX12_labels_9 : decode cX12_labels 9 = .ok (.iload 4, 2) := by decide +kernel
theorem dX12_labels_11 : decode cX12_labels 11 = .ok (.ifCond .ge 8, 3) := by decide +kernel
theorem dX12_labels_14 : decode cX12_labels 14 = .ok (.iload 4, 2) := by decide +kernel
theorem dX12_labels_16 : decode cX12_labels 16 = .ok (.goto 11, 3) := by decide +kernel
theorem dX12_labels_27 : decode cX12_labels 27 = .ok (.ireturn, 1) := by decide +kernel
theorem dX12_tells_0 : decode cX12_tells 0 = .ok (.aload_n 0, 1) := by decide +kernel
theorem dX12_tells_1 : decode cX12_tells 1 = .ok (.iload_n 1, 1) := by decide +kernel
theorem dX12_tells_2 : decode cX12_tells 2 = .ok (.invokevirtual 225, 3) := by decide +kernel
theorem dX12_tells_5 : decode cX12_tells 5 = .ok (.ifCond .ne 6, 3) := by decide +kernel
theorem dX12_tells_8 : decode cX12_tells 8 = .ok (.bipush (-2), 2) := by decide +kernel
theorem dX12_tells_10 : decode cX12_tells 10 = .ok (.ireturn, 1) := by decide +kernel
theorem dX12_shared_0 : decode cX12_shared 0 = .ok (.aload_n 0, 1) := by decide +kernel
theorem dX12_shared_1 : decode cX12_shared 1 = .ok (.iload_n 2, 1) := by decide +kernel
theorem dX12_shared_2 : decode cX12_shared 2 = .ok (.invokevirtual 225, 3) := by decide +kernel
theorem dX12_shared_5 : decode cX12_shared 5 = .ok (.ifCond .eq 12, 3) := by decide +kernel
theorem dX12_shared_17 : decode cX12_shared 17 = .ok (.bipush (-2), 2) := by decide +kernel
theorem dX12_shared_19 : decode cX12_shared 19 = .ok (.istore 4, 2) := by decide +kernel
theorem dX12_shared_21 : decode cX12_shared 21 = .ok (.iload 4, 2) := by decide +kernel
theorem dX12_shared_23 : decode cX12_shared 23 = .ok (.iconst (-1), 1) := by decide +kernel
theorem dX12_shared_24 : decode cX12_shared 24 = .ok (.if_icmp .ge 6, 3) := by decide +kernel
theorem dX12_shared_27 : decode cX12_shared 27 = .ok (.iload 4, 2) := by decide +kernel
theorem dX12_shared_29 : decode cX12_shared 29 = .ok (.ireturn, 1) := by decide +kernel
theorem dX12_most_0 : decode cX12_most 0 = .ok (.aload_n 0, 1) := by decide +kernel
theorem dX12_most_1 : decode cX12_most 1 = .ok (.iload_n 1, 1) := by decide +kernel
theorem dX12_most_2 : decode cX12_most 2 = .ok (.iload_n 2, 1) := by decide +kernel
theorem dX12_most_3 : decode cX12_most 3 = .ok (.invokevirtual 534, 3) := by decide +kernel
theorem wm_2354 : (Jvm.Cond.methodLink "GrownKindsModel" (534 : Nat) ({ cls := "GrownKindsModel", name := "whyNone", desc := "(II)I" } : Jvm.MethodName)) ∈ gT := gT_in (List.mem_of_getElem? (i := 2354) (by decide +kernel)) (by decide +kernel)
theorem wm_2356 : (Jvm.Cond.instanceMethod ({ cls := "GrownKindsModel", name := "whyNone", desc := "(II)I" } : Jvm.MethodName)) ∈ gT := gT_in (List.mem_of_getElem? (i := 2356) (by decide +kernel)) (by decide +kernel)
theorem wm_169 : Cond.selects "GrownKindsModel" ⟨"GrownKindsModel", "whyNone", "(II)I"⟩ ⟨"GrownKindsModel", "whyNone", "(II)I"⟩ ∈ gT := gT_in (List.mem_of_getElem? (i := 169) (by decide +kernel)) (by decide +kernel)
theorem wm_2357 : (Jvm.Cond.code ({ cls := "GrownKindsModel", name := "whyNone", desc := "(II)I" } : Jvm.MethodName) prog_14_method_129_code (3 : Nat) (Option.some Jvm.ClassFile.FieldType.int)) ∈ gT := gT_in (List.mem_of_getElem? (i := 2357) (by decide +kernel)) (by decide +kernel)
theorem dX12_most_6 : decode cX12_most 6 = .ok (.istore 5, 2) := by decide +kernel
theorem dX12_most_8 : decode cX12_most 8 = .ok (.iload 5, 2) := by decide +kernel
theorem dX12_most_10 : decode cX12_most 10 = .ok (.ifCond .ge 6, 3) := by decide +kernel
theorem dX12_most_13 : decode cX12_most 13 = .ok (.iload 5, 2) := by decide +kernel
theorem dX12_most_15 : decode cX12_most 15 = .ok (.ireturn, 1) := by decide +kernel
theorem dX12_deepest_0 : decode cX12_deepest 0 = .ok (.aload_n 0, 1) := by decide +kernel
theorem dX12_deepest_1 : decode cX12_deepest 1 = .ok (.iload_n 1, 1) := by decide +kernel
theorem dX12_deepest_2 : decode cX12_deepest 2 = .ok (.iload_n 2, 1) := by decide +kernel
theorem dX12_deepest_3 : decode cX12_deepest 3 = .ok (.iconst 0, 1) := by decide +kernel
theorem dX12_deepest_4 : decode cX12_deepest 4 = .ok (.iconst (-1), 1) := by decide +kernel
theorem dX12_deepest_5 : decode cX12_deepest 5 = .ok (.invokevirtual 537, 3) := by decide +kernel
theorem wm_2362 : (Jvm.Cond.methodLink "GrownKindsModel" (537 : Nat) ({ cls := "GrownKindsModel", name := "most", desc := "(IIII)I" } : Jvm.MethodName)) ∈ gT := gT_in (List.mem_of_getElem? (i := 2362) (by decide +kernel)) (by decide +kernel)
theorem wm_2364 : (Jvm.Cond.instanceMethod ({ cls := "GrownKindsModel", name := "most", desc := "(IIII)I" } : Jvm.MethodName)) ∈ gT := gT_in (List.mem_of_getElem? (i := 2364) (by decide +kernel)) (by decide +kernel)
theorem wm_170 : Cond.selects "GrownKindsModel" ⟨"GrownKindsModel", "most", "(IIII)I"⟩ ⟨"GrownKindsModel", "most", "(IIII)I"⟩ ∈ gT := gT_in (List.mem_of_getElem? (i := 170) (by decide +kernel)) (by decide +kernel)
theorem wm_2365 : (Jvm.Cond.code ({ cls := "GrownKindsModel", name := "most", desc := "(IIII)I" } : Jvm.MethodName) prog_14_method_131_code (10 : Nat) (Option.some Jvm.ClassFile.FieldType.int)) ∈ gT := gT_in (List.mem_of_getElem? (i := 2365) (by decide +kernel)) (by decide +kernel)
theorem dX12_deepest_8 : decode cX12_deepest 8 = .ok (.ireturn, 1) := by decide +kernel
theorem dX12_fullest_0 : decode cX12_fullest 0 = .ok (.iload_n 3, 1) := by decide +kernel
theorem dX12_fullest_1 : decode cX12_fullest 1 = .ok (.i2l, 1) := by decide +kernel
theorem dX12_fullest_2 : decode cX12_fullest 2 = .ok (.lconst 0, 1) := by decide +kernel
theorem dX12_fullest_3 : decode cX12_fullest 3 = .ok (.ldc2_w 339, 3) := by decide +kernel
theorem dX12_fullest_6 : decode cX12_fullest 6 = .ok (.invokestatic 97, 3) := by decide +kernel
theorem dX12_fullest_9 : decode cX12_fullest 9 = .ok (.ifCond .eq 14, 3) := by decide +kernel
theorem dX12_fullest_23 : decode cX12_fullest 23 = .ok (.bipush (-2), 2) := by decide +kernel
theorem dX12_fullest_25 : decode cX12_fullest 25 = .ok (.ireturn, 1) := by decide +kernel
theorem dX12_fullest_12 : decode cX12_fullest 12 = .ok (.aload_n 0, 1) := by decide +kernel
theorem dX12_fullest_13 : decode cX12_fullest 13 = .ok (.iload_n 1, 1) := by decide +kernel
theorem dX12_fullest_14 : decode cX12_fullest 14 = .ok (.iload_n 2, 1) := by decide +kernel
theorem dX12_fullest_15 : decode cX12_fullest 15 = .ok (.iconst 1, 1) := by decide +kernel
theorem dX12_fullest_16 : decode cX12_fullest 16 = .ok (.iload_n 3, 1) := by decide +kernel
theorem dX12_fullest_17 : decode cX12_fullest 17 = .ok (.invokevirtual 537, 3) := by decide +kernel
theorem dX12_fullest_20 : decode cX12_fullest 20 = .ok (.goto 5, 3) := by decide +kernel
theorem dX12_stiffest_0 : decode cX12_stiffest 0 = .ok (.aload_n 0, 1) := by decide +kernel
theorem dX12_stiffest_1 : decode cX12_stiffest 1 = .ok (.iload_n 1, 1) := by decide +kernel
theorem dX12_stiffest_2 : decode cX12_stiffest 2 = .ok (.iload_n 2, 1) := by decide +kernel
theorem dX12_stiffest_3 : decode cX12_stiffest 3 = .ok (.iconst 2, 1) := by decide +kernel
theorem dX12_stiffest_4 : decode cX12_stiffest 4 = .ok (.iconst (-1), 1) := by decide +kernel
theorem dX12_stiffest_5 : decode cX12_stiffest 5 = .ok (.invokevirtual 537, 3) := by decide +kernel
theorem dX12_stiffest_8 : decode cX12_stiffest 8 = .ok (.ireturn, 1) := by decide +kernel
theorem dX12_chance_0 : decode cX12_chance 0 = .ok (.aload_n 0, 1) := by decide +kernel
theorem dX12_chance_1 : decode cX12_chance 1 = .ok (.iload_n 1, 1) := by decide +kernel
theorem dX12_chance_2 : decode cX12_chance 2 = .ok (.iload_n 3, 1) := by decide +kernel
theorem dX12_chance_3 : decode cX12_chance 3 = .ok (.invokevirtual 344, 3) := by decide +kernel
theorem dX12_chance_6 : decode cX12_chance 6 = .ok (.ifCond .eq 23, 3) := by decide +kernel
theorem dX12_chance_29 : decode cX12_chance 29 = .ok (.bipush (-2), 2) := by decide +kernel
theorem dX12_chance_31 : decode cX12_chance 31 = .ok (.istore 5, 2) := by decide +kernel
theorem dX12_chance_33 : decode cX12_chance 33 = .ok (.iload 5, 2) := by decide +kernel
theorem dX12_chance_35 : decode cX12_chance 35 = .ok (.ifCond .ge 8, 3) := by decide +kernel
theorem dX12_chance_38 : decode cX12_chance 38 = .ok (.iload 5, 2) := by decide +kernel
theorem dX12_chance_40 : decode cX12_chance 40 = .ok (.goto 23, 3) := by decide +kernel
theorem dX12_chance_63 : decode cX12_chance 63 = .ok (.ireturn, 1) := by decide +kernel
theorem dX12_mean_0 : decode cX12_mean 0 = .ok (.iload_n 3, 1) := by decide +kernel
theorem dX12_mean_1 : decode cX12_mean 1 = .ok (.i2l, 1) := by decide +kernel
theorem dX12_mean_2 : decode cX12_mean 2 = .ok (.lconst 0, 1) := by decide +kernel
theorem dX12_mean_3 : decode cX12_mean 3 = .ok (.ldc2_w 339, 3) := by decide +kernel
theorem dX12_mean_6 : decode cX12_mean 6 = .ok (.invokestatic 97, 3) := by decide +kernel
theorem dX12_mean_9 : decode cX12_mean 9 = .ok (.ifCond .eq 23, 3) := by decide +kernel
theorem dX12_mean_32 : decode cX12_mean 32 = .ok (.bipush (-2), 2) := by decide +kernel
theorem dX12_mean_34 : decode cX12_mean 34 = .ok (.istore 5, 2) := by decide +kernel
theorem dX12_mean_36 : decode cX12_mean 36 = .ok (.iload 5, 2) := by decide +kernel
theorem dX12_mean_38 : decode cX12_mean 38 = .ok (.ifCond .ge 6, 3) := by decide +kernel
theorem dX12_mean_41 : decode cX12_mean 41 = .ok (.iload 5, 2) := by decide +kernel
theorem dX12_mean_43 : decode cX12_mean 43 = .ok (.ireturn, 1) := by decide +kernel
theorem dX12_mean_12 : decode cX12_mean 12 = .ok (.iload 4, 2) := by decide +kernel
theorem dX12_mean_14 : decode cX12_mean 14 = .ok (.i2l, 1) := by decide +kernel
theorem dX12_mean_15 : decode cX12_mean 15 = .ok (.lconst 0, 1) := by decide +kernel
theorem dX12_mean_16 : decode cX12_mean 16 = .ok (.lconst 1, 1) := by decide +kernel
theorem dX12_mean_17 : decode cX12_mean 17 = .ok (.invokestatic 97, 3) := by decide +kernel
theorem dX12_mean_20 : decode cX12_mean 20 = .ok (.ifCond .eq 12, 3) := by decide +kernel
theorem dX12_mean_23 : decode cX12_mean 23 = .ok (.aload_n 0, 1) := by decide +kernel
theorem dX12_mean_24 : decode cX12_mean 24 = .ok (.iload_n 1, 1) := by decide +kernel
theorem dX12_mean_25 : decode cX12_mean 25 = .ok (.iload_n 2, 1) := by decide +kernel
theorem dX12_mean_26 : decode cX12_mean 26 = .ok (.invokevirtual 534, 3) := by decide +kernel
theorem dX12_mean_29 : decode cX12_mean 29 = .ok (.goto 5, 3) := by decide +kernel
theorem dX12_isBox_0 : decode cX12_isBox 0 = .ok (.aload_n 0, 1) := by decide +kernel
theorem dX12_isBox_1 : decode cX12_isBox 1 = .ok (.iload_n 1, 1) := by decide +kernel
theorem dX12_isBox_2 : decode cX12_isBox 2 = .ok (.invokevirtual 225, 3) := by decide +kernel
theorem dX12_isBox_5 : decode cX12_isBox 5 = .ok (.ifCond .eq 28, 3) := by decide +kernel
theorem dX12_isBox_33 : decode cX12_isBox 33 = .ok (.iconst 0, 1) := by decide +kernel
theorem dX12_isBox_34 : decode cX12_isBox 34 = .ok (.ireturn, 1) := by decide +kernel
theorem dX12_inBox_0 : decode cX12_inBox 0 = .ok (.aload_n 0, 1) := by decide +kernel
theorem dX12_inBox_1 : decode cX12_inBox 1 = .ok (.iload_n 1, 1) := by decide +kernel
theorem dX12_inBox_2 : decode cX12_inBox 2 = .ok (.iload_n 2, 1) := by decide +kernel
theorem dX12_inBox_3 : decode cX12_inBox 3 = .ok (.iload_n 3, 1) := by decide +kernel
theorem dX12_inBox_4 : decode cX12_inBox 4 = .ok (.invokevirtual 545, 3) := by decide +kernel
theorem wm_2392 : (Jvm.Cond.methodLink "GrownKindsModel" (545 : Nat) ({ cls := "GrownKindsModel", name := "isBox", desc := "(III)Z" } : Jvm.MethodName)) ∈ gT := gT_in (List.mem_of_getElem? (i := 2392) (by decide +kernel)) (by decide +kernel)
theorem wm_2394 : (Jvm.Cond.instanceMethod ({ cls := "GrownKindsModel", name := "isBox", desc := "(III)Z" } : Jvm.MethodName)) ∈ gT := gT_in (List.mem_of_getElem? (i := 2394) (by decide +kernel)) (by decide +kernel)
theorem wm_171 : Cond.selects "GrownKindsModel" ⟨"GrownKindsModel", "isBox", "(III)Z"⟩ ⟨"GrownKindsModel", "isBox", "(III)Z"⟩ ∈ gT := gT_in (List.mem_of_getElem? (i := 171) (by decide +kernel)) (by decide +kernel)
theorem wm_2395 : (Jvm.Cond.code ({ cls := "GrownKindsModel", name := "isBox", desc := "(III)Z" } : Jvm.MethodName) prog_14_method_139_code (4 : Nat) (Option.some Jvm.ClassFile.FieldType.boolean)) ∈ gT := gT_in (List.mem_of_getElem? (i := 2395) (by decide +kernel)) (by decide +kernel)
theorem dX12_inBox_7 : decode cX12_inBox 7 = .ok (.ifCond .ne 6, 3) := by decide +kernel
theorem dX12_inBox_10 : decode cX12_inBox 10 = .ok (.bipush (-2), 2) := by decide +kernel
theorem dX12_inBox_12 : decode cX12_inBox 12 = .ok (.ireturn, 1) := by decide +kernel
theorem dX12_boxed_0 : decode cX12_boxed 0 = .ok (.aload_n 0, 1) := by decide +kernel
theorem dX12_boxed_1 : decode cX12_boxed 1 = .ok (.iload_n 1, 1) := by decide +kernel
theorem dX12_boxed_2 : decode cX12_boxed 2 = .ok (.iload_n 2, 1) := by decide +kernel
theorem dX12_boxed_3 : decode cX12_boxed 3 = .ok (.iload_n 3, 1) := by decide +kernel
theorem dX12_boxed_4 : decode cX12_boxed 4 = .ok (.invokevirtual 545, 3) := by decide +kernel
theorem dX12_boxed_7 : decode cX12_boxed 7 = .ok (.ifCond .ne 7, 3) := by decide +kernel
theorem dX12_boxed_10 : decode cX12_boxed 10 = .ok (.ldc2_w 337, 3) := by decide +kernel
theorem dX12_boxed_13 : decode cX12_boxed 13 = .ok (.lreturn, 1) := by decide +kernel
theorem dX12_bits_0 : decode cX12_bits 0 = .ok (.aload_n 0, 1) := by decide +kernel
theorem dX12_bits_1 : decode cX12_bits 1 = .ok (.iload_n 1, 1) := by decide +kernel
theorem dX12_bits_2 : decode cX12_bits 2 = .ok (.iload_n 2, 1) := by decide +kernel
theorem dX12_bits_3 : decode cX12_bits 3 = .ok (.iload_n 3, 1) := by decide +kernel
theorem dX12_bits_4 : decode cX12_bits 4 = .ok (.ldc_w 548, 3) := by decide +kernel
theorem wm_2400 : (Jvm.Cond.constant "GrownKindsModel" (548 : Nat) (1000000 : Int32)) ∈ gT := gT_in (List.mem_of_getElem? (i := 2400) (by decide +kernel)) (by decide +kernel)
theorem dX12_bits_7 : decode cX12_bits 7 = .ok (.invokevirtual 549, 3) := by decide +kernel
theorem wm_2401 : (Jvm.Cond.methodLink "GrownKindsModel" (549 : Nat) ({ cls := "GrownKindsModel", name := "inBox", desc := "(IIII)I" } : Jvm.MethodName)) ∈ gT := gT_in (List.mem_of_getElem? (i := 2401) (by decide +kernel)) (by decide +kernel)
theorem wm_2403 : (Jvm.Cond.instanceMethod ({ cls := "GrownKindsModel", name := "inBox", desc := "(IIII)I" } : Jvm.MethodName)) ∈ gT := gT_in (List.mem_of_getElem? (i := 2403) (by decide +kernel)) (by decide +kernel)
theorem wm_172 : Cond.selects "GrownKindsModel" ⟨"GrownKindsModel", "inBox", "(IIII)I"⟩ ⟨"GrownKindsModel", "inBox", "(IIII)I"⟩ ∈ gT := gT_in (List.mem_of_getElem? (i := 172) (by decide +kernel)) (by decide +kernel)
theorem wm_2404 : (Jvm.Cond.code ({ cls := "GrownKindsModel", name := "inBox", desc := "(IIII)I" } : Jvm.MethodName) prog_14_method_142_code (7 : Nat) (Option.some Jvm.ClassFile.FieldType.int)) ∈ gT := gT_in (List.mem_of_getElem? (i := 2404) (by decide +kernel)) (by decide +kernel)
theorem dX12_bits_10 : decode cX12_bits 10 = .ok (.istore 4, 2) := by decide +kernel
theorem dX12_bits_12 : decode cX12_bits 12 = .ok (.iload 4, 2) := by decide +kernel
theorem dX12_bits_14 : decode cX12_bits 14 = .ok (.ifCond .ge 8, 3) := by decide +kernel
theorem dX12_bits_17 : decode cX12_bits 17 = .ok (.iload 4, 2) := by decide +kernel
theorem dX12_bits_19 : decode cX12_bits 19 = .ok (.goto 9, 3) := by decide +kernel
theorem dX12_bits_28 : decode cX12_bits 28 = .ok (.ireturn, 1) := by decide +kernel
theorem dX12_drawn_0 : decode cX12_drawn 0 = .ok (.iload 4, 2) := by decide +kernel
theorem dX12_drawn_2 : decode cX12_drawn 2 = .ok (.i2l, 1) := by decide +kernel
theorem dX12_drawn_3 : decode cX12_drawn 3 = .ok (.lconst 0, 1) := by decide +kernel
theorem dX12_drawn_4 : decode cX12_drawn 4 = .ok (.ldc2_w 559, 3) := by decide +kernel
theorem wm_2412 : (Jvm.Cond.constantLong "GrownKindsModel" (559 : Nat) (1073741823 : Int64)) ∈ gT := gT_in (List.mem_of_getElem? (i := 2412) (by decide +kernel)) (by decide +kernel)
theorem dX12_drawn_7 : decode cX12_drawn 7 = .ok (.invokestatic 97, 3) := by decide +kernel
theorem dX12_drawn_10 : decode cX12_drawn 10 = .ok (.ifCond .eq 27, 3) := by decide +kernel
theorem dX12_drawn_37 : decode cX12_drawn 37 = .ok (.bipush (-2), 2) := by decide +kernel
theorem dX12_drawn_39 : decode cX12_drawn 39 = .ok (.istore 6, 2) := by decide +kernel
theorem dX12_drawn_41 : decode cX12_drawn 41 = .ok (.iload 6, 2) := by decide +kernel
theorem dX12_drawn_43 : decode cX12_drawn 43 = .ok (.ifCond .ge 6, 3) := by decide +kernel
theorem dX12_drawn_46 : decode cX12_drawn 46 = .ok (.iload 6, 2) := by decide +kernel
theorem dX12_drawn_48 : decode cX12_drawn 48 = .ok (.ireturn, 1) := by decide +kernel
theorem dX12_drawn_13 : decode cX12_drawn 13 = .ok (.iload 5, 2) := by decide +kernel
theorem dX12_drawn_15 : decode cX12_drawn 15 = .ok (.i2l, 1) := by decide +kernel
theorem dX12_drawn_16 : decode cX12_drawn 16 = .ok (.lconst 0, 1) := by decide +kernel
theorem dX12_drawn_17 : decode cX12_drawn 17 = .ok (.lconst 1, 1) := by decide +kernel
theorem dX12_drawn_18 : decode cX12_drawn 18 = .ok (.invokestatic 97, 3) := by decide +kernel
theorem dX12_drawn_21 : decode cX12_drawn 21 = .ok (.ifCond .eq 16, 3) := by decide +kernel
theorem dX12_drawn_24 : decode cX12_drawn 24 = .ok (.aload_n 0, 1) := by decide +kernel
theorem dX12_drawn_25 : decode cX12_drawn 25 = .ok (.iload_n 1, 1) := by decide +kernel
theorem dX12_drawn_26 : decode cX12_drawn 26 = .ok (.iload_n 2, 1) := by decide +kernel
theorem dX12_drawn_27 : decode cX12_drawn 27 = .ok (.iload_n 3, 1) := by decide +kernel
theorem dX12_drawn_28 : decode cX12_drawn 28 = .ok (.ldc_w 548, 3) := by decide +kernel
theorem dX12_drawn_31 : decode cX12_drawn 31 = .ok (.invokevirtual 549, 3) := by decide +kernel
theorem dX12_drawn_34 : decode cX12_drawn 34 = .ok (.goto 5, 3) := by decide +kernel
theorem dX12_deal_0 : decode cX12_deal 0 = .ok (.iload 4, 2) := by decide +kernel
theorem dX12_deal_2 : decode cX12_deal 2 = .ok (.i2l, 1) := by decide +kernel
theorem dX12_deal_3 : decode cX12_deal 3 = .ok (.lconst 0, 1) := by decide +kernel
theorem dX12_deal_4 : decode cX12_deal 4 = .ok (.ldc2_w 564, 3) := by decide +kernel
theorem wm_2421 : (Jvm.Cond.constantLong "GrownKindsModel" (564 : Nat) (2000000000 : Int64)) ∈ gT := gT_in (List.mem_of_getElem? (i := 2421) (by decide +kernel)) (by decide +kernel)
theorem dX12_deal_7 : decode cX12_deal 7 = .ok (.invokestatic 97, 3) := by decide +kernel
theorem dX12_deal_10 : decode cX12_deal 10 = .ok (.ifCond .eq 16, 3) := by decide +kernel
theorem dX12_deal_26 : decode cX12_deal 26 = .ok (.bipush (-2), 2) := by decide +kernel
theorem dX12_deal_28 : decode cX12_deal 28 = .ok (.istore 5, 2) := by decide +kernel
theorem dX12_deal_30 : decode cX12_deal 30 = .ok (.iload 5, 2) := by decide +kernel
theorem dX12_deal_32 : decode cX12_deal 32 = .ok (.iconst (-1), 1) := by decide +kernel
theorem dX12_deal_33 : decode cX12_deal 33 = .ok (.if_icmp .ge 6, 3) := by decide +kernel
theorem dX12_deal_36 : decode cX12_deal 36 = .ok (.iload 5, 2) := by decide +kernel
theorem dX12_deal_38 : decode cX12_deal 38 = .ok (.ireturn, 1) := by decide +kernel
theorem dX12_deal_13 : decode cX12_deal 13 = .ok (.aload_n 0, 1) := by decide +kernel
theorem dX12_deal_14 : decode cX12_deal 14 = .ok (.iload_n 1, 1) := by decide +kernel
theorem dX12_deal_15 : decode cX12_deal 15 = .ok (.iload_n 2, 1) := by decide +kernel
theorem dX12_deal_16 : decode cX12_deal 16 = .ok (.iload_n 3, 1) := by decide +kernel
theorem dX12_deal_17 : decode cX12_deal 17 = .ok (.sipush 1000, 3) := by decide +kernel
theorem dX12_deal_20 : decode cX12_deal 20 = .ok (.invokevirtual 549, 3) := by decide +kernel
theorem dX12_deal_23 : decode cX12_deal 23 = .ok (.goto 5, 3) := by decide +kernel
theorem dX12_takes_0 : decode cX12_takes 0 = .ok (.aload_n 0, 1) := by decide +kernel
theorem dX12_takes_1 : decode cX12_takes 1 = .ok (.iload_n 1, 1) := by decide +kernel
theorem dX12_takes_2 : decode cX12_takes 2 = .ok (.iload_n 2, 1) := by decide +kernel
theorem dX12_takes_3 : decode cX12_takes 3 = .ok (.invokevirtual 344, 3) := by decide +kernel
theorem dX12_takes_6 : decode cX12_takes 6 = .ok (.ifCond .ne 6, 3) := by decide +kernel
theorem dX12_takes_9 : decode cX12_takes 9 = .ok (.bipush (-2), 2) := by decide +kernel
theorem dX12_takes_11 : decode cX12_takes 11 = .ok (.ireturn, 1) := by decide +kernel
theorem dX12_undo_0 : decode cX12_undo 0 = .ok (.aload_n 0, 1) := by decide +kernel
theorem dX12_undo_1 : decode cX12_undo 1 = .ok (.getfield 15, 3) := by decide +kernel
theorem dX12_undo_4 : decode cX12_undo 4 = .ok (.iconst 3, 1) := by decide +kernel
theorem dX12_undo_5 : decode cX12_undo 5 = .ok (.iaload, 1) := by decide +kernel
theorem dX12_undo_6 : decode cX12_undo 6 = .ok (.ifCond .ne 6, 3) := by decide +kernel
theorem dX12_undo_9 : decode cX12_undo 9 = .ok (.bipush (-2), 2) := by decide +kernel
theorem dX12_undo_11 : decode cX12_undo 11 = .ok (.ireturn, 1) := by decide +kernel
theorem dX12_anew_0 : decode cX12_anew 0 = .ok (.aload_n 0, 1) := by decide +kernel
theorem dX12_anew_1 : decode cX12_anew 1 = .ok (.getfield 15, 3) := by decide +kernel
theorem dX12_anew_4 : decode cX12_anew 4 = .ok (.iconst 3, 1) := by decide +kernel
theorem dX12_anew_5 : decode cX12_anew 5 = .ok (.iaload, 1) := by decide +kernel
theorem dX12_anew_6 : decode cX12_anew 6 = .ok (.ifCond .ne 6, 3) := by decide +kernel
theorem dX12_anew_9 : decode cX12_anew 9 = .ok (.bipush (-2), 2) := by decide +kernel
theorem dX12_anew_11 : decode cX12_anew 11 = .ok (.ireturn, 1) := by decide +kernel
theorem dX12_dealt_0 : decode cX12_dealt 0 = .ok (.aload_n 0, 1) := by decide +kernel
theorem dX12_dealt_1 : decode cX12_dealt 1 = .ok (.getfield 222, 3) := by decide +kernel
theorem wm_1719 : (Jvm.Cond.fieldLink "GrownKindsModel" (222 : Nat) "GrownKindsModel" "isDealing" "Z") ∈ gT := gT_in (List.mem_of_getElem? (i := 1719) (by decide +kernel)) (by decide +kernel)
theorem dX12_dealt_4 : decode cX12_dealt 4 = .ok (.ifCond .eq 10, 3) := by decide +kernel
theorem dX12_dealt_14 : decode cX12_dealt 14 = .ok (.iconst (-1), 1) := by decide +kernel
theorem dX12_dealt_15 : decode cX12_dealt 15 = .ok (.ireturn, 1) := by decide +kernel
theorem dX12_left_0 : decode cX12_left 0 = .ok (.aload_n 0, 1) := by decide +kernel
theorem dX12_left_1 : decode cX12_left 1 = .ok (.getfield 222, 3) := by decide +kernel
theorem dX12_left_4 : decode cX12_left 4 = .ok (.ifCond .eq 10, 3) := by decide +kernel
theorem dX12_left_14 : decode cX12_left 14 = .ok (.iconst 0, 1) := by decide +kernel
theorem dX12_left_15 : decode cX12_left 15 = .ok (.ireturn, 1) := by decide +kernel
abbrev Z0 (b : Nat) (cy : Nat → ClassId) : va_E := .inr (11, [.ref (b + 1), .int 0, .ref (b + 2), .ref (b + 12), .int 0, .int (-1), .ref (b + 33), .ref (b + 40), .ref (b + 47), .ref (b + 60), .ref (b + 67), .ref (b + 73), .ref (b + 80), .ref (b + 81), .ref (b + 82), .int 0, .int 0, .int (-1), .int (-1)])
abbrev Z1 (b : Nat) (cy : Nat → ClassId) : va_E := .inl (cy 0, 400, .inl (fun _ => 0))
abbrev Z2 (b : Nat) (cy : Nat → ClassId) : va_E := .inr (2, [.int 0, .int 0, .int 0, .int 0, .int 0, .ref (b + 3), .ref (b + 4), .ref (b + 5), .ref (b + 6), .ref (b + 7), .ref (b + 8), .ref (b + 9), .ref (b + 10), .ref (b + 11)])
abbrev Z3 (b : Nat) (cy : Nat → ClassId) : va_E := .inl (cy 1, 24, .inl (fun _ => 0))
abbrev Z4 (b : Nat) (cy : Nat → ClassId) : va_E := .inl (cy 1, 24, .inl (fun _ => 0))
abbrev Z5 (b : Nat) (cy : Nat → ClassId) : va_E := .inl (cy 1, 24, .inl (fun _ => 0))
abbrev Z6 (b : Nat) (cy : Nat → ClassId) : va_E := .inl (cy 1, 24, .inl (fun _ => 0))
abbrev Z7 (b : Nat) (cy : Nat → ClassId) : va_E := .inl (cy 1, 24, .inl (fun _ => 0))
abbrev Z8 (b : Nat) (cy : Nat → ClassId) : va_E := .inl (cy 1, 30, .inl (fun _ => 0))
abbrev Z9 (b : Nat) (cy : Nat → ClassId) : va_E := .inl (cy 1, 300, .inl (fun _ => 0))
abbrev Z10 (b : Nat) (cy : Nat → ClassId) : va_E := .inl (cy 1, 30, .inl (fun _ => 0))
abbrev Z11 (b : Nat) (cy : Nat → ClassId) : va_E := .inl (cy 1, 54, .inl (fun _ => 0))
abbrev Z12 (b : Nat) (cy : Nat → ClassId) : va_E := .inr (5, [.ref (b + 13), .int 0, .int (-1), .ref (b + 26), .ref (b + 23), .int 0, .int 0, .int 3, .int 0, .int 0, .int 0, .ref (b + 24), .ref (b + 25)])
abbrev Z13 (b : Nat) (cy : Nat → ClassId) : va_E := .inr (2, [.int 0, .int 0, .int 0, .int 0, .int 0, .ref (b + 14), .ref (b + 15), .ref (b + 16), .ref (b + 17), .ref (b + 18), .ref (b + 19), .ref (b + 20), .ref (b + 21), .ref (b + 22)])
abbrev Z14 (b : Nat) (cy : Nat → ClassId) : va_E := .inl (cy 1, 24, .inl (fun _ => 0))
abbrev Z15 (b : Nat) (cy : Nat → ClassId) : va_E := .inl (cy 1, 24, .inl (fun _ => 0))
abbrev Z16 (b : Nat) (cy : Nat → ClassId) : va_E := .inl (cy 1, 24, .inl (fun _ => 0))
abbrev Z17 (b : Nat) (cy : Nat → ClassId) : va_E := .inl (cy 1, 24, .inl (fun _ => 0))
abbrev Z18 (b : Nat) (cy : Nat → ClassId) : va_E := .inl (cy 1, 24, .inl (fun _ => 0))
abbrev Z19 (b : Nat) (cy : Nat → ClassId) : va_E := .inl (cy 1, 30, .inl (fun _ => 0))
abbrev Z20 (b : Nat) (cy : Nat → ClassId) : va_E := .inl (cy 1, 300, .inl (fun _ => 0))
abbrev Z21 (b : Nat) (cy : Nat → ClassId) : va_E := .inl (cy 1, 30, .inl (fun _ => 0))
abbrev Z22 (b : Nat) (cy : Nat → ClassId) : va_E := .inl (cy 1, 54, .inl (fun _ => 0))
abbrev Z23 (b : Nat) (cy : Nat → ClassId) : va_E := .inl (cy 0, 0, .inl (fun _ => 0))
abbrev Z24 (b : Nat) (cy : Nat → ClassId) : va_E := .inl (cy 1, 6, .inl (fun _ => 0))
abbrev Z25 (b : Nat) (cy : Nat → ClassId) : va_E := .inl (cy 1, 6, .inl (fun _ => 0))
abbrev Z26 (b : Nat) (cy : Nat → ClassId) : va_E := .inr (3, [.ref (b + 13), .int 0, .int 0, .ref (b + 27), .ref (b + 28), .ref (b + 29), .ref (b + 30), .ref (b + 31), .ref (b + 32)])
abbrev Z27 (b : Nat) (cy : Nat → ClassId) : va_E := .inl (cy 1, 24, .inl (fun _ => 0))
abbrev Z28 (b : Nat) (cy : Nat → ClassId) : va_E := .inl (cy 1, 24, .inl (fun _ => 0))
abbrev Z29 (b : Nat) (cy : Nat → ClassId) : va_E := .inl (cy 1, 24, .inl (fun _ => 0))
abbrev Z30 (b : Nat) (cy : Nat → ClassId) : va_E := .inl (cy 1, 6, .inl (fun _ => 0))
abbrev Z31 (b : Nat) (cy : Nat → ClassId) : va_E := .inl (cy 1, 6, .inl (fun _ => 0))
abbrev Z32 (b : Nat) (cy : Nat → ClassId) : va_E := .inl (cy 1, 6, .inl (fun _ => 0))
abbrev Z33 (b : Nat) (cy : Nat → ClassId) : va_E := .inr (3, [.ref (b + 2), .int 0, .int 0, .ref (b + 34), .ref (b + 35), .ref (b + 36), .ref (b + 37), .ref (b + 38), .ref (b + 39)])
abbrev Z34 (b : Nat) (cy : Nat → ClassId) : va_E := .inl (cy 1, 24, .inl (fun _ => 0))
abbrev Z35 (b : Nat) (cy : Nat → ClassId) : va_E := .inl (cy 1, 24, .inl (fun _ => 0))
abbrev Z36 (b : Nat) (cy : Nat → ClassId) : va_E := .inl (cy 1, 24, .inl (fun _ => 0))
abbrev Z37 (b : Nat) (cy : Nat → ClassId) : va_E := .inl (cy 1, 6, .inl (fun _ => 0))
abbrev Z38 (b : Nat) (cy : Nat → ClassId) : va_E := .inl (cy 1, 6, .inl (fun _ => 0))
abbrev Z39 (b : Nat) (cy : Nat → ClassId) : va_E := .inl (cy 1, 6, .inl (fun _ => 0))
abbrev Z40 (b : Nat) (cy : Nat → ClassId) : va_E := .inr (0, [.ref (b + 2), .int (-1), .ref (b + 41), .ref (b + 42), .ref (b + 43), .ref (b + 44), .ref (b + 45), .ref (b + 46)])
abbrev Z41 (b : Nat) (cy : Nat → ClassId) : va_E := .inl (cy 2, 1536, .inr (.inl (fun _ => 0)))
abbrev Z42 (b : Nat) (cy : Nat → ClassId) : va_E := .inl (cy 2, 1536, .inr (.inl (fun _ => 0)))
abbrev Z43 (b : Nat) (cy : Nat → ClassId) : va_E := .inl (cy 2, 384, .inr (.inl (fun _ => 0)))
abbrev Z44 (b : Nat) (cy : Nat → ClassId) : va_E := .inl (cy 2, 12288, .inr (.inl (fun _ => 0)))
abbrev Z45 (b : Nat) (cy : Nat → ClassId) : va_E := .inl (cy 2, 8, .inr (.inl (fun _ => 0)))
abbrev Z46 (b : Nat) (cy : Nat → ClassId) : va_E := .inl (cy 2, 12288, .inr (.inl (fun _ => 0)))
abbrev Z47 (b : Nat) (cy : Nat → ClassId) : va_E := .inr (4, [.ref (b + 2), .ref (b + 48), .int 0, .ref (b + 55), .ref (b + 56), .ref (b + 57), .ref (b + 58), .ref (b + 59)])
abbrev Z48 (b : Nat) (cy : Nat → ClassId) : va_E := .inr (0, [.ref (b + 2), .int (-1), .ref (b + 49), .ref (b + 50), .ref (b + 51), .ref (b + 52), .ref (b + 53), .ref (b + 54)])
abbrev Z49 (b : Nat) (cy : Nat → ClassId) : va_E := .inl (cy 2, 1536, .inr (.inl (fun _ => 0)))
abbrev Z50 (b : Nat) (cy : Nat → ClassId) : va_E := .inl (cy 2, 1536, .inr (.inl (fun _ => 0)))
abbrev Z51 (b : Nat) (cy : Nat → ClassId) : va_E := .inl (cy 2, 384, .inr (.inl (fun _ => 0)))
abbrev Z52 (b : Nat) (cy : Nat → ClassId) : va_E := .inl (cy 2, 12288, .inr (.inl (fun _ => 0)))
abbrev Z53 (b : Nat) (cy : Nat → ClassId) : va_E := .inl (cy 2, 8, .inr (.inl (fun _ => 0)))
abbrev Z54 (b : Nat) (cy : Nat → ClassId) : va_E := .inl (cy 2, 0, .inr (.inl (fun _ => 0)))
abbrev Z55 (b : Nat) (cy : Nat → ClassId) : va_E := .inl (cy 3, 26, .inl (fun _ => 0))
abbrev Z56 (b : Nat) (cy : Nat → ClassId) : va_E := .inl (cy 3, 60, .inl (fun _ => 0))
abbrev Z57 (b : Nat) (cy : Nat → ClassId) : va_E := .inl (cy 2, 48, .inr (.inl (fun _ => 0)))
abbrev Z58 (b : Nat) (cy : Nat → ClassId) : va_E := .inl (cy 2, 9984, .inr (.inl (fun _ => 0)))
abbrev Z59 (b : Nat) (cy : Nat → ClassId) : va_E := .inl (cy 2, 2880, .inr (.inl (fun _ => 0)))
abbrev Z60 (b : Nat) (cy : Nat → ClassId) : va_E := .inr (9, [.ref (b + 2), .ref (b + 40), .ref (b + 61), .ref (b + 64), .int 0, .int 0, .int 1, .int 0, .int 0, .ref (b + 65), .int 0, .ref (b + 66), .int 0, .int (-1), .int (-1)])
abbrev Z61 (b : Nat) (cy : Nat → ClassId) : va_E := .inr (8, [.ref (b + 2), .ref (b + 40), .int 0, .ref (b + 62), .ref (b + 63), .int 0])
abbrev Z62 (b : Nat) (cy : Nat → ClassId) : va_E := .inl (cy 1, 8, .inl (fun _ => 0))
abbrev Z63 (b : Nat) (cy : Nat → ClassId) : va_E := .inl (cy 4, 192, .inr (.inr (.inr (.inr (fun _ => none)))))
abbrev Z64 (b : Nat) (cy : Nat → ClassId) : va_E := .inl (cy 0, 256, .inl (fun _ => 0))
abbrev Z65 (b : Nat) (cy : Nat → ClassId) : va_E := .inl (cy 1, 26, .inl (fun _ => 0))
abbrev Z66 (b : Nat) (cy : Nat → ClassId) : va_E := .inl (cy 1, 1100, .inl (fun _ => 0))
abbrev Z67 (b : Nat) (cy : Nat → ClassId) : va_E := .inr (10, [.ref (b + 2), .ref (b + 68), .ref (b + 69), .int 0, .int 0, .int 0, .int 1, .ref (b + 70), .int 0, .ref (b + 71), .int 0, .ref (b + 72), .int 0])
abbrev Z68 (b : Nat) (cy : Nat → ClassId) : va_E := .inl (cy 0, 40, .inl (fun _ => 0))
abbrev Z69 (b : Nat) (cy : Nat → ClassId) : va_E := .inl (cy 0, 40, .inl (fun _ => 0))
abbrev Z70 (b : Nat) (cy : Nat → ClassId) : va_E := .inl (cy 1, 40, .inl (fun _ => 0))
abbrev Z71 (b : Nat) (cy : Nat → ClassId) : va_E := .inl (cy 1, 41, .inl (fun _ => 0))
abbrev Z72 (b : Nat) (cy : Nat → ClassId) : va_E := .inl (cy 1, 40, .inl (fun _ => 0))
abbrev Z73 (b : Nat) (cy : Nat → ClassId) : va_E := .inr (7, [.ref (b + 60), .ref (b + 74), .ref (b + 75), .ref (b + 76), .ref (b + 77), .ref (b + 78), .int (-1), .int (-1), .ref (b + 79)])
abbrev Z74 (b : Nat) (cy : Nat → ClassId) : va_E := .inl (cy 3, 48, .inl (fun _ => 0))
abbrev Z75 (b : Nat) (cy : Nat → ClassId) : va_E := .inl (cy 1, 48, .inl (fun _ => 0))
abbrev Z76 (b : Nat) (cy : Nat → ClassId) : va_E := .inl (cy 1, 48, .inl (fun _ => 0))
abbrev Z77 (b : Nat) (cy : Nat → ClassId) : va_E := .inl (cy 1, 1248, .inl (fun _ => 0))
abbrev Z78 (b : Nat) (cy : Nat → ClassId) : va_E := .inl (cy 1, 1248, .inl (fun _ => 0))
abbrev Z79 (b : Nat) (cy : Nat → ClassId) : va_E := .inl (cy 1, 26, .inl (fun _ => 0))
abbrev Z80 (b : Nat) (cy : Nat → ClassId) : va_E := .inr (1, [.ref (b + 40), .int 0, .int 0, .int 0, .int 0, .int 0, .int 0])
abbrev Z81 (b : Nat) (cy : Nat → ClassId) : va_E := .inl (cy 0, 40, .inl (fun _ => 0))
abbrev Z82 (b : Nat) (cy : Nat → ClassId) : va_E := .inl (cy 1, 10, .inl (fun _ => 0))
abbrev Z83 (b : Nat) (cy : Nat → ClassId) : va_E := .inr (12, [.ref (b + 84), .ref (b + 85), .ref (b + 86), .int 0, .int 0, .int (-1), .int 0, .int 0, .int 0, .int 0, .int 0, .ref (b + 87), .ref (b + 88), .ref (b + 89), .ref (b + 90), .ref (b + 91), .ref (b + 92), .ref (b + 93), .ref (b + 94), .ref (b + 95), .int 0, .int 0, .int 0, .int 0, .int 0, .int 0, .int 0, .int 0, .ref (b + 96), .ref (b + 97), .ref (b + 98), .int 0, .long 0, .ref (b + 99), .ref (b + 100), .ref (b + 101), .ref (b + 102), .ref (b + 103), .int 0, .ref (b + 104), .int 0, .int 0, .int (-1), .int (-1), .int 0, .int 0, .int 0, .int 0, .int 0, .int 0, .int 0, .int 0])
abbrev Z84 (b : Nat) (cy : Nat → ClassId) : va_E := .inl (cy 1, 228, .inl memI)
abbrev Z85 (b : Nat) (cy : Nat → ClassId) : va_E := .inl (cy 1, 228, .inl (fun _ => 0))
abbrev Z86 (b : Nat) (cy : Nat → ClassId) : va_E := .inl (cy 1, 400, .inl (fun _ => 0))
abbrev Z87 (b : Nat) (cy : Nat → ClassId) : va_E := .inl (cy 1, 48, .inl (fun _ => 0))
abbrev Z88 (b : Nat) (cy : Nat → ClassId) : va_E := .inl (cy 1, 6, .inl (fun _ => 0))
abbrev Z89 (b : Nat) (cy : Nat → ClassId) : va_E := .inl (cy 3, 30, .inl (fun _ => 0))
abbrev Z90 (b : Nat) (cy : Nat → ClassId) : va_E := .inl (cy 2, 1920, .inr (.inl (fun _ => 0)))
abbrev Z91 (b : Nat) (cy : Nat → ClassId) : va_E := .inl (cy 2, 1536, .inr (.inl (fun _ => 0)))
abbrev Z92 (b : Nat) (cy : Nat → ClassId) : va_E := .inl (cy 2, 512, .inr (.inl (fun _ => 0)))
abbrev Z93 (b : Nat) (cy : Nat → ClassId) : va_E := .inl (cy 2, 240, .inr (.inl (fun _ => 0)))
abbrev Z94 (b : Nat) (cy : Nat → ClassId) : va_E := .inl (cy 2, 192, .inr (.inl (fun _ => 0)))
abbrev Z95 (b : Nat) (cy : Nat → ClassId) : va_E := .inl (cy 2, 64, .inr (.inl (fun _ => 0)))
abbrev Z96 (b : Nat) (cy : Nat → ClassId) : va_E := .inl (cy 1, 40, .inl (fun _ => 0))
abbrev Z97 (b : Nat) (cy : Nat → ClassId) : va_E := .inl (cy 1, 512, .inl (fun _ => 0))
abbrev Z98 (b : Nat) (cy : Nat → ClassId) : va_E := .inl (cy 1, 512, .inl (fun _ => 0))
abbrev Z99 (b : Nat) (cy : Nat → ClassId) : va_E := .inl (cy 1, 1024, .inl (fun _ => 0))
abbrev Z100 (b : Nat) (cy : Nat → ClassId) : va_E := .inl (cy 1, 1024, .inl (fun _ => 0))
abbrev Z101 (b : Nat) (cy : Nat → ClassId) : va_E := .inl (cy 1, 1024, .inl (fun _ => 0))
abbrev Z102 (b : Nat) (cy : Nat → ClassId) : va_E := .inl (cy 1, 1024, .inl (fun _ => 0))
abbrev Z103 (b : Nat) (cy : Nat → ClassId) : va_E := .inl (cy 1, 1024, .inl (fun _ => 0))
abbrev Z104 (b : Nat) (cy : Nat → ClassId) : va_E := .inl (cy 1, 40, .inl (fun _ => 0))
set_option maxHeartbeats 4000000 in
set_option maxRecDepth 100000 in
theorem qX12_in (l : Launch) {D : va_G} {cy : Nat → ClassId} {b n : Nat} (hn : 105 ≤ n) {E : Nat → va_E}   (a1 : Int64) (a2 : Int64) (a3 : Int64) : gI l yX12_in cX12_in 6 (some .boolean) 0 0 0 D cy b n E [.long a1, .long a2, .long a3] (fun r u => r = (if a2 ≤ a1 ∧ a1 ≤ a3 then 1 else 0) ∧ u.1 = n ∧ u.2 = E) := by
  refine gI_of (by decide) (Nat.le_of_ble_eq_true rfl) ?_
  intro p e s m args below meth c S hr hlk hin hsz ls hl hG
  have hx := S.1
  have hb := S.2.1
  have hl : lv_has ls 6 [(0, .long a1), (2, .long a2), (4, .long a3)] := hl
  refine lv_lload_n hx hb dX12_in_0 rfl (lv_at hl 0 rfl) ?_
  refine lv_lload_n hx hb dX12_in_1 rfl (lv_at hl 1 rfl) ?_
  refine W.lcmp hx hb dX12_in_2 ?_
  refine lv_if_lt (tgt := 17) hx hb dX12_in_3 (by decide) (fun c_1 => ?_) (fun c_1 => ?_)
  · refine lv_iconst (v := 0) hx hb dX12_in_17 (by decide) ?_
    exact g_zret S hr hlk hG (by omega) dX12_in_18 ⟨Nat.le_of_ble_eq_true rfl, Nat.le_of_ble_eq_true rfl⟩ rfl ⟨by rw [if_neg (fun h => absurd h.1 (Int64.not_le.mpr ((lg_cmp_lt _ _).mp c_1)))], rfl, rfl⟩
  · refine lv_lload_n hx hb dX12_in_6 rfl (lv_at hl 0 rfl) ?_
    refine lv_lload hx hb dX12_in_7 (lv_at hl 2 rfl) ?_
    refine W.lcmp hx hb dX12_in_9 ?_
    refine lv_if_gt (tgt := 17) hx hb dX12_in_10 (by decide) (fun c_2 => ?_) (fun c_2 => ?_)
    · refine lv_iconst (v := 0) hx hb dX12_in_17 (by decide) ?_
      exact g_zret S hr hlk hG (by omega) dX12_in_18 ⟨Nat.le_of_ble_eq_true rfl, Nat.le_of_ble_eq_true rfl⟩ rfl ⟨by rw [if_neg (fun h => absurd h.2 (Int64.not_le.mpr ((lg_cmp_gt _ _).mp c_2)))], rfl, rfl⟩
    · refine lv_iconst (v := 1) hx hb dX12_in_13 (by decide) ?_
      refine lv_goto (tgt := 18) hx hb dX12_in_14 (by decide) ?_
      exact g_zret S hr hlk hG (by omega) dX12_in_18 ⟨Nat.le_of_ble_eq_true rfl, Nat.le_of_ble_eq_true rfl⟩ rfl ⟨by rw [if_pos ⟨Int64.not_lt.mp (mt (lg_cmp_lt _ _).mpr c_1), Int64.not_lt.mp (mt (lg_cmp_gt _ _).mpr c_2)⟩], rfl, rfl⟩
set_option maxHeartbeats 4000000 in
set_option maxRecDepth 100000 in
theorem qX11_known (l : Launch) {D : va_G} {cy : Nat → ClassId} {b n : Nat} (hn : 105 ≤ n) {E : Nat → va_E} (h0 : E 0 = Z0 b cy) (h2 : E 2 = Z2 b cy)  (a1 : Int32) : gI l yX11_known cX11_known 2 (some .boolean) 0 0 0 D cy b n E [.ref (b + 0), .int a1] (fun r u => r = 0 ∧ u.1 = n ∧ u.2 = E) := by
  refine gI_of (by decide) (Nat.le_of_ble_eq_true rfl) ?_
  intro p e s m args below meth c S hr hlk hin hsz ls hl hG
  have hx := S.1
  have hb := S.2.1
  have hl : lv_has ls 2 [(0, .ref (b + 0)), (1, .int a1)] := hl
  refine lv_iload_n hx hb dX11_known_0 rfl (lv_at hl 1 rfl) ?_
  refine lv_if_lt (tgt := 19) hx hb dX11_known_1 (by decide) (fun c_1 => ?_) (fun c_1 => ?_)
  · refine lv_iconst (v := 0) hx hb dX11_known_19 (by decide) ?_
    exact g_zret S hr hlk hG (by omega) dX11_known_20 ⟨Nat.le_of_ble_eq_true rfl, Nat.le_of_ble_eq_true rfl⟩ rfl ⟨rfl, rfl, rfl⟩
  · refine lv_iload_n hx hb dX11_known_4 rfl (lv_at hl 1 rfl) ?_
    refine lv_aload_n hx hb dX11_known_5 rfl (lv_at hl 0 rfl) ?_
    refine g_get S hG 0 2 h0 cpX11 wm_668 dX11_known_6 rfl (by omega) (by decide) ?_
    refine g_get S hG 2 1 h2 cpX2 wm_221 dX11_known_9 rfl (by omega) (by decide) ?_
    refine lv_icmp_ge (tgt := 19) hx hb dX11_known_12 (by decide) (fun c_2 => ?_) (fun c_2 => (show False by have k0 : (0 : Int32).toInt = 0   := (by decide); have h0 := c_2; have h1 := c_1; simp only [Int32.lt_iff_toInt_lt, Int32.le_iff_toInt_le, Int32.not_lt, Int32.not_le, ← Int32.toInt_inj] at h0 h1 <;> omega).elim)
    refine lv_iconst (v := 0) hx hb dX11_known_19 (by decide) ?_
    exact g_zret S hr hlk hG (by omega) dX11_known_20 ⟨Nat.le_of_ble_eq_true rfl, Nat.le_of_ble_eq_true rfl⟩ rfl ⟨rfl, rfl, rfl⟩
theorem wV_11_168 : gWV "GrownKinds" 168 yX11_known cX11_known 2 (some .boolean) := ⟨wm_1109, wm_1111, wm_48, wm_176, wm_1112, by decide +kernel, by decide +kernel⟩
set_option maxHeartbeats 4000000 in
set_option maxRecDepth 100000 in
theorem qX11_sized (l : Launch) {D : va_G} {cy : Nat → ClassId} {b n : Nat} (hn : 105 ≤ n) {E : Nat → va_E} (h0 : E 0 = Z0 b cy) (h2 : E 2 = Z2 b cy)  (a1 : Int32) (a2 : Int32) : gI l yX11_sized cX11_sized 3 (some .boolean) 1 0 0 D cy b n E [.ref (b + 0), .int a1, .int a2] (fun r u => r = 0 ∧ u.1 = n ∧ u.2 = E) := by
  refine gI_of (by decide) (Nat.le_of_ble_eq_true rfl) ?_
  intro p e s m args below meth c S hr hlk hin hsz ls hl hG
  have hx := S.1
  have hb := S.2.1
  have hl : lv_has ls 3 [(0, .ref (b + 0)), (1, .int a1), (2, .int a2)] := hl
  refine lv_aload_n hx hb dX11_sized_0 rfl (lv_at hl 0 rfl) ?_
  refine lv_iload_n hx hb dX11_sized_1 rfl (lv_at hl 1 rfl) ?_
  refine g_vi (As := [.int a1]) (rest := []) S hG (by omega) (qX11_known l hn h0 h2 a1) wV_11_168 h0 cpX11 (by omega) dX11_sized_2 rfl hl.1 (ar := 1) (by decide +kernel) rfl ⟨Nat.le_of_ble_eq_true rfl, Nat.le_of_ble_eq_true rfl, Nat.le_of_ble_eq_true rfl, Nat.le_of_ble_eq_true rfl⟩ (Nat.le_of_ble_eq_true rfl) (fun r_3 u_E_1 H locs hp_2 hG => ?_)
  obtain ⟨n_E_1, E_1⟩ := u_E_1
  dsimp only at hp_2 hG
  obtain ⟨rfl, nhp_2, ehp_2⟩ := hp_2
  have hG := gW_eq2 hG nhp_2 ehp_2
  refine lv_if_eq (tgt := 27) hx hb dX11_sized_5 (by decide) (fun c_4 => ?_) (fun c_4 => absurd c_4 (by decide))
  refine lv_iconst (v := 0) hx hb dX11_sized_27 (by decide) ?_
  exact g_zret S hr hlk hG (by omega) dX11_sized_28 ⟨Nat.le_of_ble_eq_true rfl, Nat.le_of_ble_eq_true rfl⟩ rfl ⟨rfl, rfl, rfl⟩
set_option maxHeartbeats 4000000 in
set_option maxRecDepth 100000 in
theorem qX11_termed (l : Launch) {D : va_G} {cy : Nat → ClassId} {b n : Nat} (hn : 105 ≤ n) {E : Nat → va_E} (h0 : E 0 = Z0 b cy) (h2 : E 2 = Z2 b cy)  (a1 : Int32) (a2 : Int32) : gI l yX11_termed cX11_termed 3 (some .boolean) 1 0 0 D cy b n E [.ref (b + 0), .int a1, .int a2] (fun r u => r = 0 ∧ u.1 = n ∧ u.2 = E) := by
  refine gI_of (by decide) (Nat.le_of_ble_eq_true rfl) ?_
  intro p e s m args below meth c S hr hlk hin hsz ls hl hG
  have hx := S.1
  have hb := S.2.1
  have hl : lv_has ls 3 [(0, .ref (b + 0)), (1, .int a1), (2, .int a2)] := hl
  refine lv_aload_n hx hb dX11_termed_0 rfl (lv_at hl 0 rfl) ?_
  refine lv_iload_n hx hb dX11_termed_1 rfl (lv_at hl 1 rfl) ?_
  refine g_vi (As := [.int a1]) (rest := []) S hG (by omega) (qX11_known l hn h0 h2 a1) wV_11_168 h0 cpX11 (by omega) dX11_termed_2 rfl hl.1 (ar := 1) (by decide +kernel) rfl ⟨Nat.le_of_ble_eq_true rfl, Nat.le_of_ble_eq_true rfl, Nat.le_of_ble_eq_true rfl, Nat.le_of_ble_eq_true rfl⟩ (Nat.le_of_ble_eq_true rfl) (fun r_3 u_E_1 H locs hp_2 hG => ?_)
  obtain ⟨n_E_1, E_1⟩ := u_E_1
  dsimp only at hp_2 hG
  obtain ⟨rfl, nhp_2, ehp_2⟩ := hp_2
  have hG := gW_eq2 hG nhp_2 ehp_2
  refine lv_if_eq (tgt := 29) hx hb dX11_termed_5 (by decide) (fun c_4 => ?_) (fun c_4 => absurd c_4 (by decide))
  refine lv_iconst (v := 0) hx hb dX11_termed_29 (by decide) ?_
  exact g_zret S hr hlk hG (by omega) dX11_termed_30 ⟨Nat.le_of_ble_eq_true rfl, Nat.le_of_ble_eq_true rfl⟩ rfl ⟨rfl, rfl, rfl⟩
theorem wV_11_175 : gWV "GrownKinds" 175 yX11_sized cX11_sized 3 (some .boolean) := ⟨wm_1162, wm_1164, wm_49, wm_176, wm_1165, by decide +kernel, by decide +kernel⟩
set_option maxHeartbeats 4000000 in
set_option maxRecDepth 100000 in
theorem qX11_boxy (l : Launch) {D : va_G} {cy : Nat → ClassId} {b n : Nat} (hn : 105 ≤ n) {E : Nat → va_E} (h0 : E 0 = Z0 b cy) (h2 : E 2 = Z2 b cy)  (a1 : Int32) (a2 : Int32) (a3 : Int32) : gI l yX11_boxy cX11_boxy 4 (some .boolean) 2 0 0 D cy b n E [.ref (b + 0), .int a1, .int a2, .int a3] (fun r u => r = 0 ∧ u.1 = n ∧ u.2 = E) := by
  refine gI_of (by decide) (Nat.le_of_ble_eq_true rfl) ?_
  intro p e s m args below meth c S hr hlk hin hsz ls hl hG
  have hx := S.1
  have hb := S.2.1
  have hl : lv_has ls 4 [(0, .ref (b + 0)), (1, .int a1), (2, .int a2), (3, .int a3)] := hl
  refine lv_aload_n hx hb dX11_boxy_0 rfl (lv_at hl 0 rfl) ?_
  refine lv_iload_n hx hb dX11_boxy_1 rfl (lv_at hl 1 rfl) ?_
  refine lv_iload_n hx hb dX11_boxy_2 rfl (lv_at hl 2 rfl) ?_
  refine g_vi (As := [.int a1, .int a2]) (rest := []) S hG (by omega) (qX11_sized l hn h0 h2 a1 a2) wV_11_175 h0 cpX11 (by omega) dX11_boxy_3 rfl hl.1 (ar := 2) (by decide +kernel) rfl ⟨Nat.le_of_ble_eq_true rfl, Nat.le_of_ble_eq_true rfl, Nat.le_of_ble_eq_true rfl, Nat.le_of_ble_eq_true rfl⟩ (Nat.le_of_ble_eq_true rfl) (fun r_3 u_E_1 H locs hp_2 hG => ?_)
  obtain ⟨n_E_1, E_1⟩ := u_E_1
  dsimp only at hp_2 hG
  obtain ⟨rfl, nhp_2, ehp_2⟩ := hp_2
  have hG := gW_eq2 hG nhp_2 ehp_2
  refine lv_if_eq (tgt := 27) hx hb dX11_boxy_6 (by decide) (fun c_4 => ?_) (fun c_4 => absurd c_4 (by decide))
  refine lv_iconst (v := 0) hx hb dX11_boxy_27 (by decide) ?_
  exact g_zret S hr hlk hG (by omega) dX11_boxy_28 ⟨Nat.le_of_ble_eq_true rfl, Nat.le_of_ble_eq_true rfl⟩ rfl ⟨rfl, rfl, rfl⟩
set_option maxHeartbeats 4000000 in
set_option maxRecDepth 100000 in
theorem qX11_lettered (l : Launch) {D : va_G} {cy : Nat → ClassId} {b n : Nat} (hn : 105 ≤ n) {E : Nat → va_E}   (a1 : Int32) : gI l yX11_lettered cX11_lettered 1 (some .boolean) 0 0 0 D cy b n E [.int a1] (fun _ u => u.1 = n ∧ u.2 = E) := by
  refine gI_of (by decide) (Nat.le_of_ble_eq_true rfl) ?_
  intro p e s m args below meth c S hr hlk hin hsz ls hl hG
  have hx := S.1
  have hb := S.2.1
  have hl : lv_has ls 1 [(0, .int a1)] := hl
  refine lv_iload_n hx hb dX11_lettered_0 rfl (lv_at hl 0 rfl) ?_
  refine lv_if_lt (tgt := 14) hx hb dX11_lettered_1 (by decide) (fun c_1 => ?_) (fun c_1 => ?_)
  · refine lv_iconst (v := 0) hx hb dX11_lettered_14 (by decide) ?_
    exact g_zret S hr hlk hG (by omega) dX11_lettered_15 ⟨Nat.le_of_ble_eq_true rfl, Nat.le_of_ble_eq_true rfl⟩ rfl ⟨rfl, rfl⟩
  · refine lv_iload_n hx hb dX11_lettered_4 rfl (lv_at hl 0 rfl) ?_
    refine lv_bipush (v := 26) hx hb dX11_lettered_5 (by decide) ?_
    refine lv_icmp_ge (tgt := 14) hx hb dX11_lettered_7 (by decide) (fun c_2 => ?_) (fun c_2 => ?_)
    · refine lv_iconst (v := 0) hx hb dX11_lettered_14 (by decide) ?_
      exact g_zret S hr hlk hG (by omega) dX11_lettered_15 ⟨Nat.le_of_ble_eq_true rfl, Nat.le_of_ble_eq_true rfl⟩ rfl ⟨rfl, rfl⟩
    · refine lv_iconst (v := 1) hx hb dX11_lettered_10 (by decide) ?_
      refine lv_goto (tgt := 15) hx hb dX11_lettered_11 (by decide) ?_
      exact g_zret S hr hlk hG (by omega) dX11_lettered_15 ⟨Nat.le_of_ble_eq_true rfl, Nat.le_of_ble_eq_true rfl⟩ rfl ⟨rfl, rfl⟩
set_option maxHeartbeats 4000000 in
set_option maxRecDepth 100000 in
theorem qX11_terms (l : Launch) {D : va_G} {cy : Nat → ClassId} {b n : Nat} (hn : 105 ≤ n) {E : Nat → va_E} (h0 : E 0 = Z0 b cy) (h2 : E 2 = Z2 b cy)  (a1 : Int32) : gI l yX11_terms cX11_terms 2 (some .int) 1 0 0 D cy b n E [.ref (b + 0), .int a1] (fun r u => r = (-2) ∧ u.1 = n ∧ u.2 = E) := by
  refine gI_of (by decide) (Nat.le_of_ble_eq_true rfl) ?_
  intro p e s m args below meth c S hr hlk hin hsz ls hl hG
  have hx := S.1
  have hb := S.2.1
  have hl : lv_has ls 2 [(0, .ref (b + 0)), (1, .int a1)] := hl
  refine lv_aload_n hx hb dX11_terms_0 rfl (lv_at hl 0 rfl) ?_
  refine lv_iload_n hx hb dX11_terms_1 rfl (lv_at hl 1 rfl) ?_
  refine g_vi (As := [.int a1]) (rest := []) S hG (by omega) (qX11_known l hn h0 h2 a1) wV_11_168 h0 cpX11 (by omega) dX11_terms_2 rfl hl.1 (ar := 1) (by decide +kernel) rfl ⟨Nat.le_of_ble_eq_true rfl, Nat.le_of_ble_eq_true rfl, Nat.le_of_ble_eq_true rfl, Nat.le_of_ble_eq_true rfl⟩ (Nat.le_of_ble_eq_true rfl) (fun r_3 u_E_1 H locs hp_2 hG => ?_)
  obtain ⟨n_E_1, E_1⟩ := u_E_1
  dsimp only at hp_2 hG
  obtain ⟨rfl, nhp_2, ehp_2⟩ := hp_2
  have hG := gW_eq2 hG nhp_2 ehp_2
  refine lv_if_eq (tgt := 20) hx hb dX11_terms_5 (by decide) (fun c_4 => ?_) (fun c_4 => absurd c_4 (by decide))
  refine lv_bipush (v := (-2)) hx hb dX11_terms_20 (by decide) ?_
  exact g_iret S hr hlk hG (by omega) dX11_terms_22 ⟨Nat.le_of_ble_eq_true rfl, Nat.le_of_ble_eq_true rfl⟩ ⟨rfl, rfl, rfl⟩
set_option maxHeartbeats 4000000 in
set_option maxRecDepth 100000 in
theorem qX11_off (l : Launch) {D : va_G} {cy : Nat → ClassId} {b n : Nat} (hn : 105 ≤ n) {E : Nat → va_E} (h0 : E 0 = Z0 b cy) (h2 : E 2 = Z2 b cy)  (a1 : Int32) : gI l yX11_off cX11_off 2 (some .int) 1 0 0 D cy b n E [.ref (b + 0), .int a1] (fun r u => r = (-2) ∧ u.1 = n ∧ u.2 = E) := by
  refine gI_of (by decide) (Nat.le_of_ble_eq_true rfl) ?_
  intro p e s m args below meth c S hr hlk hin hsz ls hl hG
  have hx := S.1
  have hb := S.2.1
  have hl : lv_has ls 2 [(0, .ref (b + 0)), (1, .int a1)] := hl
  refine lv_aload_n hx hb dX11_off_0 rfl (lv_at hl 0 rfl) ?_
  refine lv_iload_n hx hb dX11_off_1 rfl (lv_at hl 1 rfl) ?_
  refine g_vi (As := [.int a1]) (rest := []) S hG (by omega) (qX11_known l hn h0 h2 a1) wV_11_168 h0 cpX11 (by omega) dX11_off_2 rfl hl.1 (ar := 1) (by decide +kernel) rfl ⟨Nat.le_of_ble_eq_true rfl, Nat.le_of_ble_eq_true rfl, Nat.le_of_ble_eq_true rfl, Nat.le_of_ble_eq_true rfl⟩ (Nat.le_of_ble_eq_true rfl) (fun r_3 u_E_1 H locs hp_2 hG => ?_)
  obtain ⟨n_E_1, E_1⟩ := u_E_1
  dsimp only at hp_2 hG
  obtain ⟨rfl, nhp_2, ehp_2⟩ := hp_2
  have hG := gW_eq2 hG nhp_2 ehp_2
  refine lv_if_eq (tgt := 20) hx hb dX11_off_5 (by decide) (fun c_4 => ?_) (fun c_4 => absurd c_4 (by decide))
  refine lv_bipush (v := (-2)) hx hb dX11_off_20 (by decide) ?_
  exact g_iret S hr hlk hG (by omega) dX11_off_22 ⟨Nat.le_of_ble_eq_true rfl, Nat.le_of_ble_eq_true rfl⟩ ⟨rfl, rfl, rfl⟩
set_option maxHeartbeats 4000000 in
set_option maxRecDepth 100000 in
theorem qX11_letters (l : Launch) {D : va_G} {cy : Nat → ClassId} {b n : Nat} (hn : 105 ≤ n) {E : Nat → va_E} (h0 : E 0 = Z0 b cy) (h2 : E 2 = Z2 b cy)  (a1 : Int32) : gI l yX11_letters cX11_letters 2 (some .int) 1 0 0 D cy b n E [.ref (b + 0), .int a1] (fun r u => r = (-2) ∧ u.1 = n ∧ u.2 = E) := by
  refine gI_of (by decide) (Nat.le_of_ble_eq_true rfl) ?_
  intro p e s m args below meth c S hr hlk hin hsz ls hl hG
  have hx := S.1
  have hb := S.2.1
  have hl : lv_has ls 2 [(0, .ref (b + 0)), (1, .int a1)] := hl
  refine lv_aload_n hx hb dX11_letters_0 rfl (lv_at hl 0 rfl) ?_
  refine lv_iload_n hx hb dX11_letters_1 rfl (lv_at hl 1 rfl) ?_
  refine g_vi (As := [.int a1]) (rest := []) S hG (by omega) (qX11_known l hn h0 h2 a1) wV_11_168 h0 cpX11 (by omega) dX11_letters_2 rfl hl.1 (ar := 1) (by decide +kernel) rfl ⟨Nat.le_of_ble_eq_true rfl, Nat.le_of_ble_eq_true rfl, Nat.le_of_ble_eq_true rfl, Nat.le_of_ble_eq_true rfl⟩ (Nat.le_of_ble_eq_true rfl) (fun r_3 u_E_1 H locs hp_2 hG => ?_)
  obtain ⟨n_E_1, E_1⟩ := u_E_1
  dsimp only at hp_2 hG
  obtain ⟨rfl, nhp_2, ehp_2⟩ := hp_2
  have hG := gW_eq2 hG nhp_2 ehp_2
  refine lv_if_eq (tgt := 20) hx hb dX11_letters_5 (by decide) (fun c_4 => ?_) (fun c_4 => absurd c_4 (by decide))
  refine lv_bipush (v := (-2)) hx hb dX11_letters_20 (by decide) ?_
  exact g_iret S hr hlk hG (by omega) dX11_letters_22 ⟨Nat.le_of_ble_eq_true rfl, Nat.le_of_ble_eq_true rfl⟩ ⟨rfl, rfl, rfl⟩
set_option maxHeartbeats 4000000 in
set_option maxRecDepth 100000 in
theorem qX11_uses (l : Launch) {D : va_G} {cy : Nat → ClassId} {b n : Nat} (hn : 105 ≤ n) {E : Nat → va_E} (h0 : E 0 = Z0 b cy) (h2 : E 2 = Z2 b cy)  (a1 : Int32) : gI l yX11_uses cX11_uses 2 (some .int) 1 0 0 D cy b n E [.ref (b + 0), .int a1] (fun r u => r = (-2) ∧ u.1 = n ∧ u.2 = E) := by
  refine gI_of (by decide) (Nat.le_of_ble_eq_true rfl) ?_
  intro p e s m args below meth c S hr hlk hin hsz ls hl hG
  have hx := S.1
  have hb := S.2.1
  have hl : lv_has ls 2 [(0, .ref (b + 0)), (1, .int a1)] := hl
  refine lv_aload_n hx hb dX11_uses_0 rfl (lv_at hl 0 rfl) ?_
  refine lv_iload_n hx hb dX11_uses_1 rfl (lv_at hl 1 rfl) ?_
  refine g_vi (As := [.int a1]) (rest := []) S hG (by omega) (qX11_known l hn h0 h2 a1) wV_11_168 h0 cpX11 (by omega) dX11_uses_2 rfl hl.1 (ar := 1) (by decide +kernel) rfl ⟨Nat.le_of_ble_eq_true rfl, Nat.le_of_ble_eq_true rfl, Nat.le_of_ble_eq_true rfl, Nat.le_of_ble_eq_true rfl⟩ (Nat.le_of_ble_eq_true rfl) (fun r_3 u_E_1 H locs hp_2 hG => ?_)
  obtain ⟨n_E_1, E_1⟩ := u_E_1
  dsimp only at hp_2 hG
  obtain ⟨rfl, nhp_2, ehp_2⟩ := hp_2
  have hG := gW_eq2 hG nhp_2 ehp_2
  refine lv_if_eq (tgt := 20) hx hb dX11_uses_5 (by decide) (fun c_4 => ?_) (fun c_4 => absurd c_4 (by decide))
  refine lv_bipush (v := (-2)) hx hb dX11_uses_20 (by decide) ?_
  exact g_iret S hr hlk hG (by omega) dX11_uses_22 ⟨Nat.le_of_ble_eq_true rfl, Nat.le_of_ble_eq_true rfl⟩ ⟨rfl, rfl, rfl⟩
set_option maxHeartbeats 4000000 in
set_option maxRecDepth 100000 in
theorem qX11_reaches (l : Launch) {D : va_G} {cy : Nat → ClassId} {b n : Nat} (hn : 105 ≤ n) {E : Nat → va_E} (h0 : E 0 = Z0 b cy) (h2 : E 2 = Z2 b cy)  (a1 : Int32) : gI l yX11_reaches cX11_reaches 2 (some .int) 1 0 0 D cy b n E [.ref (b + 0), .int a1] (fun r u => r = (-2) ∧ u.1 = n ∧ u.2 = E) := by
  refine gI_of (by decide) (Nat.le_of_ble_eq_true rfl) ?_
  intro p e s m args below meth c S hr hlk hin hsz ls hl hG
  have hx := S.1
  have hb := S.2.1
  have hl : lv_has ls 2 [(0, .ref (b + 0)), (1, .int a1)] := hl
  refine lv_aload_n hx hb dX11_reaches_0 rfl (lv_at hl 0 rfl) ?_
  refine lv_iload_n hx hb dX11_reaches_1 rfl (lv_at hl 1 rfl) ?_
  refine g_vi (As := [.int a1]) (rest := []) S hG (by omega) (qX11_known l hn h0 h2 a1) wV_11_168 h0 cpX11 (by omega) dX11_reaches_2 rfl hl.1 (ar := 1) (by decide +kernel) rfl ⟨Nat.le_of_ble_eq_true rfl, Nat.le_of_ble_eq_true rfl, Nat.le_of_ble_eq_true rfl, Nat.le_of_ble_eq_true rfl⟩ (Nat.le_of_ble_eq_true rfl) (fun r_3 u_E_1 H locs hp_2 hG => ?_)
  obtain ⟨n_E_1, E_1⟩ := u_E_1
  dsimp only at hp_2 hG
  obtain ⟨rfl, nhp_2, ehp_2⟩ := hp_2
  have hG := gW_eq2 hG nhp_2 ehp_2
  refine lv_if_eq (tgt := 22) hx hb dX11_reaches_5 (by decide) (fun c_4 => ?_) (fun c_4 => absurd c_4 (by decide))
  refine lv_bipush (v := (-2)) hx hb dX11_reaches_22 (by decide) ?_
  exact g_iret S hr hlk hG (by omega) dX11_reaches_24 ⟨Nat.le_of_ble_eq_true rfl, Nat.le_of_ble_eq_true rfl⟩ ⟨rfl, rfl, rfl⟩
set_option maxHeartbeats 4000000 in
set_option maxRecDepth 100000 in
theorem qX11_empty (l : Launch) {D : va_G} {cy : Nat → ClassId} {b n : Nat} (hn : 105 ≤ n) {E : Nat → va_E} (h0 : E 0 = Z0 b cy) (h2 : E 2 = Z2 b cy)  (a1 : Int32) : gI l yX11_empty cX11_empty 2 (some .int) 1 0 0 D cy b n E [.ref (b + 0), .int a1] (fun r u => r = (-2) ∧ u.1 = n ∧ u.2 = E) := by
  refine gI_of (by decide) (Nat.le_of_ble_eq_true rfl) ?_
  intro p e s m args below meth c S hr hlk hin hsz ls hl hG
  have hx := S.1
  have hb := S.2.1
  have hl : lv_has ls 2 [(0, .ref (b + 0)), (1, .int a1)] := hl
  refine lv_aload_n hx hb dX11_empty_0 rfl (lv_at hl 0 rfl) ?_
  refine lv_iload_n hx hb dX11_empty_1 rfl (lv_at hl 1 rfl) ?_
  refine g_vi (As := [.int a1]) (rest := []) S hG (by omega) (qX11_known l hn h0 h2 a1) wV_11_168 h0 cpX11 (by omega) dX11_empty_2 rfl hl.1 (ar := 1) (by decide +kernel) rfl ⟨Nat.le_of_ble_eq_true rfl, Nat.le_of_ble_eq_true rfl, Nat.le_of_ble_eq_true rfl, Nat.le_of_ble_eq_true rfl⟩ (Nat.le_of_ble_eq_true rfl) (fun r_3 u_E_1 H locs hp_2 hG => ?_)
  obtain ⟨n_E_1, E_1⟩ := u_E_1
  dsimp only at hp_2 hG
  obtain ⟨rfl, nhp_2, ehp_2⟩ := hp_2
  have hG := gW_eq2 hG nhp_2 ehp_2
  refine lv_if_eq (tgt := 22) hx hb dX11_empty_5 (by decide) (fun c_4 => ?_) (fun c_4 => absurd c_4 (by decide))
  refine lv_bipush (v := (-2)) hx hb dX11_empty_22 (by decide) ?_
  exact g_iret S hr hlk hG (by omega) dX11_empty_24 ⟨Nat.le_of_ble_eq_true rfl, Nat.le_of_ble_eq_true rfl⟩ ⟨rfl, rfl, rfl⟩
set_option maxHeartbeats 4000000 in
set_option maxRecDepth 100000 in
theorem qX11_leans (l : Launch) {D : va_G} {cy : Nat → ClassId} {b n : Nat} (hn : 105 ≤ n) {E : Nat → va_E} (h0 : E 0 = Z0 b cy) (h2 : E 2 = Z2 b cy)  (a1 : Int32) : gI l yX11_leans cX11_leans 2 (some .int) 1 0 0 D cy b n E [.ref (b + 0), .int a1] (fun r u => r = (-2) ∧ u.1 = n ∧ u.2 = E) := by
  refine gI_of (by decide) (Nat.le_of_ble_eq_true rfl) ?_
  intro p e s m args below meth c S hr hlk hin hsz ls hl hG
  have hx := S.1
  have hb := S.2.1
  have hl : lv_has ls 2 [(0, .ref (b + 0)), (1, .int a1)] := hl
  refine lv_aload_n hx hb dX11_leans_0 rfl (lv_at hl 0 rfl) ?_
  refine lv_iload_n hx hb dX11_leans_1 rfl (lv_at hl 1 rfl) ?_
  refine g_vi (As := [.int a1]) (rest := []) S hG (by omega) (qX11_known l hn h0 h2 a1) wV_11_168 h0 cpX11 (by omega) dX11_leans_2 rfl hl.1 (ar := 1) (by decide +kernel) rfl ⟨Nat.le_of_ble_eq_true rfl, Nat.le_of_ble_eq_true rfl, Nat.le_of_ble_eq_true rfl, Nat.le_of_ble_eq_true rfl⟩ (Nat.le_of_ble_eq_true rfl) (fun r_3 u_E_1 H locs hp_2 hG => ?_)
  obtain ⟨n_E_1, E_1⟩ := u_E_1
  dsimp only at hp_2 hG
  obtain ⟨rfl, nhp_2, ehp_2⟩ := hp_2
  have hG := gW_eq2 hG nhp_2 ehp_2
  refine lv_if_eq (tgt := 20) hx hb dX11_leans_5 (by decide) (fun c_4 => ?_) (fun c_4 => absurd c_4 (by decide))
  refine lv_bipush (v := (-2)) hx hb dX11_leans_20 (by decide) ?_
  exact g_iret S hr hlk hG (by omega) dX11_leans_22 ⟨Nat.le_of_ble_eq_true rfl, Nat.le_of_ble_eq_true rfl⟩ ⟨rfl, rfl, rfl⟩
set_option maxHeartbeats 4000000 in
set_option maxRecDepth 100000 in
theorem qX11_blank (l : Launch) {D : va_G} {cy : Nat → ClassId} {b n : Nat} (hn : 105 ≤ n) {E : Nat → va_E} (h0 : E 0 = Z0 b cy) (h2 : E 2 = Z2 b cy)   : gI l yX11_blank cX11_blank 3 (some .int) 0 0 0 D cy b n E [.ref (b + 0)] (fun r u => r = (-2) ∧ u.1 = n ∧ u.2 = E) := by
  refine gI_of (by decide) (Nat.le_of_ble_eq_true rfl) ?_
  intro p e s m args below meth c S hr hlk hin hsz ls hl hG
  have hx := S.1
  have hb := S.2.1
  have hl : lv_has ls 3 [(0, .ref (b + 0))] := hl
  refine lv_aload_n hx hb dX11_blank_0 rfl (lv_at hl 0 rfl) ?_
  refine g_get S hG 0 2 h0 cpX11 wm_668 dX11_blank_1 rfl (by omega) (by decide) ?_
  refine g_get S hG 2 2 h2 cpX2 wm_224 dX11_blank_4 rfl (by omega) (by decide) ?_
  refine lv_if_ne (tgt := 13) hx hb dX11_blank_7 (by decide) (fun c_1 => absurd c_1 (by decide)) (fun c_1 => ?_)
  refine lv_bipush (v := (-2)) hx hb dX11_blank_10 (by decide) ?_
  exact g_iret S hr hlk hG (by omega) dX11_blank_12 ⟨Nat.le_of_ble_eq_true rfl, Nat.le_of_ble_eq_true rfl⟩ ⟨rfl, rfl, rfl⟩
set_option maxHeartbeats 4000000 in
set_option maxRecDepth 100000 in
theorem qX11_things (l : Launch) {D : va_G} {cy : Nat → ClassId} {b n : Nat} (hn : 105 ≤ n) {E : Nat → va_E} (h0 : E 0 = Z0 b cy) (h2 : E 2 = Z2 b cy)  (a1 : Int32) (a2 : Int32) : gL l yX11_things cX11_things 3 2 0 0 D cy b n E [.ref (b + 0), .int a1, .int a2] (fun r u => r = (-2) ∧ u.1 = n ∧ u.2 = E) := by
  refine gL_of (by decide) (Nat.le_of_ble_eq_true rfl) ?_
  intro p e s m args below meth c S hr hlk hin hsz ls hl hG
  have hx := S.1
  have hb := S.2.1
  have hl : lv_has ls 3 [(0, .ref (b + 0)), (1, .int a1), (2, .int a2)] := hl
  refine lv_aload_n hx hb dX11_things_0 rfl (lv_at hl 0 rfl) ?_
  refine lv_iload_n hx hb dX11_things_1 rfl (lv_at hl 1 rfl) ?_
  refine lv_iload_n hx hb dX11_things_2 rfl (lv_at hl 2 rfl) ?_
  refine g_vi (As := [.int a1, .int a2]) (rest := []) S hG (by omega) (qX11_sized l hn h0 h2 a1 a2) wV_11_175 h0 cpX11 (by omega) dX11_things_3 rfl hl.1 (ar := 2) (by decide +kernel) rfl ⟨Nat.le_of_ble_eq_true rfl, Nat.le_of_ble_eq_true rfl, Nat.le_of_ble_eq_true rfl, Nat.le_of_ble_eq_true rfl⟩ (Nat.le_of_ble_eq_true rfl) (fun r_3 u_E_1 H locs hp_2 hG => ?_)
  obtain ⟨n_E_1, E_1⟩ := u_E_1
  dsimp only at hp_2 hG
  obtain ⟨rfl, nhp_2, ehp_2⟩ := hp_2
  have hG := gW_eq2 hG nhp_2 ehp_2
  refine lv_if_eq (tgt := 21) hx hb dX11_things_6 (by decide) (fun c_4 => ?_) (fun c_4 => absurd c_4 (by decide))
  refine lv_ldc2 (v := -2) hx hb S.2.2.2.1 (S.2.2.2.2 _ wm_1166) dX11_things_21 ?_
  exact g_lret S hr hlk hG (by omega) dX11_things_24 ⟨Nat.le_of_ble_eq_true rfl, Nat.le_of_ble_eq_true rfl⟩ ⟨rfl, rfl, rfl⟩
set_option maxHeartbeats 4000000 in
set_option maxRecDepth 100000 in
theorem qX11_labelled (l : Launch) {D : va_G} {cy : Nat → ClassId} {b n : Nat} (hn : 105 ≤ n) {E : Nat → va_E} (h0 : E 0 = Z0 b cy) (h2 : E 2 = Z2 b cy)  (a1 : Int32) (a2 : Int32) : gL l yX11_labelled cX11_labelled 3 2 0 0 D cy b n E [.ref (b + 0), .int a1, .int a2] (fun r u => r = (-2) ∧ u.1 = n ∧ u.2 = E) := by
  refine gL_of (by decide) (Nat.le_of_ble_eq_true rfl) ?_
  intro p e s m args below meth c S hr hlk hin hsz ls hl hG
  have hx := S.1
  have hb := S.2.1
  have hl : lv_has ls 3 [(0, .ref (b + 0)), (1, .int a1), (2, .int a2)] := hl
  refine lv_aload_n hx hb dX11_labelled_0 rfl (lv_at hl 0 rfl) ?_
  refine lv_iload_n hx hb dX11_labelled_1 rfl (lv_at hl 1 rfl) ?_
  refine lv_iload_n hx hb dX11_labelled_2 rfl (lv_at hl 2 rfl) ?_
  refine g_vi (As := [.int a1, .int a2]) (rest := []) S hG (by omega) (qX11_sized l hn h0 h2 a1 a2) wV_11_175 h0 cpX11 (by omega) dX11_labelled_3 rfl hl.1 (ar := 2) (by decide +kernel) rfl ⟨Nat.le_of_ble_eq_true rfl, Nat.le_of_ble_eq_true rfl, Nat.le_of_ble_eq_true rfl, Nat.le_of_ble_eq_true rfl⟩ (Nat.le_of_ble_eq_true rfl) (fun r_3 u_E_1 H locs hp_2 hG => ?_)
  obtain ⟨n_E_1, E_1⟩ := u_E_1
  dsimp only at hp_2 hG
  obtain ⟨rfl, nhp_2, ehp_2⟩ := hp_2
  have hG := gW_eq2 hG nhp_2 ehp_2
  refine lv_if_eq (tgt := 21) hx hb dX11_labelled_6 (by decide) (fun c_4 => ?_) (fun c_4 => absurd c_4 (by decide))
  refine lv_ldc2 (v := -2) hx hb S.2.2.2.1 (S.2.2.2.2 _ wm_1166) dX11_labelled_21 ?_
  exact g_lret S hr hlk hG (by omega) dX11_labelled_24 ⟨Nat.le_of_ble_eq_true rfl, Nat.le_of_ble_eq_true rfl⟩ ⟨rfl, rfl, rfl⟩
set_option maxHeartbeats 4000000 in
set_option maxRecDepth 100000 in
theorem qX11_marked (l : Launch) {D : va_G} {cy : Nat → ClassId} {b n : Nat} (hn : 105 ≤ n) {E : Nat → va_E} (h0 : E 0 = Z0 b cy) (h2 : E 2 = Z2 b cy)  (a1 : Int32) (a2 : Int32) (a3 : Int32) (a4 : Int32) : gL l yX11_marked cX11_marked 5 2 0 0 D cy b n E [.ref (b + 0), .int a1, .int a2, .int a3, .int a4] (fun r u => r = (-2) ∧ u.1 = n ∧ u.2 = E) := by
  refine gL_of (by decide) (Nat.le_of_ble_eq_true rfl) ?_
  intro p e s m args below meth c S hr hlk hin hsz ls hl hG
  have hx := S.1
  have hb := S.2.1
  have hl : lv_has ls 5 [(0, .ref (b + 0)), (1, .int a1), (2, .int a2), (3, .int a3), (4, .int a4)] := hl
  refine lv_aload_n hx hb dX11_marked_0 rfl (lv_at hl 0 rfl) ?_
  refine lv_iload_n hx hb dX11_marked_1 rfl (lv_at hl 1 rfl) ?_
  refine lv_iload_n hx hb dX11_marked_2 rfl (lv_at hl 2 rfl) ?_
  refine g_vi (As := [.int a1, .int a2]) (rest := []) S hG (by omega) (qX11_sized l hn h0 h2 a1 a2) wV_11_175 h0 cpX11 (by omega) dX11_marked_3 rfl hl.1 (ar := 2) (by decide +kernel) rfl ⟨Nat.le_of_ble_eq_true rfl, Nat.le_of_ble_eq_true rfl, Nat.le_of_ble_eq_true rfl, Nat.le_of_ble_eq_true rfl⟩ (Nat.le_of_ble_eq_true rfl) (fun r_3 u_E_1 H locs hp_2 hG => ?_)
  obtain ⟨n_E_1, E_1⟩ := u_E_1
  dsimp only at hp_2 hG
  obtain ⟨rfl, nhp_2, ehp_2⟩ := hp_2
  have hG := gW_eq2 hG nhp_2 ehp_2
  refine lv_if_eq (tgt := 28) hx hb dX11_marked_6 (by decide) (fun c_4 => ?_) (fun c_4 => absurd c_4 (by decide))
  refine lv_ldc2 (v := -2) hx hb S.2.2.2.1 (S.2.2.2.2 _ wm_1166) dX11_marked_28 ?_
  exact g_lret S hr hlk hG (by omega) dX11_marked_31 ⟨Nat.le_of_ble_eq_true rfl, Nat.le_of_ble_eq_true rfl⟩ ⟨rfl, rfl, rfl⟩
set_option maxHeartbeats 4000000 in
set_option maxRecDepth 100000 in
theorem qX11_by (l : Launch) {D : va_G} {cy : Nat → ClassId} {b n : Nat} (hn : 105 ≤ n) {E : Nat → va_E} (h0 : E 0 = Z0 b cy) (h2 : E 2 = Z2 b cy)  (a1 : Int32) (a2 : Int32) (a3 : Int32) : gL l yX11_by cX11_by 4 2 0 0 D cy b n E [.ref (b + 0), .int a1, .int a2, .int a3] (fun r u => r = (-2) ∧ u.1 = n ∧ u.2 = E) := by
  refine gL_of (by decide) (Nat.le_of_ble_eq_true rfl) ?_
  intro p e s m args below meth c S hr hlk hin hsz ls hl hG
  have hx := S.1
  have hb := S.2.1
  have hl : lv_has ls 4 [(0, .ref (b + 0)), (1, .int a1), (2, .int a2), (3, .int a3)] := hl
  refine lv_aload_n hx hb dX11_by_0 rfl (lv_at hl 0 rfl) ?_
  refine lv_iload_n hx hb dX11_by_1 rfl (lv_at hl 1 rfl) ?_
  refine lv_iload_n hx hb dX11_by_2 rfl (lv_at hl 2 rfl) ?_
  refine g_vi (As := [.int a1, .int a2]) (rest := []) S hG (by omega) (qX11_sized l hn h0 h2 a1 a2) wV_11_175 h0 cpX11 (by omega) dX11_by_3 rfl hl.1 (ar := 2) (by decide +kernel) rfl ⟨Nat.le_of_ble_eq_true rfl, Nat.le_of_ble_eq_true rfl, Nat.le_of_ble_eq_true rfl, Nat.le_of_ble_eq_true rfl⟩ (Nat.le_of_ble_eq_true rfl) (fun r_3 u_E_1 H locs hp_2 hG => ?_)
  obtain ⟨n_E_1, E_1⟩ := u_E_1
  dsimp only at hp_2 hG
  obtain ⟨rfl, nhp_2, ehp_2⟩ := hp_2
  have hG := gW_eq2 hG nhp_2 ehp_2
  refine lv_if_eq (tgt := 18) hx hb dX11_by_6 (by decide) (fun c_4 => ?_) (fun c_4 => absurd c_4 (by decide))
  refine lv_ldc2 (v := -2) hx hb S.2.2.2.1 (S.2.2.2.2 _ wm_1166) dX11_by_18 ?_
  exact g_lret S hr hlk hG (by omega) dX11_by_21 ⟨Nat.le_of_ble_eq_true rfl, Nat.le_of_ble_eq_true rfl⟩ ⟨rfl, rfl, rfl⟩
theorem wV_11_228 : gWV "GrownKinds" 228 yX11_termed cX11_termed 3 (some .boolean) := ⟨wm_1222, wm_1224, wm_53, wm_176, wm_1225, by decide +kernel, by decide +kernel⟩
set_option maxHeartbeats 4000000 in
set_option maxRecDepth 100000 in
theorem qX11_without (l : Launch) {D : va_G} {cy : Nat → ClassId} {b n : Nat} (hn : 105 ≤ n) {E : Nat → va_E} (h0 : E 0 = Z0 b cy) (h2 : E 2 = Z2 b cy)  (a1 : Int32) (a2 : Int32) (a3 : Int32) (a4 : Int32) : gL l yX11_without cX11_without 5 2 0 0 D cy b n E [.ref (b + 0), .int a1, .int a2, .int a3, .int a4] (fun r u => r = (-2) ∧ u.1 = n ∧ u.2 = E) := by
  refine gL_of (by decide) (Nat.le_of_ble_eq_true rfl) ?_
  intro p e s m args below meth c S hr hlk hin hsz ls hl hG
  have hx := S.1
  have hb := S.2.1
  have hl : lv_has ls 5 [(0, .ref (b + 0)), (1, .int a1), (2, .int a2), (3, .int a3), (4, .int a4)] := hl
  refine lv_aload_n hx hb dX11_without_0 rfl (lv_at hl 0 rfl) ?_
  refine lv_iload_n hx hb dX11_without_1 rfl (lv_at hl 1 rfl) ?_
  refine lv_iload_n hx hb dX11_without_2 rfl (lv_at hl 2 rfl) ?_
  refine g_vi (As := [.int a1, .int a2]) (rest := []) S hG (by omega) (qX11_termed l hn h0 h2 a1 a2) wV_11_228 h0 cpX11 (by omega) dX11_without_3 rfl hl.1 (ar := 2) (by decide +kernel) rfl ⟨Nat.le_of_ble_eq_true rfl, Nat.le_of_ble_eq_true rfl, Nat.le_of_ble_eq_true rfl, Nat.le_of_ble_eq_true rfl⟩ (Nat.le_of_ble_eq_true rfl) (fun r_3 u_E_1 H locs hp_2 hG => ?_)
  obtain ⟨n_E_1, E_1⟩ := u_E_1
  dsimp only at hp_2 hG
  obtain ⟨rfl, nhp_2, ehp_2⟩ := hp_2
  have hG := gW_eq2 hG nhp_2 ehp_2
  refine lv_if_eq (tgt := 19) hx hb dX11_without_6 (by decide) (fun c_4 => ?_) (fun c_4 => absurd c_4 (by decide))
  refine lv_ldc2 (v := -2) hx hb S.2.2.2.1 (S.2.2.2.2 _ wm_1166) dX11_without_19 ?_
  exact g_lret S hr hlk hG (by omega) dX11_without_22 ⟨Nat.le_of_ble_eq_true rfl, Nat.le_of_ble_eq_true rfl⟩ ⟨rfl, rfl, rfl⟩
set_option maxHeartbeats 4000000 in
set_option maxRecDepth 100000 in
theorem qX11_hangs (l : Launch) {D : va_G} {cy : Nat → ClassId} {b n : Nat} (hn : 105 ≤ n) {E : Nat → va_E} (h0 : E 0 = Z0 b cy) (h2 : E 2 = Z2 b cy)  (a1 : Int32) (a2 : Int32) : gI l yX11_hangs cX11_hangs 11 (some .int) 2 0 0 D cy b n E [.ref (b + 0), .int a1, .int a2] (fun r u => r = (-2) ∧ u.1 = n ∧ u.2 = E) := by
  refine gI_of (by decide) (Nat.le_of_ble_eq_true rfl) ?_
  intro p e s m args below meth c S hr hlk hin hsz ls hl hG
  have hx := S.1
  have hb := S.2.1
  have hl : lv_has ls 11 [(0, .ref (b + 0)), (1, .int a1), (2, .int a2)] := hl
  refine lv_aload_n hx hb dX11_hangs_0 rfl (lv_at hl 0 rfl) ?_
  refine lv_iload_n hx hb dX11_hangs_1 rfl (lv_at hl 1 rfl) ?_
  refine lv_iload_n hx hb dX11_hangs_2 rfl (lv_at hl 2 rfl) ?_
  refine g_vi (As := [.int a1, .int a2]) (rest := []) S hG (by omega) (qX11_sized l hn h0 h2 a1 a2) wV_11_175 h0 cpX11 (by omega) dX11_hangs_3 rfl hl.1 (ar := 2) (by decide +kernel) rfl ⟨Nat.le_of_ble_eq_true rfl, Nat.le_of_ble_eq_true rfl, Nat.le_of_ble_eq_true rfl, Nat.le_of_ble_eq_true rfl⟩ (Nat.le_of_ble_eq_true rfl) (fun r_3 u_E_1 H locs hp_2 hG => ?_)
  obtain ⟨n_E_1, E_1⟩ := u_E_1
  dsimp only at hp_2 hG
  obtain ⟨rfl, nhp_2, ehp_2⟩ := hp_2
  have hG := gW_eq2 hG nhp_2 ehp_2
  refine lv_if_ne (tgt := 12) hx hb dX11_hangs_6 (by decide) (fun c_4 => absurd c_4 (by decide)) (fun c_4 => ?_)
  refine lv_bipush (v := (-2)) hx hb dX11_hangs_9 (by decide) ?_
  exact g_iret S hr hlk hG (by omega) dX11_hangs_11 ⟨Nat.le_of_ble_eq_true rfl, Nat.le_of_ble_eq_true rfl⟩ ⟨rfl, rfl, rfl⟩
set_option maxHeartbeats 4000000 in
set_option maxRecDepth 100000 in
theorem qX11_idle (l : Launch) {D : va_G} {cy : Nat → ClassId} {b n : Nat} (hn : 105 ≤ n) {E : Nat → va_E} (h0 : E 0 = Z0 b cy) (h2 : E 2 = Z2 b cy)   : gI l yX11_idle cX11_idle 4 (some .int) 0 0 0 D cy b n E [.ref (b + 0)] (fun r u => r = (-2) ∧ u.1 = n ∧ u.2 = E) := by
  refine gI_of (by decide) (Nat.le_of_ble_eq_true rfl) ?_
  intro p e s m args below meth c S hr hlk hin hsz ls hl hG
  have hx := S.1
  have hb := S.2.1
  have hl : lv_has ls 4 [(0, .ref (b + 0))] := hl
  refine lv_aload_n hx hb dX11_idle_0 rfl (lv_at hl 0 rfl) ?_
  refine g_get S hG 0 2 h0 cpX11 wm_668 dX11_idle_1 rfl (by omega) (by decide) ?_
  refine g_get S hG 2 2 h2 cpX2 wm_224 dX11_idle_4 rfl (by omega) (by decide) ?_
  refine lv_if_ne (tgt := 13) hx hb dX11_idle_7 (by decide) (fun c_1 => absurd c_1 (by decide)) (fun c_1 => ?_)
  refine lv_bipush (v := (-2)) hx hb dX11_idle_10 (by decide) ?_
  exact g_iret S hr hlk hG (by omega) dX11_idle_12 ⟨Nat.le_of_ble_eq_true rfl, Nat.le_of_ble_eq_true rfl⟩ ⟨rfl, rfl, rfl⟩
set_option maxHeartbeats 4000000 in
set_option maxRecDepth 100000 in
theorem qX11_first (l : Launch) {D : va_G} {cy : Nat → ClassId} {b n : Nat} (hn : 105 ≤ n) {E : Nat → va_E} (h0 : E 0 = Z0 b cy) (h2 : E 2 = Z2 b cy)  (a1 : Int32) (a2 : Int64) : gI l yX11_first cX11_first 5 (some .int) 1 0 0 D cy b n E [.ref (b + 0), .int a1, .long a2] (fun r u => r = (-2) ∧ u.1 = n ∧ u.2 = E) := by
  refine gI_of (by decide) (Nat.le_of_ble_eq_true rfl) ?_
  intro p e s m args below meth c S hr hlk hin hsz ls hl hG
  have hx := S.1
  have hb := S.2.1
  have hl : lv_has ls 5 [(0, .ref (b + 0)), (1, .int a1), (2, .long a2)] := hl
  refine lv_aload_n hx hb dX11_first_0 rfl (lv_at hl 0 rfl) ?_
  refine lv_iload_n hx hb dX11_first_1 rfl (lv_at hl 1 rfl) ?_
  refine g_vi (As := [.int a1]) (rest := []) S hG (by omega) (qX11_known l hn h0 h2 a1) wV_11_168 h0 cpX11 (by omega) dX11_first_2 rfl hl.1 (ar := 1) (by decide +kernel) rfl ⟨Nat.le_of_ble_eq_true rfl, Nat.le_of_ble_eq_true rfl, Nat.le_of_ble_eq_true rfl, Nat.le_of_ble_eq_true rfl⟩ (Nat.le_of_ble_eq_true rfl) (fun r_3 u_E_1 H locs hp_2 hG => ?_)
  obtain ⟨n_E_1, E_1⟩ := u_E_1
  dsimp only at hp_2 hG
  obtain ⟨rfl, nhp_2, ehp_2⟩ := hp_2
  have hG := gW_eq2 hG nhp_2 ehp_2
  refine lv_if_eq (tgt := 22) hx hb dX11_first_5 (by decide) (fun c_4 => ?_) (fun c_4 => absurd c_4 (by decide))
  refine lv_bipush (v := (-2)) hx hb dX11_first_22 (by decide) ?_
  exact g_iret S hr hlk hG (by omega) dX11_first_24 ⟨Nat.le_of_ble_eq_true rfl, Nat.le_of_ble_eq_true rfl⟩ ⟨rfl, rfl, rfl⟩
theorem wV_11_202 : gWV "GrownKinds" 202 yX11_first cX11_first 5 (some .int) := ⟨wm_1146, wm_1147, wm_1148, wm_176, wm_1149, by decide +kernel, by decide +kernel⟩
set_option maxHeartbeats 4000000 in
set_option maxRecDepth 100000 in
theorem qX11_least (l : Launch) {D : va_G} {cy : Nat → ClassId} {b n : Nat} (hn : 105 ≤ n) {E : Nat → va_E} (h0 : E 0 = Z0 b cy) (h2 : E 2 = Z2 b cy)  (a1 : Int32) : gI l yX11_least cX11_least 2 (some .int) 2 0 0 D cy b n E [.ref (b + 0), .int a1] (fun r u => r = (-2) ∧ u.1 = n ∧ u.2 = E) := by
  refine gI_of (by decide) (Nat.le_of_ble_eq_true rfl) ?_
  intro p e s m args below meth c S hr hlk hin hsz ls hl hG
  have hx := S.1
  have hb := S.2.1
  have hl : lv_has ls 2 [(0, .ref (b + 0)), (1, .int a1)] := hl
  refine lv_aload_n hx hb dX11_least_0 rfl (lv_at hl 0 rfl) ?_
  refine lv_iload_n hx hb dX11_least_1 rfl (lv_at hl 1 rfl) ?_
  refine lv_lconst (v := 1) hx hb dX11_least_2 (by decide) ?_
  refine g_vi (As := [.int a1, .long 1]) (rest := []) S hG (by omega) (qX11_first l hn h0 h2 a1 1) wV_11_202 h0 cpX11 (by omega) dX11_least_3 rfl hl.1 (ar := 2) (by decide +kernel) rfl ⟨Nat.le_of_ble_eq_true rfl, Nat.le_of_ble_eq_true rfl, Nat.le_of_ble_eq_true rfl, Nat.le_of_ble_eq_true rfl⟩ (Nat.le_of_ble_eq_true rfl) (fun r_3 u_E_1 H locs hp_2 hG => ?_)
  obtain ⟨n_E_1, E_1⟩ := u_E_1
  dsimp only at hp_2 hG
  obtain ⟨rfl, nhp_2, ehp_2⟩ := hp_2
  have hG := gW_eq2 hG nhp_2 ehp_2
  exact g_iret S hr hlk hG (by omega) dX11_least_6 ⟨Nat.le_of_ble_eq_true rfl, Nat.le_of_ble_eq_true rfl⟩ ⟨rfl, rfl, rfl⟩
theorem wV_11_333 : gWV "GrownKinds" 333 yX11_boxy cX11_boxy 4 (some .boolean) := ⟨wm_1175, wm_1177, wm_50, wm_176, wm_1178, by decide +kernel, by decide +kernel⟩
set_option maxHeartbeats 4000000 in
set_option maxRecDepth 100000 in
theorem qX11_boxed (l : Launch) {D : va_G} {cy : Nat → ClassId} {b n : Nat} (hn : 105 ≤ n) {E : Nat → va_E} (h0 : E 0 = Z0 b cy) (h2 : E 2 = Z2 b cy)  (a1 : Int32) (a2 : Int32) (a3 : Int32) : gL l yX11_boxed cX11_boxed 4 3 0 0 D cy b n E [.ref (b + 0), .int a1, .int a2, .int a3] (fun r u => r = (-2) ∧ u.1 = n ∧ u.2 = E) := by
  refine gL_of (by decide) (Nat.le_of_ble_eq_true rfl) ?_
  intro p e s m args below meth c S hr hlk hin hsz ls hl hG
  have hx := S.1
  have hb := S.2.1
  have hl : lv_has ls 4 [(0, .ref (b + 0)), (1, .int a1), (2, .int a2), (3, .int a3)] := hl
  refine lv_aload_n hx hb dX11_boxed_0 rfl (lv_at hl 0 rfl) ?_
  refine lv_iload_n hx hb dX11_boxed_1 rfl (lv_at hl 1 rfl) ?_
  refine lv_iload_n hx hb dX11_boxed_2 rfl (lv_at hl 2 rfl) ?_
  refine lv_iload_n hx hb dX11_boxed_3 rfl (lv_at hl 3 rfl) ?_
  refine g_vi (As := [.int a1, .int a2, .int a3]) (rest := []) S hG (by omega) (qX11_boxy l hn h0 h2 a1 a2 a3) wV_11_333 h0 cpX11 (by omega) dX11_boxed_4 rfl hl.1 (ar := 3) (by decide +kernel) rfl ⟨Nat.le_of_ble_eq_true rfl, Nat.le_of_ble_eq_true rfl, Nat.le_of_ble_eq_true rfl, Nat.le_of_ble_eq_true rfl⟩ (Nat.le_of_ble_eq_true rfl) (fun r_3 u_E_1 H locs hp_2 hG => ?_)
  obtain ⟨n_E_1, E_1⟩ := u_E_1
  dsimp only at hp_2 hG
  obtain ⟨rfl, nhp_2, ehp_2⟩ := hp_2
  have hG := gW_eq2 hG nhp_2 ehp_2
  refine lv_if_eq (tgt := 23) hx hb dX11_boxed_7 (by decide) (fun c_4 => ?_) (fun c_4 => absurd c_4 (by decide))
  refine lv_ldc2 (v := -2) hx hb S.2.2.2.1 (S.2.2.2.2 _ wm_1166) dX11_boxed_23 ?_
  exact g_lret S hr hlk hG (by omega) dX11_boxed_26 ⟨Nat.le_of_ble_eq_true rfl, Nat.le_of_ble_eq_true rfl⟩ ⟨rfl, rfl, rfl⟩
theorem wV_11_212 : gWV "GrownKinds" 212 yX11_boxed cX11_boxed 4 (some .long) := ⟨wm_1171, wm_1172, wm_1173, wm_176, wm_1174, by decide +kernel, by decide +kernel⟩
set_option maxHeartbeats 4000000 in
set_option maxRecDepth 100000 in
theorem qX11_upto (l : Launch) {D : va_G} {cy : Nat → ClassId} {b n : Nat} (hn : 105 ≤ n) {E : Nat → va_E} (h0 : E 0 = Z0 b cy) (h2 : E 2 = Z2 b cy)  (a1 : Int32) (a2 : Int32) : gL l yX11_upto cX11_upto 3 4 0 0 D cy b n E [.ref (b + 0), .int a1, .int a2] (fun r u => r = (-2) ∧ u.1 = n ∧ u.2 = E) := by
  refine gL_of (by decide) (Nat.le_of_ble_eq_true rfl) ?_
  intro p e s m args below meth c S hr hlk hin hsz ls hl hG
  have hx := S.1
  have hb := S.2.1
  have hl : lv_has ls 3 [(0, .ref (b + 0)), (1, .int a1), (2, .int a2)] := hl
  refine lv_aload_n hx hb dX11_upto_0 rfl (lv_at hl 0 rfl) ?_
  refine lv_iload_n hx hb dX11_upto_1 rfl (lv_at hl 1 rfl) ?_
  refine lv_iconst (v := 0) hx hb dX11_upto_2 (by decide) ?_
  refine lv_iload_n hx hb dX11_upto_3 rfl (lv_at hl 2 rfl) ?_
  refine g_vl (As := [.int a1, .int 0, .int a2]) (rest := []) S hG (by omega) (qX11_boxed l hn h0 h2 a1 0 a2) wV_11_212 h0 cpX11 (by omega) dX11_upto_4 rfl hl.1 (ar := 3) (by decide +kernel) rfl ⟨Nat.le_of_ble_eq_true rfl, Nat.le_of_ble_eq_true rfl, Nat.le_of_ble_eq_true rfl, Nat.le_of_ble_eq_true rfl⟩ (Nat.le_of_ble_eq_true rfl) (fun r_3 u_E_1 H locs hp_2 hG => ?_)
  obtain ⟨n_E_1, E_1⟩ := u_E_1
  dsimp only at hp_2 hG
  obtain ⟨rfl, nhp_2, ehp_2⟩ := hp_2
  have hG := gW_eq2 hG nhp_2 ehp_2
  exact g_lret S hr hlk hG (by omega) dX11_upto_7 ⟨Nat.le_of_ble_eq_true rfl, Nat.le_of_ble_eq_true rfl⟩ ⟨rfl, rfl, rfl⟩
set_option maxHeartbeats 4000000 in
set_option maxRecDepth 100000 in
theorem qX11_listing (l : Launch) {D : va_G} {cy : Nat → ClassId} {b n : Nat} (hn : 105 ≤ n) {E : Nat → va_E} (h0 : E 0 = Z0 b cy) (h2 : E 2 = Z2 b cy)  (a1 : Int32) (a2 : Int32) : gI l yX11_listing cX11_listing 3 (some .int) 2 0 0 D cy b n E [.ref (b + 0), .int a1, .int a2] (fun r u => r = (-2) ∧ u.1 = n ∧ u.2 = E) := by
  refine gI_of (by decide) (Nat.le_of_ble_eq_true rfl) ?_
  intro p e s m args below meth c S hr hlk hin hsz ls hl hG
  have hx := S.1
  have hb := S.2.1
  have hl : lv_has ls 3 [(0, .ref (b + 0)), (1, .int a1), (2, .int a2)] := hl
  refine lv_aload_n hx hb dX11_listing_0 rfl (lv_at hl 0 rfl) ?_
  refine lv_iload_n hx hb dX11_listing_1 rfl (lv_at hl 1 rfl) ?_
  refine lv_iload_n hx hb dX11_listing_2 rfl (lv_at hl 2 rfl) ?_
  refine g_vi (As := [.int a1, .int a2]) (rest := []) S hG (by omega) (qX11_sized l hn h0 h2 a1 a2) wV_11_175 h0 cpX11 (by omega) dX11_listing_3 rfl hl.1 (ar := 2) (by decide +kernel) rfl ⟨Nat.le_of_ble_eq_true rfl, Nat.le_of_ble_eq_true rfl, Nat.le_of_ble_eq_true rfl, Nat.le_of_ble_eq_true rfl⟩ (Nat.le_of_ble_eq_true rfl) (fun r_3 u_E_1 H locs hp_2 hG => ?_)
  obtain ⟨n_E_1, E_1⟩ := u_E_1
  dsimp only at hp_2 hG
  obtain ⟨rfl, nhp_2, ehp_2⟩ := hp_2
  have hG := gW_eq2 hG nhp_2 ehp_2
  refine lv_if_ne (tgt := 12) hx hb dX11_listing_6 (by decide) (fun c_4 => absurd c_4 (by decide)) (fun c_4 => ?_)
  refine lv_bipush (v := (-2)) hx hb dX11_listing_9 (by decide) ?_
  exact g_iret S hr hlk hG (by omega) dX11_listing_11 ⟨Nat.le_of_ble_eq_true rfl, Nat.le_of_ble_eq_true rfl⟩ ⟨rfl, rfl, rfl⟩
theorem wV_11_251 : gWV "GrownKinds" 251 yX11_listing cX11_listing 3 (some .int) := ⟨wm_1269, wm_1271, wm_55, wm_176, wm_1272, by decide +kernel, by decide +kernel⟩
set_option maxHeartbeats 4000000 in
set_option maxRecDepth 100000 in
theorem qX11_spelling (l : Launch) {D : va_G} {cy : Nat → ClassId} {b n : Nat} (hn : 105 ≤ n) {E : Nat → va_E} (h0 : E 0 = Z0 b cy) (h2 : E 2 = Z2 b cy)  (a1 : Int32) (a2 : Int32) (a3 : Int32) : gI l yX11_spelling cX11_spelling 5 (some .int) 3 0 0 D cy b n E [.ref (b + 0), .int a1, .int a2, .int a3] (fun r u => r = (-2) ∧ u.1 = n ∧ u.2 = E) := by
  refine gI_of (by decide) (Nat.le_of_ble_eq_true rfl) ?_
  intro p e s m args below meth c S hr hlk hin hsz ls hl hG
  have hx := S.1
  have hb := S.2.1
  have hl : lv_has ls 5 [(0, .ref (b + 0)), (1, .int a1), (2, .int a2), (3, .int a3)] := hl
  refine lv_aload_n hx hb dX11_spelling_0 rfl (lv_at hl 0 rfl) ?_
  refine lv_iload_n hx hb dX11_spelling_1 rfl (lv_at hl 1 rfl) ?_
  refine lv_iload_n hx hb dX11_spelling_2 rfl (lv_at hl 2 rfl) ?_
  refine g_vi (As := [.int a1, .int a2]) (rest := []) S hG (by omega) (qX11_listing l hn h0 h2 a1 a2) wV_11_251 h0 cpX11 (by omega) dX11_spelling_3 rfl hl.1 (ar := 2) (by decide +kernel) rfl ⟨Nat.le_of_ble_eq_true rfl, Nat.le_of_ble_eq_true rfl, Nat.le_of_ble_eq_true rfl, Nat.le_of_ble_eq_true rfl⟩ (Nat.le_of_ble_eq_true rfl) (fun r_3 u_E_1 H locs hp_2 hG => ?_)
  obtain ⟨n_E_1, E_1⟩ := u_E_1
  dsimp only at hp_2 hG
  obtain ⟨rfl, nhp_2, ehp_2⟩ := hp_2
  have hG := gW_eq2 hG nhp_2 ehp_2
  refine lv_istore (lv' := [(4, .int (-2)), (0, .ref (b + 0)), (1, .int a1), (2, .int a2), (3, .int a3)]) hx hb dX11_spelling_6 hl (by decide) rfl (fun ls hl => ?_)
  refine lv_iload hx hb dX11_spelling_8 (lv_at hl 0 rfl) ?_
  refine lv_if_eq (tgt := 16) hx hb dX11_spelling_10 (by decide) (fun c_4 => absurd c_4 (by decide)) (fun c_4 => ?_)
  refine lv_iload hx hb dX11_spelling_13 (lv_at hl 0 rfl) ?_
  exact g_iret S hr hlk hG (by omega) dX11_spelling_15 ⟨Nat.le_of_ble_eq_true rfl, Nat.le_of_ble_eq_true rfl⟩ ⟨rfl, rfl, rfl⟩
set_option maxHeartbeats 4000000 in
set_option maxRecDepth 100000 in
theorem qX11_rolling (l : Launch) {D : va_G} {cy : Nat → ClassId} {b n : Nat} (hn : 105 ≤ n) {E : Nat → va_E} (h0 : E 0 = Z0 b cy) (h2 : E 2 = Z2 b cy)  (a1 : Int32) (a2 : Int32) : gI l yX11_rolling cX11_rolling 7 (some .int) 3 0 0 D cy b n E [.ref (b + 0), .int a1, .int a2] (fun r u => r = (-2) ∧ u.1 = n ∧ u.2 = E) := by
  refine gI_of (by decide) (Nat.le_of_ble_eq_true rfl) ?_
  intro p e s m args below meth c S hr hlk hin hsz ls hl hG
  have hx := S.1
  have hb := S.2.1
  have hl : lv_has ls 7 [(0, .ref (b + 0)), (1, .int a1), (2, .int a2)] := hl
  refine lv_aload_n hx hb dX11_rolling_0 rfl (lv_at hl 0 rfl) ?_
  refine lv_iload_n hx hb dX11_rolling_1 rfl (lv_at hl 1 rfl) ?_
  refine lv_iload_n hx hb dX11_rolling_2 rfl (lv_at hl 2 rfl) ?_
  refine g_vi (As := [.int a1, .int a2]) (rest := []) S hG (by omega) (qX11_listing l hn h0 h2 a1 a2) wV_11_251 h0 cpX11 (by omega) dX11_rolling_3 rfl hl.1 (ar := 2) (by decide +kernel) rfl ⟨Nat.le_of_ble_eq_true rfl, Nat.le_of_ble_eq_true rfl, Nat.le_of_ble_eq_true rfl, Nat.le_of_ble_eq_true rfl⟩ (Nat.le_of_ble_eq_true rfl) (fun r_3 u_E_1 H locs hp_2 hG => ?_)
  obtain ⟨n_E_1, E_1⟩ := u_E_1
  dsimp only at hp_2 hG
  obtain ⟨rfl, nhp_2, ehp_2⟩ := hp_2
  have hG := gW_eq2 hG nhp_2 ehp_2
  refine lv_istore_n (lv' := [(3, .int (-2)), (0, .ref (b + 0)), (1, .int a1), (2, .int a2)]) hx hb dX11_rolling_6 rfl hl (by decide) rfl (fun ls hl => ?_)
  refine lv_iload_n hx hb dX11_rolling_7 rfl (lv_at hl 0 rfl) ?_
  refine lv_if_eq (tgt := 13) hx hb dX11_rolling_8 (by decide) (fun c_4 => absurd c_4 (by decide)) (fun c_4 => ?_)
  refine lv_iload_n hx hb dX11_rolling_11 rfl (lv_at hl 0 rfl) ?_
  exact g_iret S hr hlk hG (by omega) dX11_rolling_12 ⟨Nat.le_of_ble_eq_true rfl, Nat.le_of_ble_eq_true rfl⟩ ⟨rfl, rfl, rfl⟩
theorem wV_11_259 : gWV "GrownKinds" 259 yX11_spelling cX11_spelling 5 (some .int) := ⟨wm_1265, wm_1267, wm_54, wm_176, wm_1268, by decide +kernel, by decide +kernel⟩
set_option maxHeartbeats 4000000 in
set_option maxRecDepth 100000 in
theorem qX11_length (l : Launch) {D : va_G} {cy : Nat → ClassId} {b n : Nat} (hn : 105 ≤ n) {E : Nat → va_E} (h0 : E 0 = Z0 b cy) (h2 : E 2 = Z2 b cy)  (a1 : Int32) (a2 : Int32) (a3 : Int32) : gI l yX11_length cX11_length 5 (some .int) 4 0 0 D cy b n E [.ref (b + 0), .int a1, .int a2, .int a3] (fun r u => r = (-2) ∧ u.1 = n ∧ u.2 = E) := by
  refine gI_of (by decide) (Nat.le_of_ble_eq_true rfl) ?_
  intro p e s m args below meth c S hr hlk hin hsz ls hl hG
  have hx := S.1
  have hb := S.2.1
  have hl : lv_has ls 5 [(0, .ref (b + 0)), (1, .int a1), (2, .int a2), (3, .int a3)] := hl
  refine lv_aload_n hx hb dX11_length_0 rfl (lv_at hl 0 rfl) ?_
  refine lv_iload_n hx hb dX11_length_1 rfl (lv_at hl 1 rfl) ?_
  refine lv_iload_n hx hb dX11_length_2 rfl (lv_at hl 2 rfl) ?_
  refine lv_iload_n hx hb dX11_length_3 rfl (lv_at hl 3 rfl) ?_
  refine g_vi (As := [.int a1, .int a2, .int a3]) (rest := []) S hG (by omega) (qX11_spelling l hn h0 h2 a1 a2 a3) wV_11_259 h0 cpX11 (by omega) dX11_length_4 rfl hl.1 (ar := 3) (by decide +kernel) rfl ⟨Nat.le_of_ble_eq_true rfl, Nat.le_of_ble_eq_true rfl, Nat.le_of_ble_eq_true rfl, Nat.le_of_ble_eq_true rfl⟩ (Nat.le_of_ble_eq_true rfl) (fun r_3 u_E_1 H locs hp_2 hG => ?_)
  obtain ⟨n_E_1, E_1⟩ := u_E_1
  dsimp only at hp_2 hG
  obtain ⟨rfl, nhp_2, ehp_2⟩ := hp_2
  have hG := gW_eq2 hG nhp_2 ehp_2
  refine lv_istore (lv' := [(4, .int (-2)), (0, .ref (b + 0)), (1, .int a1), (2, .int a2), (3, .int a3)]) hx hb dX11_length_7 hl (by decide) rfl (fun ls hl => ?_)
  refine lv_iload hx hb dX11_length_9 (lv_at hl 0 rfl) ?_
  refine lv_if_eq (tgt := 19) hx hb dX11_length_11 (by decide) (fun c_4 => absurd c_4 (by decide)) (fun c_4 => ?_)
  refine lv_iload hx hb dX11_length_14 (lv_at hl 0 rfl) ?_
  refine lv_goto (tgt := 26) hx hb dX11_length_16 (by decide) ?_
  exact g_iret S hr hlk hG (by omega) dX11_length_26 ⟨Nat.le_of_ble_eq_true rfl, Nat.le_of_ble_eq_true rfl⟩ ⟨rfl, rfl, rfl⟩
set_option maxHeartbeats 4000000 in
set_option maxRecDepth 100000 in
theorem qX11_sign (l : Launch) {D : va_G} {cy : Nat → ClassId} {b n : Nat} (hn : 105 ≤ n) {E : Nat → va_E} (h0 : E 0 = Z0 b cy) (h2 : E 2 = Z2 b cy)  (a1 : Int32) (a2 : Int32) (a3 : Int32) (a4 : Int32) : gI l yX11_sign cX11_sign 6 (some .int) 4 0 0 D cy b n E [.ref (b + 0), .int a1, .int a2, .int a3, .int a4] (fun r u => r = (-2) ∧ u.1 = n ∧ u.2 = E) := by
  refine gI_of (by decide) (Nat.le_of_ble_eq_true rfl) ?_
  intro p e s m args below meth c S hr hlk hin hsz ls hl hG
  have hx := S.1
  have hb := S.2.1
  have hl : lv_has ls 6 [(0, .ref (b + 0)), (1, .int a1), (2, .int a2), (3, .int a3), (4, .int a4)] := hl
  refine lv_iload hx hb dX11_sign_0 (lv_at hl 4 rfl) ?_
  refine lv_if_ge (tgt := 8) hx hb dX11_sign_2 (by decide) (fun c_1 => ?_) (fun c_1 => ?_)
  · refine lv_aload_n hx hb dX11_sign_8 rfl (lv_at hl 0 rfl) ?_
    refine lv_iload_n hx hb dX11_sign_9 rfl (lv_at hl 1 rfl) ?_
    refine lv_iload_n hx hb dX11_sign_10 rfl (lv_at hl 2 rfl) ?_
    refine lv_iload_n hx hb dX11_sign_11 rfl (lv_at hl 3 rfl) ?_
    refine g_vi (As := [.int a1, .int a2, .int a3]) (rest := []) S hG (by omega) (qX11_spelling l hn h0 h2 a1 a2 a3) wV_11_259 h0 cpX11 (by omega) dX11_sign_12 rfl hl.1 (ar := 3) (by decide +kernel) rfl ⟨Nat.le_of_ble_eq_true rfl, Nat.le_of_ble_eq_true rfl, Nat.le_of_ble_eq_true rfl, Nat.le_of_ble_eq_true rfl⟩ (Nat.le_of_ble_eq_true rfl) (fun r_4 u_E_2 H locs hp_3 hG => ?_)
    obtain ⟨n_E_2, E_2⟩ := u_E_2
    dsimp only at hp_3 hG
    obtain ⟨rfl, nhp_3, ehp_3⟩ := hp_3
    have hG := gW_eq2 hG nhp_3 ehp_3
    refine lv_istore (lv' := [(5, .int (-2)), (0, .ref (b + 0)), (1, .int a1), (2, .int a2), (3, .int a3), (4, .int a4)]) hx hb dX11_sign_15 hl (by decide) rfl (fun ls hl => ?_)
    refine lv_iload hx hb dX11_sign_17 (lv_at hl 0 rfl) ?_
    refine lv_if_eq (tgt := 27) hx hb dX11_sign_19 (by decide) (fun c_5 => absurd c_5 (by decide)) (fun c_5 => ?_)
    refine lv_iload hx hb dX11_sign_22 (lv_at hl 0 rfl) ?_
    refine lv_goto (tgt := 36) hx hb dX11_sign_24 (by decide) ?_
    exact g_iret S hr hlk hG (by omega) dX11_sign_36 ⟨Nat.le_of_ble_eq_true rfl, Nat.le_of_ble_eq_true rfl⟩ ⟨rfl, rfl, rfl⟩
  · refine lv_bipush (v := (-2)) hx hb dX11_sign_5 (by decide) ?_
    exact g_iret S hr hlk hG (by omega) dX11_sign_7 ⟨Nat.le_of_ble_eq_true rfl, Nat.le_of_ble_eq_true rfl⟩ ⟨rfl, rfl, rfl⟩
set_option maxHeartbeats 4000000 in
set_option maxRecDepth 100000 in
theorem qX11_deep (l : Launch) {D : va_G} {cy : Nat → ClassId} {b n : Nat} (hn : 105 ≤ n) {E : Nat → va_E} (h0 : E 0 = Z0 b cy) (h2 : E 2 = Z2 b cy)  (a1 : Int32) (a2 : Int32) (a3 : Int32) : gI l yX11_deep cX11_deep 5 (some .int) 4 0 0 D cy b n E [.ref (b + 0), .int a1, .int a2, .int a3] (fun r u => r = (-2) ∧ u.1 = n ∧ u.2 = E) := by
  refine gI_of (by decide) (Nat.le_of_ble_eq_true rfl) ?_
  intro p e s m args below meth c S hr hlk hin hsz ls hl hG
  have hx := S.1
  have hb := S.2.1
  have hl : lv_has ls 5 [(0, .ref (b + 0)), (1, .int a1), (2, .int a2), (3, .int a3)] := hl
  refine lv_aload_n hx hb dX11_deep_0 rfl (lv_at hl 0 rfl) ?_
  refine lv_iload_n hx hb dX11_deep_1 rfl (lv_at hl 1 rfl) ?_
  refine lv_iload_n hx hb dX11_deep_2 rfl (lv_at hl 2 rfl) ?_
  refine lv_iload_n hx hb dX11_deep_3 rfl (lv_at hl 3 rfl) ?_
  refine g_vi (As := [.int a1, .int a2, .int a3]) (rest := []) S hG (by omega) (qX11_spelling l hn h0 h2 a1 a2 a3) wV_11_259 h0 cpX11 (by omega) dX11_deep_4 rfl hl.1 (ar := 3) (by decide +kernel) rfl ⟨Nat.le_of_ble_eq_true rfl, Nat.le_of_ble_eq_true rfl, Nat.le_of_ble_eq_true rfl, Nat.le_of_ble_eq_true rfl⟩ (Nat.le_of_ble_eq_true rfl) (fun r_3 u_E_1 H locs hp_2 hG => ?_)
  obtain ⟨n_E_1, E_1⟩ := u_E_1
  dsimp only at hp_2 hG
  obtain ⟨rfl, nhp_2, ehp_2⟩ := hp_2
  have hG := gW_eq2 hG nhp_2 ehp_2
  refine lv_istore (lv' := [(4, .int (-2)), (0, .ref (b + 0)), (1, .int a1), (2, .int a2), (3, .int a3)]) hx hb dX11_deep_7 hl (by decide) rfl (fun ls hl => ?_)
  refine lv_iload hx hb dX11_deep_9 (lv_at hl 0 rfl) ?_
  refine lv_if_eq (tgt := 19) hx hb dX11_deep_11 (by decide) (fun c_4 => absurd c_4 (by decide)) (fun c_4 => ?_)
  refine lv_iload hx hb dX11_deep_14 (lv_at hl 0 rfl) ?_
  refine lv_goto (tgt := 26) hx hb dX11_deep_16 (by decide) ?_
  exact g_iret S hr hlk hG (by omega) dX11_deep_26 ⟨Nat.le_of_ble_eq_true rfl, Nat.le_of_ble_eq_true rfl⟩ ⟨rfl, rfl, rfl⟩
theorem wS_11_221 : gWS "GrownKinds" 221 yX11_lettered cX11_lettered 1 (some .boolean) := ⟨wm_1203, wm_1204, wm_176, wm_1205, by decide +kernel, by decide +kernel⟩
set_option maxHeartbeats 4000000 in
set_option maxRecDepth 100000 in
theorem qX11_atoms (l : Launch) {D : va_G} {cy : Nat → ClassId} {b n : Nat} (hn : 105 ≤ n) {E : Nat → va_E} (h0 : E 0 = Z0 b cy) (h2 : E 2 = Z2 b cy)  (a1 : Int32) (a2 : Int32) (a3 : Int32) (a4 : Int32) : gI l yX11_atoms cX11_atoms 6 (some .int) 4 0 0 D cy b n E [.ref (b + 0), .int a1, .int a2, .int a3, .int a4] (fun r u => r = (-2) ∧ u.1 = n ∧ u.2 = E) := by
  refine gI_of (by decide) (Nat.le_of_ble_eq_true rfl) ?_
  intro p e s m args below meth c S hr hlk hin hsz ls hl hG
  have hx := S.1
  have hb := S.2.1
  have hl : lv_has ls 6 [(0, .ref (b + 0)), (1, .int a1), (2, .int a2), (3, .int a3), (4, .int a4)] := hl
  refine lv_iload hx hb dX11_atoms_0 (lv_at hl 4 rfl) ?_
  refine g_si (As := [.int a4]) (rest := []) S hG (by omega) (qX11_lettered l hn  a4) wS_11_221 dX11_atoms_2 rfl hl.1 (ar := 1) (by decide +kernel) rfl ⟨Nat.le_of_ble_eq_true rfl, Nat.le_of_ble_eq_true rfl, Nat.le_of_ble_eq_true rfl, Nat.le_of_ble_eq_true rfl⟩ (Nat.le_of_ble_eq_true rfl) (fun r_3 u_E_1 H locs hp_2 hG => ?_)
  obtain ⟨n_E_1, E_1⟩ := u_E_1
  dsimp only at hp_2 hG
  have hG := gW_eq2 hG hp_2.1 hp_2.2
  refine lv_if_ne (tgt := 11) hx hb dX11_atoms_5 (by decide) (fun c_4 => ?_) (fun c_4 => ?_)
  · refine lv_aload_n hx hb dX11_atoms_11 rfl (lv_at hl 0 rfl) ?_
    refine lv_iload_n hx hb dX11_atoms_12 rfl (lv_at hl 1 rfl) ?_
    refine lv_iload_n hx hb dX11_atoms_13 rfl (lv_at hl 2 rfl) ?_
    refine lv_iload_n hx hb dX11_atoms_14 rfl (lv_at hl 3 rfl) ?_
    refine g_vi (As := [.int a1, .int a2, .int a3]) (rest := []) S hG (by omega) (qX11_spelling l hn h0 h2 a1 a2 a3) wV_11_259 h0 cpX11 (by omega) dX11_atoms_15 rfl hl.1 (ar := 3) (by decide +kernel) rfl ⟨Nat.le_of_ble_eq_true rfl, Nat.le_of_ble_eq_true rfl, Nat.le_of_ble_eq_true rfl, Nat.le_of_ble_eq_true rfl⟩ (Nat.le_of_ble_eq_true rfl) (fun r_7 u_E_5 H locs hp_6 hG => ?_)
    obtain ⟨n_E_5, E_5⟩ := u_E_5
    dsimp only at hp_6 hG
    obtain ⟨rfl, nhp_6, ehp_6⟩ := hp_6
    have hG := gW_eq2 hG nhp_6 ehp_6
    refine lv_istore (lv' := [(5, .int (-2)), (0, .ref (b + 0)), (1, .int a1), (2, .int a2), (3, .int a3), (4, .int a4)]) hx hb dX11_atoms_18 hl (by decide) rfl (fun ls hl => ?_)
    refine lv_iload hx hb dX11_atoms_20 (lv_at hl 0 rfl) ?_
    refine lv_if_eq (tgt := 30) hx hb dX11_atoms_22 (by decide) (fun c_8 => absurd c_8 (by decide)) (fun c_8 => ?_)
    refine lv_iload hx hb dX11_atoms_25 (lv_at hl 0 rfl) ?_
    refine lv_goto (tgt := 40) hx hb dX11_atoms_27 (by decide) ?_
    exact g_iret S hr hlk hG (by omega) dX11_atoms_40 ⟨Nat.le_of_ble_eq_true rfl, Nat.le_of_ble_eq_true rfl⟩ ⟨rfl, rfl, rfl⟩
  · refine lv_bipush (v := (-2)) hx hb dX11_atoms_8 (by decide) ?_
    exact g_iret S hr hlk hG (by omega) dX11_atoms_10 ⟨Nat.le_of_ble_eq_true rfl, Nat.le_of_ble_eq_true rfl⟩ ⟨rfl, rfl, rfl⟩
set_option maxHeartbeats 4000000 in
set_option maxRecDepth 100000 in
theorem qX11_term (l : Launch) {D : va_G} {cy : Nat → ClassId} {b n : Nat} (hn : 105 ≤ n) {E : Nat → va_E} (h0 : E 0 = Z0 b cy) (h2 : E 2 = Z2 b cy)  (a1 : Int32) (a2 : Int32) (a3 : Int32) : gI l yX11_term cX11_term 5 (some .int) 4 0 0 D cy b n E [.ref (b + 0), .int a1, .int a2, .int a3] (fun r u => r = (-2) ∧ u.1 = n ∧ u.2 = E) := by
  refine gI_of (by decide) (Nat.le_of_ble_eq_true rfl) ?_
  intro p e s m args below meth c S hr hlk hin hsz ls hl hG
  have hx := S.1
  have hb := S.2.1
  have hl : lv_has ls 5 [(0, .ref (b + 0)), (1, .int a1), (2, .int a2), (3, .int a3)] := hl
  refine lv_aload_n hx hb dX11_term_0 rfl (lv_at hl 0 rfl) ?_
  refine lv_iload_n hx hb dX11_term_1 rfl (lv_at hl 1 rfl) ?_
  refine lv_iload_n hx hb dX11_term_2 rfl (lv_at hl 2 rfl) ?_
  refine lv_iload_n hx hb dX11_term_3 rfl (lv_at hl 3 rfl) ?_
  refine g_vi (As := [.int a1, .int a2, .int a3]) (rest := []) S hG (by omega) (qX11_spelling l hn h0 h2 a1 a2 a3) wV_11_259 h0 cpX11 (by omega) dX11_term_4 rfl hl.1 (ar := 3) (by decide +kernel) rfl ⟨Nat.le_of_ble_eq_true rfl, Nat.le_of_ble_eq_true rfl, Nat.le_of_ble_eq_true rfl, Nat.le_of_ble_eq_true rfl⟩ (Nat.le_of_ble_eq_true rfl) (fun r_3 u_E_1 H locs hp_2 hG => ?_)
  obtain ⟨n_E_1, E_1⟩ := u_E_1
  dsimp only at hp_2 hG
  obtain ⟨rfl, nhp_2, ehp_2⟩ := hp_2
  have hG := gW_eq2 hG nhp_2 ehp_2
  refine lv_istore (lv' := [(4, .int (-2)), (0, .ref (b + 0)), (1, .int a1), (2, .int a2), (3, .int a3)]) hx hb dX11_term_7 hl (by decide) rfl (fun ls hl => ?_)
  refine lv_iload hx hb dX11_term_9 (lv_at hl 0 rfl) ?_
  refine lv_if_eq (tgt := 19) hx hb dX11_term_11 (by decide) (fun c_4 => absurd c_4 (by decide)) (fun c_4 => ?_)
  refine lv_iload hx hb dX11_term_14 (lv_at hl 0 rfl) ?_
  refine lv_goto (tgt := 26) hx hb dX11_term_16 (by decide) ?_
  exact g_iret S hr hlk hG (by omega) dX11_term_26 ⟨Nat.le_of_ble_eq_true rfl, Nat.le_of_ble_eq_true rfl⟩ ⟨rfl, rfl, rfl⟩
set_option maxHeartbeats 4000000 in
set_option maxRecDepth 100000 in
theorem qX11_symmetries (l : Launch) {D : va_G} {cy : Nat → ClassId} {b n : Nat} (hn : 105 ≤ n) {E : Nat → va_E} (h0 : E 0 = Z0 b cy) (h2 : E 2 = Z2 b cy)  (a1 : Int32) (a2 : Int32) (a3 : Int32) : gI l yX11_symmetries cX11_symmetries 5 (some .int) 4 0 0 D cy b n E [.ref (b + 0), .int a1, .int a2, .int a3] (fun r u => r = (-2) ∧ u.1 = n ∧ u.2 = E) := by
  refine gI_of (by decide) (Nat.le_of_ble_eq_true rfl) ?_
  intro p e s m args below meth c S hr hlk hin hsz ls hl hG
  have hx := S.1
  have hb := S.2.1
  have hl : lv_has ls 5 [(0, .ref (b + 0)), (1, .int a1), (2, .int a2), (3, .int a3)] := hl
  refine lv_aload_n hx hb dX11_symmetries_0 rfl (lv_at hl 0 rfl) ?_
  refine lv_iload_n hx hb dX11_symmetries_1 rfl (lv_at hl 1 rfl) ?_
  refine lv_iload_n hx hb dX11_symmetries_2 rfl (lv_at hl 2 rfl) ?_
  refine lv_iload_n hx hb dX11_symmetries_3 rfl (lv_at hl 3 rfl) ?_
  refine g_vi (As := [.int a1, .int a2, .int a3]) (rest := []) S hG (by omega) (qX11_spelling l hn h0 h2 a1 a2 a3) wV_11_259 h0 cpX11 (by omega) dX11_symmetries_4 rfl hl.1 (ar := 3) (by decide +kernel) rfl ⟨Nat.le_of_ble_eq_true rfl, Nat.le_of_ble_eq_true rfl, Nat.le_of_ble_eq_true rfl, Nat.le_of_ble_eq_true rfl⟩ (Nat.le_of_ble_eq_true rfl) (fun r_3 u_E_1 H locs hp_2 hG => ?_)
  obtain ⟨n_E_1, E_1⟩ := u_E_1
  dsimp only at hp_2 hG
  obtain ⟨rfl, nhp_2, ehp_2⟩ := hp_2
  have hG := gW_eq2 hG nhp_2 ehp_2
  refine lv_istore (lv' := [(4, .int (-2)), (0, .ref (b + 0)), (1, .int a1), (2, .int a2), (3, .int a3)]) hx hb dX11_symmetries_7 hl (by decide) rfl (fun ls hl => ?_)
  refine lv_iload hx hb dX11_symmetries_9 (lv_at hl 0 rfl) ?_
  refine lv_if_eq (tgt := 19) hx hb dX11_symmetries_11 (by decide) (fun c_4 => absurd c_4 (by decide)) (fun c_4 => ?_)
  refine lv_iload hx hb dX11_symmetries_14 (lv_at hl 0 rfl) ?_
  refine lv_goto (tgt := 26) hx hb dX11_symmetries_16 (by decide) ?_
  exact g_iret S hr hlk hG (by omega) dX11_symmetries_26 ⟨Nat.le_of_ble_eq_true rfl, Nat.le_of_ble_eq_true rfl⟩ ⟨rfl, rfl, rfl⟩
set_option maxHeartbeats 4000000 in
set_option maxRecDepth 100000 in
theorem qX11_labels (l : Launch) {D : va_G} {cy : Nat → ClassId} {b n : Nat} (hn : 105 ≤ n) {E : Nat → va_E} (h0 : E 0 = Z0 b cy) (h2 : E 2 = Z2 b cy)  (a1 : Int32) (a2 : Int32) (a3 : Int32) : gI l yX11_labels cX11_labels 5 (some .int) 4 0 0 D cy b n E [.ref (b + 0), .int a1, .int a2, .int a3] (fun r u => r = (-2) ∧ u.1 = n ∧ u.2 = E) := by
  refine gI_of (by decide) (Nat.le_of_ble_eq_true rfl) ?_
  intro p e s m args below meth c S hr hlk hin hsz ls hl hG
  have hx := S.1
  have hb := S.2.1
  have hl : lv_has ls 5 [(0, .ref (b + 0)), (1, .int a1), (2, .int a2), (3, .int a3)] := hl
  refine lv_aload_n hx hb dX11_labels_0 rfl (lv_at hl 0 rfl) ?_
  refine lv_iload_n hx hb dX11_labels_1 rfl (lv_at hl 1 rfl) ?_
  refine lv_iload_n hx hb dX11_labels_2 rfl (lv_at hl 2 rfl) ?_
  refine lv_iload_n hx hb dX11_labels_3 rfl (lv_at hl 3 rfl) ?_
  refine g_vi (As := [.int a1, .int a2, .int a3]) (rest := []) S hG (by omega) (qX11_spelling l hn h0 h2 a1 a2 a3) wV_11_259 h0 cpX11 (by omega) dX11_labels_4 rfl hl.1 (ar := 3) (by decide +kernel) rfl ⟨Nat.le_of_ble_eq_true rfl, Nat.le_of_ble_eq_true rfl, Nat.le_of_ble_eq_true rfl, Nat.le_of_ble_eq_true rfl⟩ (Nat.le_of_ble_eq_true rfl) (fun r_3 u_E_1 H locs hp_2 hG => ?_)
  obtain ⟨n_E_1, E_1⟩ := u_E_1
  dsimp only at hp_2 hG
  obtain ⟨rfl, nhp_2, ehp_2⟩ := hp_2
  have hG := gW_eq2 hG nhp_2 ehp_2
  refine lv_istore (lv' := [(4, .int (-2)), (0, .ref (b + 0)), (1, .int a1), (2, .int a2), (3, .int a3)]) hx hb dX11_labels_7 hl (by decide) rfl (fun ls hl => ?_)
  refine lv_iload hx hb dX11_labels_9 (lv_at hl 0 rfl) ?_
  refine lv_if_eq (tgt := 17) hx hb dX11_labels_11 (by decide) (fun c_4 => absurd c_4 (by decide)) (fun c_4 => ?_)
  refine lv_iload hx hb dX11_labels_14 (lv_at hl 0 rfl) ?_
  exact g_iret S hr hlk hG (by omega) dX11_labels_16 ⟨Nat.le_of_ble_eq_true rfl, Nat.le_of_ble_eq_true rfl⟩ ⟨rfl, rfl, rfl⟩
set_option maxHeartbeats 4000000 in
set_option maxRecDepth 100000 in
theorem qX11_tells (l : Launch) {D : va_G} {cy : Nat → ClassId} {b n : Nat} (hn : 105 ≤ n) {E : Nat → va_E} (h0 : E 0 = Z0 b cy) (h2 : E 2 = Z2 b cy)  (a1 : Int32) : gI l yX11_tells cX11_tells 5 (some .int) 1 0 0 D cy b n E [.ref (b + 0), .int a1] (fun r u => r = (-2) ∧ u.1 = n ∧ u.2 = E) := by
  refine gI_of (by decide) (Nat.le_of_ble_eq_true rfl) ?_
  intro p e s m args below meth c S hr hlk hin hsz ls hl hG
  have hx := S.1
  have hb := S.2.1
  have hl : lv_has ls 5 [(0, .ref (b + 0)), (1, .int a1)] := hl
  refine lv_aload_n hx hb dX11_tells_0 rfl (lv_at hl 0 rfl) ?_
  refine lv_iload_n hx hb dX11_tells_1 rfl (lv_at hl 1 rfl) ?_
  refine g_vi (As := [.int a1]) (rest := []) S hG (by omega) (qX11_known l hn h0 h2 a1) wV_11_168 h0 cpX11 (by omega) dX11_tells_2 rfl hl.1 (ar := 1) (by decide +kernel) rfl ⟨Nat.le_of_ble_eq_true rfl, Nat.le_of_ble_eq_true rfl, Nat.le_of_ble_eq_true rfl, Nat.le_of_ble_eq_true rfl⟩ (Nat.le_of_ble_eq_true rfl) (fun r_3 u_E_1 H locs hp_2 hG => ?_)
  obtain ⟨n_E_1, E_1⟩ := u_E_1
  dsimp only at hp_2 hG
  obtain ⟨rfl, nhp_2, ehp_2⟩ := hp_2
  have hG := gW_eq2 hG nhp_2 ehp_2
  refine lv_if_ne (tgt := 11) hx hb dX11_tells_5 (by decide) (fun c_4 => absurd c_4 (by decide)) (fun c_4 => ?_)
  refine lv_bipush (v := (-2)) hx hb dX11_tells_8 (by decide) ?_
  exact g_iret S hr hlk hG (by omega) dX11_tells_10 ⟨Nat.le_of_ble_eq_true rfl, Nat.le_of_ble_eq_true rfl⟩ ⟨rfl, rfl, rfl⟩
set_option maxHeartbeats 4000000 in
set_option maxRecDepth 100000 in
theorem qX11_shared (l : Launch) {D : va_G} {cy : Nat → ClassId} {b n : Nat} (hn : 105 ≤ n) {E : Nat → va_E} (h0 : E 0 = Z0 b cy) (h2 : E 2 = Z2 b cy)  (a1 : Int32) (a2 : Int32) (a3 : Int32) : gI l yX11_shared cX11_shared 8 (some .int) 1 0 0 D cy b n E [.ref (b + 0), .int a1, .int a2, .int a3] (fun r u => r = (-2) ∧ u.1 = n ∧ u.2 = E) := by
  refine gI_of (by decide) (Nat.le_of_ble_eq_true rfl) ?_
  intro p e s m args below meth c S hr hlk hin hsz ls hl hG
  have hx := S.1
  have hb := S.2.1
  have hl : lv_has ls 8 [(0, .ref (b + 0)), (1, .int a1), (2, .int a2), (3, .int a3)] := hl
  refine lv_aload_n hx hb dX11_shared_0 rfl (lv_at hl 0 rfl) ?_
  refine lv_iload_n hx hb dX11_shared_1 rfl (lv_at hl 2 rfl) ?_
  refine g_vi (As := [.int a2]) (rest := []) S hG (by omega) (qX11_known l hn h0 h2 a2) wV_11_168 h0 cpX11 (by omega) dX11_shared_2 rfl hl.1 (ar := 1) (by decide +kernel) rfl ⟨Nat.le_of_ble_eq_true rfl, Nat.le_of_ble_eq_true rfl, Nat.le_of_ble_eq_true rfl, Nat.le_of_ble_eq_true rfl⟩ (Nat.le_of_ble_eq_true rfl) (fun r_3 u_E_1 H locs hp_2 hG => ?_)
  obtain ⟨n_E_1, E_1⟩ := u_E_1
  dsimp only at hp_2 hG
  obtain ⟨rfl, nhp_2, ehp_2⟩ := hp_2
  have hG := gW_eq2 hG nhp_2 ehp_2
  refine lv_if_ne (tgt := 11) hx hb dX11_shared_5 (by decide) (fun c_4 => absurd c_4 (by decide)) (fun c_4 => ?_)
  refine lv_bipush (v := (-2)) hx hb dX11_shared_8 (by decide) ?_
  exact g_iret S hr hlk hG (by omega) dX11_shared_10 ⟨Nat.le_of_ble_eq_true rfl, Nat.le_of_ble_eq_true rfl⟩ ⟨rfl, rfl, rfl⟩
theorem wV_11_315 : gWV "GrownKinds" 315 yX11_rolling cX11_rolling 7 (some .int) := ⟨wm_1543, wm_1545, wm_82, wm_176, wm_1546, by decide +kernel, by decide +kernel⟩
set_option maxHeartbeats 4000000 in
set_option maxRecDepth 100000 in
theorem qX11_deepest (l : Launch) {D : va_G} {cy : Nat → ClassId} {b n : Nat} (hn : 105 ≤ n) {E : Nat → va_E} (h0 : E 0 = Z0 b cy) (h2 : E 2 = Z2 b cy)  (a1 : Int32) (a2 : Int32) : gI l yX11_deepest cX11_deepest 4 (some .int) 4 0 0 D cy b n E [.ref (b + 0), .int a1, .int a2] (fun r u => r = (-2) ∧ u.1 = n ∧ u.2 = E) := by
  refine gI_of (by decide) (Nat.le_of_ble_eq_true rfl) ?_
  intro p e s m args below meth c S hr hlk hin hsz ls hl hG
  have hx := S.1
  have hb := S.2.1
  have hl : lv_has ls 4 [(0, .ref (b + 0)), (1, .int a1), (2, .int a2)] := hl
  refine lv_aload_n hx hb dX11_deepest_0 rfl (lv_at hl 0 rfl) ?_
  refine lv_iload_n hx hb dX11_deepest_1 rfl (lv_at hl 1 rfl) ?_
  refine lv_iload_n hx hb dX11_deepest_2 rfl (lv_at hl 2 rfl) ?_
  refine g_vi (As := [.int a1, .int a2]) (rest := []) S hG (by omega) (qX11_rolling l hn h0 h2 a1 a2) wV_11_315 h0 cpX11 (by omega) dX11_deepest_3 rfl hl.1 (ar := 2) (by decide +kernel) rfl ⟨Nat.le_of_ble_eq_true rfl, Nat.le_of_ble_eq_true rfl, Nat.le_of_ble_eq_true rfl, Nat.le_of_ble_eq_true rfl⟩ (Nat.le_of_ble_eq_true rfl) (fun r_3 u_E_1 H locs hp_2 hG => ?_)
  obtain ⟨n_E_1, E_1⟩ := u_E_1
  dsimp only at hp_2 hG
  obtain ⟨rfl, nhp_2, ehp_2⟩ := hp_2
  have hG := gW_eq2 hG nhp_2 ehp_2
  refine lv_istore_n (lv' := [(3, .int (-2)), (0, .ref (b + 0)), (1, .int a1), (2, .int a2)]) hx hb dX11_deepest_6 rfl hl (by decide) rfl (fun ls hl => ?_)
  refine lv_iload_n hx hb dX11_deepest_7 rfl (lv_at hl 0 rfl) ?_
  refine lv_if_eq (tgt := 15) hx hb dX11_deepest_8 (by decide) (fun c_4 => absurd c_4 (by decide)) (fun c_4 => ?_)
  refine lv_iload_n hx hb dX11_deepest_11 rfl (lv_at hl 0 rfl) ?_
  refine lv_goto (tgt := 29) hx hb dX11_deepest_12 (by decide) ?_
  exact g_iret S hr hlk hG (by omega) dX11_deepest_29 ⟨Nat.le_of_ble_eq_true rfl, Nat.le_of_ble_eq_true rfl⟩ ⟨rfl, rfl, rfl⟩
set_option maxHeartbeats 4000000 in
set_option maxRecDepth 100000 in
theorem qX11_fullest (l : Launch) {D : va_G} {cy : Nat → ClassId} {b n : Nat} (hn : 105 ≤ n) {E : Nat → va_E} (h0 : E 0 = Z0 b cy) (h2 : E 2 = Z2 b cy)  (a1 : Int32) (a2 : Int32) (a3 : Int32) : gI l yX11_fullest cX11_fullest 5 (some .int) 4 0 0 D cy b n E [.ref (b + 0), .int a1, .int a2, .int a3] (fun r u => r = (-2) ∧ u.1 = n ∧ u.2 = E) := by
  refine gI_of (by decide) (Nat.le_of_ble_eq_true rfl) ?_
  intro p e s m args below meth c S hr hlk hin hsz ls hl hG
  have hx := S.1
  have hb := S.2.1
  have hl : lv_has ls 5 [(0, .ref (b + 0)), (1, .int a1), (2, .int a2), (3, .int a3)] := hl
  refine lv_iload_n hx hb dX11_fullest_0 rfl (lv_at hl 3 rfl) ?_
  refine g_si (As := [.int a3]) (rest := []) S hG (by omega) (qX11_lettered l hn  a3) wS_11_221 dX11_fullest_1 rfl hl.1 (ar := 1) (by decide +kernel) rfl ⟨Nat.le_of_ble_eq_true rfl, Nat.le_of_ble_eq_true rfl, Nat.le_of_ble_eq_true rfl, Nat.le_of_ble_eq_true rfl⟩ (Nat.le_of_ble_eq_true rfl) (fun r_3 u_E_1 H locs hp_2 hG => ?_)
  obtain ⟨n_E_1, E_1⟩ := u_E_1
  dsimp only at hp_2 hG
  have hG := gW_eq2 hG hp_2.1 hp_2.2
  refine lv_if_ne (tgt := 10) hx hb dX11_fullest_4 (by decide) (fun c_4 => ?_) (fun c_4 => ?_)
  · refine lv_aload_n hx hb dX11_fullest_10 rfl (lv_at hl 0 rfl) ?_
    refine lv_iload_n hx hb dX11_fullest_11 rfl (lv_at hl 1 rfl) ?_
    refine lv_iload_n hx hb dX11_fullest_12 rfl (lv_at hl 2 rfl) ?_
    refine g_vi (As := [.int a1, .int a2]) (rest := []) S hG (by omega) (qX11_rolling l hn h0 h2 a1 a2) wV_11_315 h0 cpX11 (by omega) dX11_fullest_13 rfl hl.1 (ar := 2) (by decide +kernel) rfl ⟨Nat.le_of_ble_eq_true rfl, Nat.le_of_ble_eq_true rfl, Nat.le_of_ble_eq_true rfl, Nat.le_of_ble_eq_true rfl⟩ (Nat.le_of_ble_eq_true rfl) (fun r_7 u_E_5 H locs hp_6 hG => ?_)
    obtain ⟨n_E_5, E_5⟩ := u_E_5
    dsimp only at hp_6 hG
    obtain ⟨rfl, nhp_6, ehp_6⟩ := hp_6
    have hG := gW_eq2 hG nhp_6 ehp_6
    refine lv_istore (lv' := [(4, .int (-2)), (0, .ref (b + 0)), (1, .int a1), (2, .int a2), (3, .int a3)]) hx hb dX11_fullest_16 hl (by decide) rfl (fun ls hl => ?_)
    refine lv_iload hx hb dX11_fullest_18 (lv_at hl 0 rfl) ?_
    refine lv_if_eq (tgt := 28) hx hb dX11_fullest_20 (by decide) (fun c_8 => absurd c_8 (by decide)) (fun c_8 => ?_)
    refine lv_iload hx hb dX11_fullest_23 (lv_at hl 0 rfl) ?_
    refine lv_goto (tgt := 47) hx hb dX11_fullest_25 (by decide) ?_
    exact g_iret S hr hlk hG (by omega) dX11_fullest_47 ⟨Nat.le_of_ble_eq_true rfl, Nat.le_of_ble_eq_true rfl⟩ ⟨rfl, rfl, rfl⟩
  · refine lv_bipush (v := (-2)) hx hb dX11_fullest_7 (by decide) ?_
    exact g_iret S hr hlk hG (by omega) dX11_fullest_9 ⟨Nat.le_of_ble_eq_true rfl, Nat.le_of_ble_eq_true rfl⟩ ⟨rfl, rfl, rfl⟩
set_option maxHeartbeats 4000000 in
set_option maxRecDepth 100000 in
theorem qX11_stiffest (l : Launch) {D : va_G} {cy : Nat → ClassId} {b n : Nat} (hn : 105 ≤ n) {E : Nat → va_E} (h0 : E 0 = Z0 b cy) (h2 : E 2 = Z2 b cy)  (a1 : Int32) (a2 : Int32) : gI l yX11_stiffest cX11_stiffest 4 (some .int) 4 0 0 D cy b n E [.ref (b + 0), .int a1, .int a2] (fun r u => r = (-2) ∧ u.1 = n ∧ u.2 = E) := by
  refine gI_of (by decide) (Nat.le_of_ble_eq_true rfl) ?_
  intro p e s m args below meth c S hr hlk hin hsz ls hl hG
  have hx := S.1
  have hb := S.2.1
  have hl : lv_has ls 4 [(0, .ref (b + 0)), (1, .int a1), (2, .int a2)] := hl
  refine lv_aload_n hx hb dX11_stiffest_0 rfl (lv_at hl 0 rfl) ?_
  refine lv_iload_n hx hb dX11_stiffest_1 rfl (lv_at hl 1 rfl) ?_
  refine lv_iload_n hx hb dX11_stiffest_2 rfl (lv_at hl 2 rfl) ?_
  refine g_vi (As := [.int a1, .int a2]) (rest := []) S hG (by omega) (qX11_rolling l hn h0 h2 a1 a2) wV_11_315 h0 cpX11 (by omega) dX11_stiffest_3 rfl hl.1 (ar := 2) (by decide +kernel) rfl ⟨Nat.le_of_ble_eq_true rfl, Nat.le_of_ble_eq_true rfl, Nat.le_of_ble_eq_true rfl, Nat.le_of_ble_eq_true rfl⟩ (Nat.le_of_ble_eq_true rfl) (fun r_3 u_E_1 H locs hp_2 hG => ?_)
  obtain ⟨n_E_1, E_1⟩ := u_E_1
  dsimp only at hp_2 hG
  obtain ⟨rfl, nhp_2, ehp_2⟩ := hp_2
  have hG := gW_eq2 hG nhp_2 ehp_2
  refine lv_istore_n (lv' := [(3, .int (-2)), (0, .ref (b + 0)), (1, .int a1), (2, .int a2)]) hx hb dX11_stiffest_6 rfl hl (by decide) rfl (fun ls hl => ?_)
  refine lv_iload_n hx hb dX11_stiffest_7 rfl (lv_at hl 0 rfl) ?_
  refine lv_if_eq (tgt := 15) hx hb dX11_stiffest_8 (by decide) (fun c_4 => absurd c_4 (by decide)) (fun c_4 => ?_)
  refine lv_iload_n hx hb dX11_stiffest_11 rfl (lv_at hl 0 rfl) ?_
  refine lv_goto (tgt := 29) hx hb dX11_stiffest_12 (by decide) ?_
  exact g_iret S hr hlk hG (by omega) dX11_stiffest_29 ⟨Nat.le_of_ble_eq_true rfl, Nat.le_of_ble_eq_true rfl⟩ ⟨rfl, rfl, rfl⟩
set_option maxHeartbeats 4000000 in
set_option maxRecDepth 100000 in
theorem qX11_chance (l : Launch) {D : va_G} {cy : Nat → ClassId} {b n : Nat} (hn : 105 ≤ n) {E : Nat → va_E} (h0 : E 0 = Z0 b cy) (h2 : E 2 = Z2 b cy)  (a1 : Int32) (a2 : Int32) (a3 : Int32) (a4 : Int32) : gI l yX11_chance cX11_chance 6 (some .int) 2 0 0 D cy b n E [.ref (b + 0), .int a1, .int a2, .int a3, .int a4] (fun r u => r = (-2) ∧ u.1 = n ∧ u.2 = E) := by
  refine gI_of (by decide) (Nat.le_of_ble_eq_true rfl) ?_
  intro p e s m args below meth c S hr hlk hin hsz ls hl hG
  have hx := S.1
  have hb := S.2.1
  have hl : lv_has ls 6 [(0, .ref (b + 0)), (1, .int a1), (2, .int a2), (3, .int a3), (4, .int a4)] := hl
  refine lv_aload_n hx hb dX11_chance_0 rfl (lv_at hl 0 rfl) ?_
  refine lv_iload_n hx hb dX11_chance_1 rfl (lv_at hl 1 rfl) ?_
  refine lv_iload_n hx hb dX11_chance_2 rfl (lv_at hl 3 rfl) ?_
  refine g_vi (As := [.int a1, .int a3]) (rest := []) S hG (by omega) (qX11_termed l hn h0 h2 a1 a3) wV_11_228 h0 cpX11 (by omega) dX11_chance_3 rfl hl.1 (ar := 2) (by decide +kernel) rfl ⟨Nat.le_of_ble_eq_true rfl, Nat.le_of_ble_eq_true rfl, Nat.le_of_ble_eq_true rfl, Nat.le_of_ble_eq_true rfl⟩ (Nat.le_of_ble_eq_true rfl) (fun r_3 u_E_1 H locs hp_2 hG => ?_)
  obtain ⟨n_E_1, E_1⟩ := u_E_1
  dsimp only at hp_2 hG
  obtain ⟨rfl, nhp_2, ehp_2⟩ := hp_2
  have hG := gW_eq2 hG nhp_2 ehp_2
  refine lv_if_eq (tgt := 20) hx hb dX11_chance_6 (by decide) (fun c_4 => ?_) (fun c_4 => absurd c_4 (by decide))
  refine lv_bipush (v := (-2)) hx hb dX11_chance_20 (by decide) ?_
  exact g_iret S hr hlk hG (by omega) dX11_chance_22 ⟨Nat.le_of_ble_eq_true rfl, Nat.le_of_ble_eq_true rfl⟩ ⟨rfl, rfl, rfl⟩
set_option maxHeartbeats 4000000 in
set_option maxRecDepth 100000 in
theorem qX11_mean (l : Launch) {D : va_G} {cy : Nat → ClassId} {b n : Nat} (hn : 105 ≤ n) {E : Nat → va_E} (h0 : E 0 = Z0 b cy) (h2 : E 2 = Z2 b cy)  (a1 : Int32) (a2 : Int32) (a3 : Int32) (a4 : Int32) : gI l yX11_mean cX11_mean 6 (some .int) 4 0 0 D cy b n E [.ref (b + 0), .int a1, .int a2, .int a3, .int a4] (fun r u => r = (-2) ∧ u.1 = n ∧ u.2 = E) := by
  refine gI_of (by decide) (Nat.le_of_ble_eq_true rfl) ?_
  intro p e s m args below meth c S hr hlk hin hsz ls hl hG
  have hx := S.1
  have hb := S.2.1
  have hl : lv_has ls 6 [(0, .ref (b + 0)), (1, .int a1), (2, .int a2), (3, .int a3), (4, .int a4)] := hl
  refine lv_iload_n hx hb dX11_mean_0 rfl (lv_at hl 3 rfl) ?_
  refine g_si (As := [.int a3]) (rest := []) S hG (by omega) (qX11_lettered l hn  a3) wS_11_221 dX11_mean_1 rfl hl.1 (ar := 1) (by decide +kernel) rfl ⟨Nat.le_of_ble_eq_true rfl, Nat.le_of_ble_eq_true rfl, Nat.le_of_ble_eq_true rfl, Nat.le_of_ble_eq_true rfl⟩ (Nat.le_of_ble_eq_true rfl) (fun r_3 u_E_1 H locs hp_2 hG => ?_)
  obtain ⟨n_E_1, E_1⟩ := u_E_1
  dsimp only at hp_2 hG
  have hG := gW_eq2 hG hp_2.1 hp_2.2
  refine lv_if_eq (tgt := 18) hx hb dX11_mean_4 (by decide) (fun c_4 => ?_) (fun c_4 => ?_)
  · refine lv_bipush (v := (-2)) hx hb dX11_mean_18 (by decide) ?_
    exact g_iret S hr hlk hG (by omega) dX11_mean_20 ⟨Nat.le_of_ble_eq_true rfl, Nat.le_of_ble_eq_true rfl⟩ ⟨rfl, rfl, rfl⟩
  · refine lv_iload hx hb dX11_mean_7 (lv_at hl 4 rfl) ?_
    refine lv_if_lt (tgt := 18) hx hb dX11_mean_9 (by decide) (fun c_5 => ?_) (fun c_5 => ?_)
    · refine lv_bipush (v := (-2)) hx hb dX11_mean_18 (by decide) ?_
      exact g_iret S hr hlk hG (by omega) dX11_mean_20 ⟨Nat.le_of_ble_eq_true rfl, Nat.le_of_ble_eq_true rfl⟩ ⟨rfl, rfl, rfl⟩
    · refine lv_iload hx hb dX11_mean_12 (lv_at hl 4 rfl) ?_
      refine lv_iconst (v := 1) hx hb dX11_mean_14 (by decide) ?_
      refine lv_icmp_le (tgt := 21) hx hb dX11_mean_15 (by decide) (fun c_6 => ?_) (fun c_6 => ?_)
      · refine lv_aload_n hx hb dX11_mean_21 rfl (lv_at hl 0 rfl) ?_
        refine lv_iload_n hx hb dX11_mean_22 rfl (lv_at hl 1 rfl) ?_
        refine lv_iload_n hx hb dX11_mean_23 rfl (lv_at hl 2 rfl) ?_
        refine g_vi (As := [.int a1, .int a2]) (rest := []) S hG (by omega) (qX11_rolling l hn h0 h2 a1 a2) wV_11_315 h0 cpX11 (by omega) dX11_mean_24 rfl hl.1 (ar := 2) (by decide +kernel) rfl ⟨Nat.le_of_ble_eq_true rfl, Nat.le_of_ble_eq_true rfl, Nat.le_of_ble_eq_true rfl, Nat.le_of_ble_eq_true rfl⟩ (Nat.le_of_ble_eq_true rfl) (fun r_9 u_E_7 H locs hp_8 hG => ?_)
        obtain ⟨n_E_7, E_7⟩ := u_E_7
        dsimp only at hp_8 hG
        obtain ⟨rfl, nhp_8, ehp_8⟩ := hp_8
        have hG := gW_eq2 hG nhp_8 ehp_8
        refine lv_istore (lv' := [(5, .int (-2)), (0, .ref (b + 0)), (1, .int a1), (2, .int a2), (3, .int a3), (4, .int a4)]) hx hb dX11_mean_27 hl (by decide) rfl (fun ls hl => ?_)
        refine lv_iload hx hb dX11_mean_29 (lv_at hl 0 rfl) ?_
        refine lv_if_eq (tgt := 37) hx hb dX11_mean_31 (by decide) (fun c_10 => absurd c_10 (by decide)) (fun c_10 => ?_)
        refine lv_iload hx hb dX11_mean_34 (lv_at hl 0 rfl) ?_
        exact g_iret S hr hlk hG (by omega) dX11_mean_36 ⟨Nat.le_of_ble_eq_true rfl, Nat.le_of_ble_eq_true rfl⟩ ⟨rfl, rfl, rfl⟩
      · refine lv_bipush (v := (-2)) hx hb dX11_mean_18 (by decide) ?_
        exact g_iret S hr hlk hG (by omega) dX11_mean_20 ⟨Nat.le_of_ble_eq_true rfl, Nat.le_of_ble_eq_true rfl⟩ ⟨rfl, rfl, rfl⟩
set_option maxHeartbeats 4000000 in
set_option maxRecDepth 100000 in
theorem qX11_bits (l : Launch) {D : va_G} {cy : Nat → ClassId} {b n : Nat} (hn : 105 ≤ n) {E : Nat → va_E} (h0 : E 0 = Z0 b cy) (h2 : E 2 = Z2 b cy)  (a1 : Int32) (a2 : Int32) (a3 : Int32) : gI l yX11_bits cX11_bits 6 (some .int) 3 0 0 D cy b n E [.ref (b + 0), .int a1, .int a2, .int a3] (fun r u => r = (-2) ∧ u.1 = n ∧ u.2 = E) := by
  refine gI_of (by decide) (Nat.le_of_ble_eq_true rfl) ?_
  intro p e s m args below meth c S hr hlk hin hsz ls hl hG
  have hx := S.1
  have hb := S.2.1
  have hl : lv_has ls 6 [(0, .ref (b + 0)), (1, .int a1), (2, .int a2), (3, .int a3)] := hl
  refine lv_aload_n hx hb dX11_bits_0 rfl (lv_at hl 0 rfl) ?_
  refine lv_iload_n hx hb dX11_bits_1 rfl (lv_at hl 1 rfl) ?_
  refine lv_iload_n hx hb dX11_bits_2 rfl (lv_at hl 2 rfl) ?_
  refine lv_iload_n hx hb dX11_bits_3 rfl (lv_at hl 3 rfl) ?_
  refine g_vi (As := [.int a1, .int a2, .int a3]) (rest := []) S hG (by omega) (qX11_boxy l hn h0 h2 a1 a2 a3) wV_11_333 h0 cpX11 (by omega) dX11_bits_4 rfl hl.1 (ar := 3) (by decide +kernel) rfl ⟨Nat.le_of_ble_eq_true rfl, Nat.le_of_ble_eq_true rfl, Nat.le_of_ble_eq_true rfl, Nat.le_of_ble_eq_true rfl⟩ (Nat.le_of_ble_eq_true rfl) (fun r_3 u_E_1 H locs hp_2 hG => ?_)
  obtain ⟨n_E_1, E_1⟩ := u_E_1
  dsimp only at hp_2 hG
  obtain ⟨rfl, nhp_2, ehp_2⟩ := hp_2
  have hG := gW_eq2 hG nhp_2 ehp_2
  refine lv_if_ne (tgt := 13) hx hb dX11_bits_7 (by decide) (fun c_4 => absurd c_4 (by decide)) (fun c_4 => ?_)
  refine lv_bipush (v := (-2)) hx hb dX11_bits_10 (by decide) ?_
  exact g_iret S hr hlk hG (by omega) dX11_bits_12 ⟨Nat.le_of_ble_eq_true rfl, Nat.le_of_ble_eq_true rfl⟩ ⟨rfl, rfl, rfl⟩
set_option maxHeartbeats 4000000 in
set_option maxRecDepth 100000 in
theorem qX11_drawn (l : Launch) {D : va_G} {cy : Nat → ClassId} {b n : Nat} (hn : 105 ≤ n) {E : Nat → va_E} (h0 : E 0 = Z0 b cy) (h2 : E 2 = Z2 b cy)  (a1 : Int32) (a2 : Int32) (a3 : Int32) (a4 : Int32) (a5 : Int32) : gI l yX11_drawn cX11_drawn 10 (some .int) 3 0 0 D cy b n E [.ref (b + 0), .int a1, .int a2, .int a3, .int a4, .int a5] (fun r u => r = (-2) ∧ u.1 = n ∧ u.2 = E) := by
  refine gI_of (by decide) (Nat.le_of_ble_eq_true rfl) ?_
  intro p e s m args below meth c S hr hlk hin hsz ls hl hG
  have hx := S.1
  have hb := S.2.1
  have hl : lv_has ls 10 [(0, .ref (b + 0)), (1, .int a1), (2, .int a2), (3, .int a3), (4, .int a4), (5, .int a5)] := hl
  refine lv_aload_n hx hb dX11_drawn_0 rfl (lv_at hl 0 rfl) ?_
  refine lv_iload_n hx hb dX11_drawn_1 rfl (lv_at hl 1 rfl) ?_
  refine lv_iload_n hx hb dX11_drawn_2 rfl (lv_at hl 2 rfl) ?_
  refine lv_iload_n hx hb dX11_drawn_3 rfl (lv_at hl 3 rfl) ?_
  refine g_vi (As := [.int a1, .int a2, .int a3]) (rest := []) S hG (by omega) (qX11_boxy l hn h0 h2 a1 a2 a3) wV_11_333 h0 cpX11 (by omega) dX11_drawn_4 rfl hl.1 (ar := 3) (by decide +kernel) rfl ⟨Nat.le_of_ble_eq_true rfl, Nat.le_of_ble_eq_true rfl, Nat.le_of_ble_eq_true rfl, Nat.le_of_ble_eq_true rfl⟩ (Nat.le_of_ble_eq_true rfl) (fun r_3 u_E_1 H locs hp_2 hG => ?_)
  obtain ⟨n_E_1, E_1⟩ := u_E_1
  dsimp only at hp_2 hG
  obtain ⟨rfl, nhp_2, ehp_2⟩ := hp_2
  have hG := gW_eq2 hG nhp_2 ehp_2
  refine lv_if_eq (tgt := 34) hx hb dX11_drawn_7 (by decide) (fun c_4 => ?_) (fun c_4 => absurd c_4 (by decide))
  refine lv_bipush (v := (-2)) hx hb dX11_drawn_34 (by decide) ?_
  exact g_iret S hr hlk hG (by omega) dX11_drawn_36 ⟨Nat.le_of_ble_eq_true rfl, Nat.le_of_ble_eq_true rfl⟩ ⟨rfl, rfl, rfl⟩
set_option maxHeartbeats 4000000 in
set_option maxRecDepth 100000 in
theorem qX11_deal (l : Launch) {D : va_G} {cy : Nat → ClassId} {b n : Nat} (hn : 105 ≤ n) {E : Nat → va_E} (h0 : E 0 = Z0 b cy) (h2 : E 2 = Z2 b cy)  (a1 : Int32) (a2 : Int32) (a3 : Int32) (a4 : Int32) : gI l yX11_deal cX11_deal 7 (some .int) 3 0 0 D cy b n E [.ref (b + 0), .int a1, .int a2, .int a3, .int a4] (fun r u => r = (-2) ∧ u.1 = n ∧ u.2 = E) := by
  refine gI_of (by decide) (Nat.le_of_ble_eq_true rfl) ?_
  intro p e s m args below meth c S hr hlk hin hsz ls hl hG
  have hx := S.1
  have hb := S.2.1
  have hl : lv_has ls 7 [(0, .ref (b + 0)), (1, .int a1), (2, .int a2), (3, .int a3), (4, .int a4)] := hl
  refine lv_aload_n hx hb dX11_deal_0 rfl (lv_at hl 0 rfl) ?_
  refine lv_iload_n hx hb dX11_deal_1 rfl (lv_at hl 1 rfl) ?_
  refine lv_iload_n hx hb dX11_deal_2 rfl (lv_at hl 2 rfl) ?_
  refine lv_iload_n hx hb dX11_deal_3 rfl (lv_at hl 3 rfl) ?_
  refine g_vi (As := [.int a1, .int a2, .int a3]) (rest := []) S hG (by omega) (qX11_boxy l hn h0 h2 a1 a2 a3) wV_11_333 h0 cpX11 (by omega) dX11_deal_4 rfl hl.1 (ar := 3) (by decide +kernel) rfl ⟨Nat.le_of_ble_eq_true rfl, Nat.le_of_ble_eq_true rfl, Nat.le_of_ble_eq_true rfl, Nat.le_of_ble_eq_true rfl⟩ (Nat.le_of_ble_eq_true rfl) (fun r_3 u_E_1 H locs hp_2 hG => ?_)
  obtain ⟨n_E_1, E_1⟩ := u_E_1
  dsimp only at hp_2 hG
  obtain ⟨rfl, nhp_2, ehp_2⟩ := hp_2
  have hG := gW_eq2 hG nhp_2 ehp_2
  refine lv_if_eq (tgt := 23) hx hb dX11_deal_7 (by decide) (fun c_4 => ?_) (fun c_4 => absurd c_4 (by decide))
  refine lv_bipush (v := (-2)) hx hb dX11_deal_23 (by decide) ?_
  exact g_iret S hr hlk hG (by omega) dX11_deal_25 ⟨Nat.le_of_ble_eq_true rfl, Nat.le_of_ble_eq_true rfl⟩ ⟨rfl, rfl, rfl⟩
set_option maxHeartbeats 4000000 in
set_option maxRecDepth 100000 in
theorem qX11_takes (l : Launch) {D : va_G} {cy : Nat → ClassId} {b n : Nat} (hn : 105 ≤ n) {E : Nat → va_E} (h0 : E 0 = Z0 b cy) (h2 : E 2 = Z2 b cy)  (a1 : Int32) (a2 : Int32) : gI l yX11_takes cX11_takes 3 (some .int) 2 0 0 D cy b n E [.ref (b + 0), .int a1, .int a2] (fun r u => r = (-2) ∧ u.1 = n ∧ u.2 = E) := by
  refine gI_of (by decide) (Nat.le_of_ble_eq_true rfl) ?_
  intro p e s m args below meth c S hr hlk hin hsz ls hl hG
  have hx := S.1
  have hb := S.2.1
  have hl : lv_has ls 3 [(0, .ref (b + 0)), (1, .int a1), (2, .int a2)] := hl
  refine lv_aload_n hx hb dX11_takes_0 rfl (lv_at hl 0 rfl) ?_
  refine lv_iload_n hx hb dX11_takes_1 rfl (lv_at hl 1 rfl) ?_
  refine lv_iload_n hx hb dX11_takes_2 rfl (lv_at hl 2 rfl) ?_
  refine g_vi (As := [.int a1, .int a2]) (rest := []) S hG (by omega) (qX11_termed l hn h0 h2 a1 a2) wV_11_228 h0 cpX11 (by omega) dX11_takes_3 rfl hl.1 (ar := 2) (by decide +kernel) rfl ⟨Nat.le_of_ble_eq_true rfl, Nat.le_of_ble_eq_true rfl, Nat.le_of_ble_eq_true rfl, Nat.le_of_ble_eq_true rfl⟩ (Nat.le_of_ble_eq_true rfl) (fun r_3 u_E_1 H locs hp_2 hG => ?_)
  obtain ⟨n_E_1, E_1⟩ := u_E_1
  dsimp only at hp_2 hG
  obtain ⟨rfl, nhp_2, ehp_2⟩ := hp_2
  have hG := gW_eq2 hG nhp_2 ehp_2
  refine lv_if_ne (tgt := 12) hx hb dX11_takes_6 (by decide) (fun c_4 => absurd c_4 (by decide)) (fun c_4 => ?_)
  refine lv_bipush (v := (-2)) hx hb dX11_takes_9 (by decide) ?_
  exact g_iret S hr hlk hG (by omega) dX11_takes_11 ⟨Nat.le_of_ble_eq_true rfl, Nat.le_of_ble_eq_true rfl⟩ ⟨rfl, rfl, rfl⟩
set_option maxHeartbeats 4000000 in
set_option maxRecDepth 100000 in
theorem qX11_undo (l : Launch) {D : va_G} {cy : Nat → ClassId} {b n : Nat} (hn : 105 ≤ n) {E : Nat → va_E} (h0 : E 0 = Z0 b cy) (h2 : E 2 = Z2 b cy)   : gI l yX11_undo cX11_undo 1 (some .int) 0 0 0 D cy b n E [.ref (b + 0)] (fun r u => r = (-2) ∧ u.1 = n ∧ u.2 = E) := by
  refine gI_of (by decide) (Nat.le_of_ble_eq_true rfl) ?_
  intro p e s m args below meth c S hr hlk hin hsz ls hl hG
  have hx := S.1
  have hb := S.2.1
  have hl : lv_has ls 1 [(0, .ref (b + 0))] := hl
  refine lv_aload_n hx hb dX11_undo_0 rfl (lv_at hl 0 rfl) ?_
  refine g_get S hG 0 2 h0 cpX11 wm_668 dX11_undo_1 rfl (by omega) (by decide) ?_
  refine g_get S hG 2 2 h2 cpX2 wm_224 dX11_undo_4 rfl (by omega) (by decide) ?_
  refine lv_if_ne (tgt := 13) hx hb dX11_undo_7 (by decide) (fun c_1 => absurd c_1 (by decide)) (fun c_1 => ?_)
  refine lv_bipush (v := (-2)) hx hb dX11_undo_10 (by decide) ?_
  exact g_iret S hr hlk hG (by omega) dX11_undo_12 ⟨Nat.le_of_ble_eq_true rfl, Nat.le_of_ble_eq_true rfl⟩ ⟨rfl, rfl, rfl⟩
set_option maxHeartbeats 4000000 in
set_option maxRecDepth 100000 in
theorem qX11_anew (l : Launch) {D : va_G} {cy : Nat → ClassId} {b n : Nat} (hn : 105 ≤ n) {E : Nat → va_E} (h0 : E 0 = Z0 b cy) (h2 : E 2 = Z2 b cy)   : gI l yX11_anew cX11_anew 3 (some .int) 0 0 0 D cy b n E [.ref (b + 0)] (fun r u => r = (-2) ∧ u.1 = n ∧ u.2 = E) := by
  refine gI_of (by decide) (Nat.le_of_ble_eq_true rfl) ?_
  intro p e s m args below meth c S hr hlk hin hsz ls hl hG
  have hx := S.1
  have hb := S.2.1
  have hl : lv_has ls 3 [(0, .ref (b + 0))] := hl
  refine lv_aload_n hx hb dX11_anew_0 rfl (lv_at hl 0 rfl) ?_
  refine g_get S hG 0 2 h0 cpX11 wm_668 dX11_anew_1 rfl (by omega) (by decide) ?_
  refine g_get S hG 2 2 h2 cpX2 wm_224 dX11_anew_4 rfl (by omega) (by decide) ?_
  refine lv_if_ne (tgt := 13) hx hb dX11_anew_7 (by decide) (fun c_1 => absurd c_1 (by decide)) (fun c_1 => ?_)
  refine lv_bipush (v := (-2)) hx hb dX11_anew_10 (by decide) ?_
  exact g_iret S hr hlk hG (by omega) dX11_anew_12 ⟨Nat.le_of_ble_eq_true rfl, Nat.le_of_ble_eq_true rfl⟩ ⟨rfl, rfl, rfl⟩
set_option maxHeartbeats 4000000 in
set_option maxRecDepth 100000 in
theorem qX1_next (l : Launch) {D : va_G} {cy : Nat → ClassId} {b n : Nat} (hn : 105 ≤ n) {E : Nat → va_E} (h80 : E 80 = Z80 b cy)   : gI l yX1_next cX1_next 2 (some .int) 0 0 0 D cy b n E [.ref (b + 80)] (fun r u => r = (-1) ∧ u.1 = n ∧ u.2 = E) := by
  refine gI_of (by decide) (Nat.le_of_ble_eq_true rfl) ?_
  intro p e s m args below meth c S hr hlk hin hsz ls hl hG
  have hx := S.1
  have hb := S.2.1
  have hl : lv_has ls 2 [(0, .ref (b + 80))] := hl
  refine lv_aload_n hx hb dX1_next_0 rfl (lv_at hl 0 rfl) ?_
  refine g_get S hG 80 1 h80 cpX1 wm_644 dX1_next_1 rfl (by omega) (by decide) ?_
  refine lv_if_ne (tgt := 9) hx hb dX1_next_4 (by decide) (fun c_1 => absurd c_1 (by decide)) (fun c_1 => ?_)
  refine lv_iconst (v := (-1)) hx hb dX1_next_7 (by decide) ?_
  exact g_iret S hr hlk hG (by omega) dX1_next_8 ⟨Nat.le_of_ble_eq_true rfl, Nat.le_of_ble_eq_true rfl⟩ ⟨rfl, rfl, rfl⟩
theorem wV_11_361 : gWV "GrownKinds" 361 yX1_next cX1_next 2 (some .int) := ⟨wm_1627, wm_1628, wm_1629, wm_186, wm_1630, by decide +kernel, by decide +kernel⟩
set_option maxHeartbeats 4000000 in
set_option maxRecDepth 100000 in
theorem qX11_dealt (l : Launch) {D : va_G} {cy : Nat → ClassId} {b n : Nat} (hn : 105 ≤ n) {E : Nat → va_E} (h0 : E 0 = Z0 b cy) (h80 : E 80 = Z80 b cy)   : gI l yX11_dealt cX11_dealt 1 (some .int) 1 0 0 D cy b n E [.ref (b + 0)] (fun r u => r = (-1) ∧ u.1 = n ∧ u.2 = E) := by
  refine gI_of (by decide) (Nat.le_of_ble_eq_true rfl) ?_
  intro p e s m args below meth c S hr hlk hin hsz ls hl hG
  have hx := S.1
  have hb := S.2.1
  have hl : lv_has ls 1 [(0, .ref (b + 0))] := hl
  refine lv_aload_n hx hb dX11_dealt_0 rfl (lv_at hl 0 rfl) ?_
  refine g_get S hG 0 12 h0 cpX11 wm_678 dX11_dealt_1 rfl (by omega) (by decide) ?_
  refine g_vi (As := []) (rest := []) S hG (by omega) (qX1_next l hn h80 ) wV_11_361 h80 cpX1 (by omega) dX11_dealt_4 rfl hl.1 (ar := 0) (by decide +kernel) rfl ⟨Nat.le_of_ble_eq_true rfl, Nat.le_of_ble_eq_true rfl, Nat.le_of_ble_eq_true rfl, Nat.le_of_ble_eq_true rfl⟩ (Nat.le_of_ble_eq_true rfl) (fun r_3 u_E_1 H locs hp_2 hG => ?_)
  obtain ⟨n_E_1, E_1⟩ := u_E_1
  dsimp only at hp_2 hG
  obtain ⟨rfl, nhp_2, ehp_2⟩ := hp_2
  have hG := gW_eq2 hG nhp_2 ehp_2
  exact g_iret S hr hlk hG (by omega) dX11_dealt_7 ⟨Nat.le_of_ble_eq_true rfl, Nat.le_of_ble_eq_true rfl⟩ ⟨rfl, rfl, rfl⟩
set_option maxHeartbeats 4000000 in
set_option maxRecDepth 100000 in
theorem qX11_left (l : Launch) {D : va_G} {cy : Nat → ClassId} {b n : Nat} (hn : 105 ≤ n) {E : Nat → va_E} (h0 : E 0 = Z0 b cy) (h80 : E 80 = Z80 b cy)   : gI l yX11_left cX11_left 1 (some .int) 0 0 0 D cy b n E [.ref (b + 0)] (fun r u => r = 0 ∧ u.1 = n ∧ u.2 = E) := by
  refine gI_of (by decide) (Nat.le_of_ble_eq_true rfl) ?_
  intro p e s m args below meth c S hr hlk hin hsz ls hl hG
  have hx := S.1
  have hb := S.2.1
  have hl : lv_has ls 1 [(0, .ref (b + 0))] := hl
  refine lv_aload_n hx hb dX11_left_0 rfl (lv_at hl 0 rfl) ?_
  refine g_get S hG 0 12 h0 cpX11 wm_678 dX11_left_1 rfl (by omega) (by decide) ?_
  refine g_get S hG 80 1 h80 cpX1 wm_645 dX11_left_4 rfl (by omega) (by decide) ?_
  exact g_iret S hr hlk hG (by omega) dX11_left_7 ⟨Nat.le_of_ble_eq_true rfl, Nat.le_of_ble_eq_true rfl⟩ ⟨rfl, rfl, rfl⟩
theorem wS_12_97 : gWS "GrownKindsModel" 97 yX12_in cX12_in 6 (some .boolean) := ⟨wm_1839, wm_1840, wm_187, wm_1841, by decide +kernel, by decide +kernel⟩
set_option maxHeartbeats 4000000 in
set_option maxRecDepth 100000 in
theorem qX12_isKind (l : Launch) {D : va_G} {cy : Nat → ClassId} {b n : Nat} (hn : 105 ≤ n) {E : Nat → va_E} (h83 : E 83 = Z83 b cy) (h84 : E 84 = Z84 b cy)  (a1 : Int32) : gI l yX12_isKind cX12_isKind 2 (some .boolean) 1 0 0 D cy b n E [.ref (b + 83), .int a1] (fun r u => r = 0 ∧ u.1 = n ∧ u.2 = E) := by
  refine gI_of (by decide) (Nat.le_of_ble_eq_true rfl) ?_
  intro p e s m args below meth c S hr hlk hin hsz ls hl hG
  have hx := S.1
  have hb := S.2.1
  have hl : lv_has ls 2 [(0, .ref (b + 83)), (1, .int a1)] := hl
  refine lv_iload_n hx hb dX12_isKind_0 rfl (lv_at hl 1 rfl) ?_
  refine lv_i2l hx hb dX12_isKind_1 rfl ?_
  refine lv_lconst (v := 0) hx hb dX12_isKind_2 (by decide) ?_
  refine lv_aload_n hx hb dX12_isKind_3 rfl (lv_at hl 0 rfl) ?_
  refine g_get S hG 83 0 h83 cpX12 wm_1674 dX12_isKind_4 rfl (by omega) (by decide) ?_
  refine lv_iconst (v := 0) hx hb dX12_isKind_7 (by decide) ?_
  refine g_iald S hG 84 h84 (by omega) dX12_isKind_8 (by unfold vp_in; decide) ?_
  refine lv_topi (fun x_1 ex_1 => ?_)
  obtain rfl : x_1 = 0 := ex_1.trans (by decide)
  refine lv_iconst (v := 1) hx hb dX12_isKind_9 (by decide) ?_
  refine lv_isub hx hb dX12_isKind_10 ?_
  refine lv_topi (fun x_2 ex_2 => ?_)
  obtain rfl : x_2 = (-1) := ex_2.trans (by decide)
  refine lv_i2l (v := (-1)) hx hb dX12_isKind_11 (by decide) ?_
  refine g_si (As := [.long (Int32.toInt64 a1), .long 0, .long (-1)]) (rest := []) S hG (by omega) (qX12_in l hn  (Int32.toInt64 a1) 0 (-1)) wS_12_97 dX12_isKind_12 rfl hl.1 (ar := 3) (by decide +kernel) rfl ⟨Nat.le_of_ble_eq_true rfl, Nat.le_of_ble_eq_true rfl, Nat.le_of_ble_eq_true rfl, Nat.le_of_ble_eq_true rfl⟩ (Nat.le_of_ble_eq_true rfl) (fun r_5 u_E_3 H locs hp_4 hG => ?_)
  obtain ⟨n_E_3, E_3⟩ := u_E_3
  dsimp only at hp_4 hG
  obtain ⟨hr_6, nhp_4, ehp_4⟩ := hp_4
  have hG := gW_eq2 hG nhp_4 ehp_4
  obtain rfl : r_5 = 0 := hr_6.trans (if_neg (fun h => absurd (Int64.le_trans h.1 h.2) (by decide)))
  exact g_zret S hr hlk hG (by omega) dX12_isKind_15 ⟨Nat.le_of_ble_eq_true rfl, Nat.le_of_ble_eq_true rfl⟩ rfl ⟨rfl, rfl, rfl⟩
theorem wV_12_225 : gWV "GrownKindsModel" 225 yX12_isKind cX12_isKind 2 (some .boolean) := ⟨wm_1982, wm_1984, wm_112, wm_187, wm_1985, by decide +kernel, by decide +kernel⟩
set_option maxHeartbeats 4000000 in
set_option maxRecDepth 100000 in
theorem qX12_isTerm (l : Launch) {D : va_G} {cy : Nat → ClassId} {b n : Nat} (hn : 105 ≤ n) {E : Nat → va_E} (h83 : E 83 = Z83 b cy) (h84 : E 84 = Z84 b cy)  (a1 : Int32) (a2 : Int32) : gI l yX12_isTerm cX12_isTerm 3 (some .boolean) 2 0 0 D cy b n E [.ref (b + 83), .int a1, .int a2] (fun r u => r = 0 ∧ u.1 = n ∧ u.2 = E) := by
  refine gI_of (by decide) (Nat.le_of_ble_eq_true rfl) ?_
  intro p e s m args below meth c S hr hlk hin hsz ls hl hG
  have hx := S.1
  have hb := S.2.1
  have hl : lv_has ls 3 [(0, .ref (b + 83)), (1, .int a1), (2, .int a2)] := hl
  refine lv_aload_n hx hb dX12_isTerm_0 rfl (lv_at hl 0 rfl) ?_
  refine lv_iload_n hx hb dX12_isTerm_1 rfl (lv_at hl 1 rfl) ?_
  refine g_vi (As := [.int a1]) (rest := []) S hG (by omega) (qX12_isKind l hn h83 h84 a1) wV_12_225 h83 cpX12 (by omega) dX12_isTerm_2 rfl hl.1 (ar := 1) (by decide +kernel) rfl ⟨Nat.le_of_ble_eq_true rfl, Nat.le_of_ble_eq_true rfl, Nat.le_of_ble_eq_true rfl, Nat.le_of_ble_eq_true rfl⟩ (Nat.le_of_ble_eq_true rfl) (fun r_3 u_E_1 H locs hp_2 hG => ?_)
  obtain ⟨n_E_1, E_1⟩ := u_E_1
  dsimp only at hp_2 hG
  obtain ⟨rfl, nhp_2, ehp_2⟩ := hp_2
  have hG := gW_eq2 hG nhp_2 ehp_2
  refine lv_if_eq (tgt := 34) hx hb dX12_isTerm_5 (by decide) (fun c_4 => ?_) (fun c_4 => absurd c_4 (by decide))
  refine lv_iconst (v := 0) hx hb dX12_isTerm_34 (by decide) ?_
  exact g_zret S hr hlk hG (by omega) dX12_isTerm_35 ⟨Nat.le_of_ble_eq_true rfl, Nat.le_of_ble_eq_true rfl⟩ rfl ⟨rfl, rfl, rfl⟩
set_option maxHeartbeats 4000000 in
set_option maxRecDepth 100000 in
theorem qX12_terms (l : Launch) {D : va_G} {cy : Nat → ClassId} {b n : Nat} (hn : 105 ≤ n) {E : Nat → va_E} (h83 : E 83 = Z83 b cy) (h84 : E 84 = Z84 b cy)  (a1 : Int32) : gI l yX12_terms cX12_terms 2 (some .int) 2 0 0 D cy b n E [.ref (b + 83), .int a1] (fun r u => r = (-2) ∧ u.1 = n ∧ u.2 = E) := by
  refine gI_of (by decide) (Nat.le_of_ble_eq_true rfl) ?_
  intro p e s m args below meth c S hr hlk hin hsz ls hl hG
  have hx := S.1
  have hb := S.2.1
  have hl : lv_has ls 2 [(0, .ref (b + 83)), (1, .int a1)] := hl
  refine lv_aload_n hx hb dX12_terms_0 rfl (lv_at hl 0 rfl) ?_
  refine lv_iload_n hx hb dX12_terms_1 rfl (lv_at hl 1 rfl) ?_
  refine g_vi (As := [.int a1]) (rest := []) S hG (by omega) (qX12_isKind l hn h83 h84 a1) wV_12_225 h83 cpX12 (by omega) dX12_terms_2 rfl hl.1 (ar := 1) (by decide +kernel) rfl ⟨Nat.le_of_ble_eq_true rfl, Nat.le_of_ble_eq_true rfl, Nat.le_of_ble_eq_true rfl, Nat.le_of_ble_eq_true rfl⟩ (Nat.le_of_ble_eq_true rfl) (fun r_3 u_E_1 H locs hp_2 hG => ?_)
  obtain ⟨n_E_1, E_1⟩ := u_E_1
  dsimp only at hp_2 hG
  obtain ⟨rfl, nhp_2, ehp_2⟩ := hp_2
  have hG := gW_eq2 hG nhp_2 ehp_2
  refine lv_if_eq (tgt := 21) hx hb dX12_terms_5 (by decide) (fun c_4 => ?_) (fun c_4 => absurd c_4 (by decide))
  refine lv_bipush (v := (-2)) hx hb dX12_terms_21 (by decide) ?_
  exact g_iret S hr hlk hG (by omega) dX12_terms_23 ⟨Nat.le_of_ble_eq_true rfl, Nat.le_of_ble_eq_true rfl⟩ ⟨rfl, rfl, rfl⟩
set_option maxHeartbeats 4000000 in
set_option maxRecDepth 100000 in
theorem qX12_off (l : Launch) {D : va_G} {cy : Nat → ClassId} {b n : Nat} (hn : 105 ≤ n) {E : Nat → va_E} (h83 : E 83 = Z83 b cy) (h84 : E 84 = Z84 b cy)  (a1 : Int32) : gI l yX12_off cX12_off 2 (some .int) 2 0 0 D cy b n E [.ref (b + 83), .int a1] (fun r u => r = (-2) ∧ u.1 = n ∧ u.2 = E) := by
  refine gI_of (by decide) (Nat.le_of_ble_eq_true rfl) ?_
  intro p e s m args below meth c S hr hlk hin hsz ls hl hG
  have hx := S.1
  have hb := S.2.1
  have hl : lv_has ls 2 [(0, .ref (b + 83)), (1, .int a1)] := hl
  refine lv_aload_n hx hb dX12_off_0 rfl (lv_at hl 0 rfl) ?_
  refine lv_iload_n hx hb dX12_off_1 rfl (lv_at hl 1 rfl) ?_
  refine g_vi (As := [.int a1]) (rest := []) S hG (by omega) (qX12_isKind l hn h83 h84 a1) wV_12_225 h83 cpX12 (by omega) dX12_off_2 rfl hl.1 (ar := 1) (by decide +kernel) rfl ⟨Nat.le_of_ble_eq_true rfl, Nat.le_of_ble_eq_true rfl, Nat.le_of_ble_eq_true rfl, Nat.le_of_ble_eq_true rfl⟩ (Nat.le_of_ble_eq_true rfl) (fun r_3 u_E_1 H locs hp_2 hG => ?_)
  obtain ⟨n_E_1, E_1⟩ := u_E_1
  dsimp only at hp_2 hG
  obtain ⟨rfl, nhp_2, ehp_2⟩ := hp_2
  have hG := gW_eq2 hG nhp_2 ehp_2
  refine lv_if_eq (tgt := 20) hx hb dX12_off_5 (by decide) (fun c_4 => ?_) (fun c_4 => absurd c_4 (by decide))
  refine lv_bipush (v := (-2)) hx hb dX12_off_20 (by decide) ?_
  exact g_iret S hr hlk hG (by omega) dX12_off_22 ⟨Nat.le_of_ble_eq_true rfl, Nat.le_of_ble_eq_true rfl⟩ ⟨rfl, rfl, rfl⟩
set_option maxHeartbeats 4000000 in
set_option maxRecDepth 100000 in
theorem qX12_letters (l : Launch) {D : va_G} {cy : Nat → ClassId} {b n : Nat} (hn : 105 ≤ n) {E : Nat → va_E} (h83 : E 83 = Z83 b cy) (h84 : E 84 = Z84 b cy)  (a1 : Int32) : gI l yX12_letters cX12_letters 2 (some .int) 2 0 0 D cy b n E [.ref (b + 83), .int a1] (fun r u => r = (-2) ∧ u.1 = n ∧ u.2 = E) := by
  refine gI_of (by decide) (Nat.le_of_ble_eq_true rfl) ?_
  intro p e s m args below meth c S hr hlk hin hsz ls hl hG
  have hx := S.1
  have hb := S.2.1
  have hl : lv_has ls 2 [(0, .ref (b + 83)), (1, .int a1)] := hl
  refine lv_aload_n hx hb dX12_letters_0 rfl (lv_at hl 0 rfl) ?_
  refine lv_iload_n hx hb dX12_letters_1 rfl (lv_at hl 1 rfl) ?_
  refine g_vi (As := [.int a1]) (rest := []) S hG (by omega) (qX12_isKind l hn h83 h84 a1) wV_12_225 h83 cpX12 (by omega) dX12_letters_2 rfl hl.1 (ar := 1) (by decide +kernel) rfl ⟨Nat.le_of_ble_eq_true rfl, Nat.le_of_ble_eq_true rfl, Nat.le_of_ble_eq_true rfl, Nat.le_of_ble_eq_true rfl⟩ (Nat.le_of_ble_eq_true rfl) (fun r_3 u_E_1 H locs hp_2 hG => ?_)
  obtain ⟨n_E_1, E_1⟩ := u_E_1
  dsimp only at hp_2 hG
  obtain ⟨rfl, nhp_2, ehp_2⟩ := hp_2
  have hG := gW_eq2 hG nhp_2 ehp_2
  refine lv_if_eq (tgt := 17) hx hb dX12_letters_5 (by decide) (fun c_4 => ?_) (fun c_4 => absurd c_4 (by decide))
  refine lv_bipush (v := (-2)) hx hb dX12_letters_17 (by decide) ?_
  exact g_iret S hr hlk hG (by omega) dX12_letters_19 ⟨Nat.le_of_ble_eq_true rfl, Nat.le_of_ble_eq_true rfl⟩ ⟨rfl, rfl, rfl⟩
set_option maxHeartbeats 4000000 in
set_option maxRecDepth 100000 in
theorem qX12_uses (l : Launch) {D : va_G} {cy : Nat → ClassId} {b n : Nat} (hn : 105 ≤ n) {E : Nat → va_E} (h83 : E 83 = Z83 b cy) (h84 : E 84 = Z84 b cy)  (a1 : Int32) : gI l yX12_uses cX12_uses 2 (some .int) 2 0 0 D cy b n E [.ref (b + 83), .int a1] (fun r u => r = (-2) ∧ u.1 = n ∧ u.2 = E) := by
  refine gI_of (by decide) (Nat.le_of_ble_eq_true rfl) ?_
  intro p e s m args below meth c S hr hlk hin hsz ls hl hG
  have hx := S.1
  have hb := S.2.1
  have hl : lv_has ls 2 [(0, .ref (b + 83)), (1, .int a1)] := hl
  refine lv_aload_n hx hb dX12_uses_0 rfl (lv_at hl 0 rfl) ?_
  refine lv_iload_n hx hb dX12_uses_1 rfl (lv_at hl 1 rfl) ?_
  refine g_vi (As := [.int a1]) (rest := []) S hG (by omega) (qX12_isKind l hn h83 h84 a1) wV_12_225 h83 cpX12 (by omega) dX12_uses_2 rfl hl.1 (ar := 1) (by decide +kernel) rfl ⟨Nat.le_of_ble_eq_true rfl, Nat.le_of_ble_eq_true rfl, Nat.le_of_ble_eq_true rfl, Nat.le_of_ble_eq_true rfl⟩ (Nat.le_of_ble_eq_true rfl) (fun r_3 u_E_1 H locs hp_2 hG => ?_)
  obtain ⟨n_E_1, E_1⟩ := u_E_1
  dsimp only at hp_2 hG
  obtain ⟨rfl, nhp_2, ehp_2⟩ := hp_2
  have hG := gW_eq2 hG nhp_2 ehp_2
  refine lv_if_eq (tgt := 17) hx hb dX12_uses_5 (by decide) (fun c_4 => ?_) (fun c_4 => absurd c_4 (by decide))
  refine lv_bipush (v := (-2)) hx hb dX12_uses_17 (by decide) ?_
  exact g_iret S hr hlk hG (by omega) dX12_uses_19 ⟨Nat.le_of_ble_eq_true rfl, Nat.le_of_ble_eq_true rfl⟩ ⟨rfl, rfl, rfl⟩
set_option maxHeartbeats 4000000 in
set_option maxRecDepth 100000 in
theorem qX12_reaches (l : Launch) {D : va_G} {cy : Nat → ClassId} {b n : Nat} (hn : 105 ≤ n) {E : Nat → va_E} (h83 : E 83 = Z83 b cy) (h84 : E 84 = Z84 b cy)  (a1 : Int32) : gI l yX12_reaches cX12_reaches 5 (some .int) 2 0 0 D cy b n E [.ref (b + 83), .int a1] (fun r u => r = (-2) ∧ u.1 = n ∧ u.2 = E) := by
  refine gI_of (by decide) (Nat.le_of_ble_eq_true rfl) ?_
  intro p e s m args below meth c S hr hlk hin hsz ls hl hG
  have hx := S.1
  have hb := S.2.1
  have hl : lv_has ls 5 [(0, .ref (b + 83)), (1, .int a1)] := hl
  refine lv_aload_n hx hb dX12_reaches_0 rfl (lv_at hl 0 rfl) ?_
  refine lv_iload_n hx hb dX12_reaches_1 rfl (lv_at hl 1 rfl) ?_
  refine g_vi (As := [.int a1]) (rest := []) S hG (by omega) (qX12_isKind l hn h83 h84 a1) wV_12_225 h83 cpX12 (by omega) dX12_reaches_2 rfl hl.1 (ar := 1) (by decide +kernel) rfl ⟨Nat.le_of_ble_eq_true rfl, Nat.le_of_ble_eq_true rfl, Nat.le_of_ble_eq_true rfl, Nat.le_of_ble_eq_true rfl⟩ (Nat.le_of_ble_eq_true rfl) (fun r_3 u_E_1 H locs hp_2 hG => ?_)
  obtain ⟨n_E_1, E_1⟩ := u_E_1
  dsimp only at hp_2 hG
  obtain ⟨rfl, nhp_2, ehp_2⟩ := hp_2
  have hG := gW_eq2 hG nhp_2 ehp_2
  refine lv_if_ne (tgt := 11) hx hb dX12_reaches_5 (by decide) (fun c_4 => absurd c_4 (by decide)) (fun c_4 => ?_)
  refine lv_bipush (v := (-2)) hx hb dX12_reaches_8 (by decide) ?_
  exact g_iret S hr hlk hG (by omega) dX12_reaches_10 ⟨Nat.le_of_ble_eq_true rfl, Nat.le_of_ble_eq_true rfl⟩ ⟨rfl, rfl, rfl⟩
set_option maxHeartbeats 4000000 in
set_option maxRecDepth 100000 in
theorem qX12_empty (l : Launch) {D : va_G} {cy : Nat → ClassId} {b n : Nat} (hn : 105 ≤ n) {E : Nat → va_E} (h83 : E 83 = Z83 b cy) (h84 : E 84 = Z84 b cy)  (a1 : Int32) : gI l yX12_empty cX12_empty 2 (some .int) 2 0 0 D cy b n E [.ref (b + 83), .int a1] (fun r u => r = (-2) ∧ u.1 = n ∧ u.2 = E) := by
  refine gI_of (by decide) (Nat.le_of_ble_eq_true rfl) ?_
  intro p e s m args below meth c S hr hlk hin hsz ls hl hG
  have hx := S.1
  have hb := S.2.1
  have hl : lv_has ls 2 [(0, .ref (b + 83)), (1, .int a1)] := hl
  refine lv_aload_n hx hb dX12_empty_0 rfl (lv_at hl 0 rfl) ?_
  refine lv_iload_n hx hb dX12_empty_1 rfl (lv_at hl 1 rfl) ?_
  refine g_vi (As := [.int a1]) (rest := []) S hG (by omega) (qX12_isKind l hn h83 h84 a1) wV_12_225 h83 cpX12 (by omega) dX12_empty_2 rfl hl.1 (ar := 1) (by decide +kernel) rfl ⟨Nat.le_of_ble_eq_true rfl, Nat.le_of_ble_eq_true rfl, Nat.le_of_ble_eq_true rfl, Nat.le_of_ble_eq_true rfl⟩ (Nat.le_of_ble_eq_true rfl) (fun r_3 u_E_1 H locs hp_2 hG => ?_)
  obtain ⟨n_E_1, E_1⟩ := u_E_1
  dsimp only at hp_2 hG
  obtain ⟨rfl, nhp_2, ehp_2⟩ := hp_2
  have hG := gW_eq2 hG nhp_2 ehp_2
  refine lv_if_ne (tgt := 11) hx hb dX12_empty_5 (by decide) (fun c_4 => absurd c_4 (by decide)) (fun c_4 => ?_)
  refine lv_bipush (v := (-2)) hx hb dX12_empty_8 (by decide) ?_
  exact g_iret S hr hlk hG (by omega) dX12_empty_10 ⟨Nat.le_of_ble_eq_true rfl, Nat.le_of_ble_eq_true rfl⟩ ⟨rfl, rfl, rfl⟩
set_option maxHeartbeats 4000000 in
set_option maxRecDepth 100000 in
theorem qX12_leans (l : Launch) {D : va_G} {cy : Nat → ClassId} {b n : Nat} (hn : 105 ≤ n) {E : Nat → va_E} (h83 : E 83 = Z83 b cy) (h84 : E 84 = Z84 b cy)  (a1 : Int32) : gI l yX12_leans cX12_leans 2 (some .int) 2 0 0 D cy b n E [.ref (b + 83), .int a1] (fun r u => r = (-2) ∧ u.1 = n ∧ u.2 = E) := by
  refine gI_of (by decide) (Nat.le_of_ble_eq_true rfl) ?_
  intro p e s m args below meth c S hr hlk hin hsz ls hl hG
  have hx := S.1
  have hb := S.2.1
  have hl : lv_has ls 2 [(0, .ref (b + 83)), (1, .int a1)] := hl
  refine lv_aload_n hx hb dX12_leans_0 rfl (lv_at hl 0 rfl) ?_
  refine lv_iload_n hx hb dX12_leans_1 rfl (lv_at hl 1 rfl) ?_
  refine g_vi (As := [.int a1]) (rest := []) S hG (by omega) (qX12_isKind l hn h83 h84 a1) wV_12_225 h83 cpX12 (by omega) dX12_leans_2 rfl hl.1 (ar := 1) (by decide +kernel) rfl ⟨Nat.le_of_ble_eq_true rfl, Nat.le_of_ble_eq_true rfl, Nat.le_of_ble_eq_true rfl, Nat.le_of_ble_eq_true rfl⟩ (Nat.le_of_ble_eq_true rfl) (fun r_3 u_E_1 H locs hp_2 hG => ?_)
  obtain ⟨n_E_1, E_1⟩ := u_E_1
  dsimp only at hp_2 hG
  obtain ⟨rfl, nhp_2, ehp_2⟩ := hp_2
  have hG := gW_eq2 hG nhp_2 ehp_2
  refine lv_if_ne (tgt := 11) hx hb dX12_leans_5 (by decide) (fun c_4 => absurd c_4 (by decide)) (fun c_4 => ?_)
  refine lv_bipush (v := (-2)) hx hb dX12_leans_8 (by decide) ?_
  exact g_iret S hr hlk hG (by omega) dX12_leans_10 ⟨Nat.le_of_ble_eq_true rfl, Nat.le_of_ble_eq_true rfl⟩ ⟨rfl, rfl, rfl⟩
set_option maxHeartbeats 4000000 in
set_option maxRecDepth 100000 in
theorem qX12_blank (l : Launch) {D : va_G} {cy : Nat → ClassId} {b n : Nat} (hn : 105 ≤ n) {E : Nat → va_E} (h83 : E 83 = Z83 b cy) (h84 : E 84 = Z84 b cy)   : gI l yX12_blank cX12_blank 3 (some .int) 0 0 0 D cy b n E [.ref (b + 83)] (fun r u => r = (-2) ∧ u.1 = n ∧ u.2 = E) := by
  refine gI_of (by decide) (Nat.le_of_ble_eq_true rfl) ?_
  intro p e s m args below meth c S hr hlk hin hsz ls hl hG
  have hx := S.1
  have hb := S.2.1
  have hl : lv_has ls 3 [(0, .ref (b + 83))] := hl
  refine lv_aload_n hx hb dX12_blank_0 rfl (lv_at hl 0 rfl) ?_
  refine g_get S hG 83 0 h83 cpX12 wm_1674 dX12_blank_1 rfl (by omega) (by decide) ?_
  refine lv_iconst (v := 3) hx hb dX12_blank_4 (by decide) ?_
  refine g_iald S hG 84 h84 (by omega) dX12_blank_5 (by unfold vp_in; decide) ?_
  refine lv_topi (fun x_1 ex_1 => ?_)
  obtain rfl : x_1 = 0 := ex_1.trans (by decide)
  refine lv_if_ne (tgt := 12) hx hb dX12_blank_6 (by decide) (fun c_2 => absurd c_2 (by decide)) (fun c_2 => ?_)
  refine lv_bipush (v := (-2)) hx hb dX12_blank_9 (by decide) ?_
  exact g_iret S hr hlk hG (by omega) dX12_blank_11 ⟨Nat.le_of_ble_eq_true rfl, Nat.le_of_ble_eq_true rfl⟩ ⟨rfl, rfl, rfl⟩
set_option maxHeartbeats 4000000 in
set_option maxRecDepth 100000 in
theorem qX12_things (l : Launch) {D : va_G} {cy : Nat → ClassId} {b n : Nat} (hn : 105 ≤ n) {E : Nat → va_E} (h83 : E 83 = Z83 b cy) (h84 : E 84 = Z84 b cy)  (a1 : Int32) (a2 : Int32) : gL l yX12_things cX12_things 3 2 0 0 D cy b n E [.ref (b + 83), .int a1, .int a2] (fun r u => r = (-2) ∧ u.1 = n ∧ u.2 = E) := by
  refine gL_of (by decide) (Nat.le_of_ble_eq_true rfl) ?_
  intro p e s m args below meth c S hr hlk hin hsz ls hl hG
  have hx := S.1
  have hb := S.2.1
  have hl : lv_has ls 3 [(0, .ref (b + 83)), (1, .int a1), (2, .int a2)] := hl
  refine lv_aload_n hx hb dX12_things_0 rfl (lv_at hl 0 rfl) ?_
  refine lv_iload_n hx hb dX12_things_1 rfl (lv_at hl 1 rfl) ?_
  refine g_vi (As := [.int a1]) (rest := []) S hG (by omega) (qX12_isKind l hn h83 h84 a1) wV_12_225 h83 cpX12 (by omega) dX12_things_2 rfl hl.1 (ar := 1) (by decide +kernel) rfl ⟨Nat.le_of_ble_eq_true rfl, Nat.le_of_ble_eq_true rfl, Nat.le_of_ble_eq_true rfl, Nat.le_of_ble_eq_true rfl⟩ (Nat.le_of_ble_eq_true rfl) (fun r_3 u_E_1 H locs hp_2 hG => ?_)
  obtain ⟨n_E_1, E_1⟩ := u_E_1
  dsimp only at hp_2 hG
  obtain ⟨rfl, nhp_2, ehp_2⟩ := hp_2
  have hG := gW_eq2 hG nhp_2 ehp_2
  refine lv_if_eq (tgt := 16) hx hb dX12_things_5 (by decide) (fun c_4 => ?_) (fun c_4 => absurd c_4 (by decide))
  refine lv_ldc2 (v := -2) hx hb S.2.2.2.1 (S.2.2.2.2 _ wm_2101) dX12_things_16 ?_
  exact g_lret S hr hlk hG (by omega) dX12_things_19 ⟨Nat.le_of_ble_eq_true rfl, Nat.le_of_ble_eq_true rfl⟩ ⟨rfl, rfl, rfl⟩
set_option maxHeartbeats 4000000 in
set_option maxRecDepth 100000 in
theorem qX12_upto (l : Launch) {D : va_G} {cy : Nat → ClassId} {b n : Nat} (hn : 105 ≤ n) {E : Nat → va_E} (h83 : E 83 = Z83 b cy) (h84 : E 84 = Z84 b cy)  (a1 : Int32) (a2 : Int32) : gL l yX12_upto cX12_upto 3 2 0 0 D cy b n E [.ref (b + 83), .int a1, .int a2] (fun r u => r = (-2) ∧ u.1 = n ∧ u.2 = E) := by
  refine gL_of (by decide) (Nat.le_of_ble_eq_true rfl) ?_
  intro p e s m args below meth c S hr hlk hin hsz ls hl hG
  have hx := S.1
  have hb := S.2.1
  have hl : lv_has ls 3 [(0, .ref (b + 83)), (1, .int a1), (2, .int a2)] := hl
  refine lv_aload_n hx hb dX12_upto_0 rfl (lv_at hl 0 rfl) ?_
  refine lv_iload_n hx hb dX12_upto_1 rfl (lv_at hl 1 rfl) ?_
  refine g_vi (As := [.int a1]) (rest := []) S hG (by omega) (qX12_isKind l hn h83 h84 a1) wV_12_225 h83 cpX12 (by omega) dX12_upto_2 rfl hl.1 (ar := 1) (by decide +kernel) rfl ⟨Nat.le_of_ble_eq_true rfl, Nat.le_of_ble_eq_true rfl, Nat.le_of_ble_eq_true rfl, Nat.le_of_ble_eq_true rfl⟩ (Nat.le_of_ble_eq_true rfl) (fun r_3 u_E_1 H locs hp_2 hG => ?_)
  obtain ⟨n_E_1, E_1⟩ := u_E_1
  dsimp only at hp_2 hG
  obtain ⟨rfl, nhp_2, ehp_2⟩ := hp_2
  have hG := gW_eq2 hG nhp_2 ehp_2
  refine lv_if_eq (tgt := 16) hx hb dX12_upto_5 (by decide) (fun c_4 => ?_) (fun c_4 => absurd c_4 (by decide))
  refine lv_ldc2 (v := -2) hx hb S.2.2.2.1 (S.2.2.2.2 _ wm_2101) dX12_upto_16 ?_
  exact g_lret S hr hlk hG (by omega) dX12_upto_19 ⟨Nat.le_of_ble_eq_true rfl, Nat.le_of_ble_eq_true rfl⟩ ⟨rfl, rfl, rfl⟩
set_option maxHeartbeats 4000000 in
set_option maxRecDepth 100000 in
theorem qX12_labelled (l : Launch) {D : va_G} {cy : Nat → ClassId} {b n : Nat} (hn : 105 ≤ n) {E : Nat → va_E} (h83 : E 83 = Z83 b cy) (h84 : E 84 = Z84 b cy)  (a1 : Int32) (a2 : Int32) : gL l yX12_labelled cX12_labelled 3 2 0 0 D cy b n E [.ref (b + 83), .int a1, .int a2] (fun r u => r = (-2) ∧ u.1 = n ∧ u.2 = E) := by
  refine gL_of (by decide) (Nat.le_of_ble_eq_true rfl) ?_
  intro p e s m args below meth c S hr hlk hin hsz ls hl hG
  have hx := S.1
  have hb := S.2.1
  have hl : lv_has ls 3 [(0, .ref (b + 83)), (1, .int a1), (2, .int a2)] := hl
  refine lv_aload_n hx hb dX12_labelled_0 rfl (lv_at hl 0 rfl) ?_
  refine lv_iload_n hx hb dX12_labelled_1 rfl (lv_at hl 1 rfl) ?_
  refine g_vi (As := [.int a1]) (rest := []) S hG (by omega) (qX12_isKind l hn h83 h84 a1) wV_12_225 h83 cpX12 (by omega) dX12_labelled_2 rfl hl.1 (ar := 1) (by decide +kernel) rfl ⟨Nat.le_of_ble_eq_true rfl, Nat.le_of_ble_eq_true rfl, Nat.le_of_ble_eq_true rfl, Nat.le_of_ble_eq_true rfl⟩ (Nat.le_of_ble_eq_true rfl) (fun r_3 u_E_1 H locs hp_2 hG => ?_)
  obtain ⟨n_E_1, E_1⟩ := u_E_1
  dsimp only at hp_2 hG
  obtain ⟨rfl, nhp_2, ehp_2⟩ := hp_2
  have hG := gW_eq2 hG nhp_2 ehp_2
  refine lv_if_eq (tgt := 16) hx hb dX12_labelled_5 (by decide) (fun c_4 => ?_) (fun c_4 => absurd c_4 (by decide))
  refine lv_ldc2 (v := -2) hx hb S.2.2.2.1 (S.2.2.2.2 _ wm_2101) dX12_labelled_16 ?_
  exact g_lret S hr hlk hG (by omega) dX12_labelled_19 ⟨Nat.le_of_ble_eq_true rfl, Nat.le_of_ble_eq_true rfl⟩ ⟨rfl, rfl, rfl⟩
set_option maxHeartbeats 4000000 in
set_option maxRecDepth 100000 in
theorem qX12_first (l : Launch) {D : va_G} {cy : Nat → ClassId} {b n : Nat} (hn : 105 ≤ n) {E : Nat → va_E} (h83 : E 83 = Z83 b cy) (h84 : E 84 = Z84 b cy)  (a1 : Int32) (a2 : Int64) : gI l yX12_first cX12_first 5 (some .int) 2 0 0 D cy b n E [.ref (b + 83), .int a1, .long a2] (fun r u => r = (-2) ∧ u.1 = n ∧ u.2 = E) := by
  refine gI_of (by decide) (Nat.le_of_ble_eq_true rfl) ?_
  intro p e s m args below meth c S hr hlk hin hsz ls hl hG
  have hx := S.1
  have hb := S.2.1
  have hl : lv_has ls 5 [(0, .ref (b + 83)), (1, .int a1), (2, .long a2)] := hl
  refine lv_aload_n hx hb dX12_first_0 rfl (lv_at hl 0 rfl) ?_
  refine lv_iload_n hx hb dX12_first_1 rfl (lv_at hl 1 rfl) ?_
  refine g_vi (As := [.int a1]) (rest := []) S hG (by omega) (qX12_isKind l hn h83 h84 a1) wV_12_225 h83 cpX12 (by omega) dX12_first_2 rfl hl.1 (ar := 1) (by decide +kernel) rfl ⟨Nat.le_of_ble_eq_true rfl, Nat.le_of_ble_eq_true rfl, Nat.le_of_ble_eq_true rfl, Nat.le_of_ble_eq_true rfl⟩ (Nat.le_of_ble_eq_true rfl) (fun r_3 u_E_1 H locs hp_2 hG => ?_)
  obtain ⟨n_E_1, E_1⟩ := u_E_1
  dsimp only at hp_2 hG
  obtain ⟨rfl, nhp_2, ehp_2⟩ := hp_2
  have hG := gW_eq2 hG nhp_2 ehp_2
  refine lv_if_eq (tgt := 19) hx hb dX12_first_5 (by decide) (fun c_4 => ?_) (fun c_4 => absurd c_4 (by decide))
  refine lv_bipush (v := (-2)) hx hb dX12_first_19 (by decide) ?_
  exact g_iret S hr hlk hG (by omega) dX12_first_21 ⟨Nat.le_of_ble_eq_true rfl, Nat.le_of_ble_eq_true rfl⟩ ⟨rfl, rfl, rfl⟩
theorem wV_12_330 : gWV "GrownKindsModel" 330 yX12_first cX12_first 5 (some .int) := ⟨wm_2089, wm_2090, wm_2091, wm_187, wm_2092, by decide +kernel, by decide +kernel⟩
set_option maxHeartbeats 4000000 in
set_option maxRecDepth 100000 in
theorem qX12_least (l : Launch) {D : va_G} {cy : Nat → ClassId} {b n : Nat} (hn : 105 ≤ n) {E : Nat → va_E} (h83 : E 83 = Z83 b cy) (h84 : E 84 = Z84 b cy)  (a1 : Int32) : gI l yX12_least cX12_least 2 (some .int) 3 0 0 D cy b n E [.ref (b + 83), .int a1] (fun r u => r = (-2) ∧ u.1 = n ∧ u.2 = E) := by
  refine gI_of (by decide) (Nat.le_of_ble_eq_true rfl) ?_
  intro p e s m args below meth c S hr hlk hin hsz ls hl hG
  have hx := S.1
  have hb := S.2.1
  have hl : lv_has ls 2 [(0, .ref (b + 83)), (1, .int a1)] := hl
  refine lv_aload_n hx hb dX12_least_0 rfl (lv_at hl 0 rfl) ?_
  refine lv_iload_n hx hb dX12_least_1 rfl (lv_at hl 1 rfl) ?_
  refine lv_lconst (v := 1) hx hb dX12_least_2 (by decide) ?_
  refine g_vi (As := [.int a1, .long 1]) (rest := []) S hG (by omega) (qX12_first l hn h83 h84 a1 1) wV_12_330 h83 cpX12 (by omega) dX12_least_3 rfl hl.1 (ar := 2) (by decide +kernel) rfl ⟨Nat.le_of_ble_eq_true rfl, Nat.le_of_ble_eq_true rfl, Nat.le_of_ble_eq_true rfl, Nat.le_of_ble_eq_true rfl⟩ (Nat.le_of_ble_eq_true rfl) (fun r_3 u_E_1 H locs hp_2 hG => ?_)
  obtain ⟨n_E_1, E_1⟩ := u_E_1
  dsimp only at hp_2 hG
  obtain ⟨rfl, nhp_2, ehp_2⟩ := hp_2
  have hG := gW_eq2 hG nhp_2 ehp_2
  exact g_iret S hr hlk hG (by omega) dX12_least_6 ⟨Nat.le_of_ble_eq_true rfl, Nat.le_of_ble_eq_true rfl⟩ ⟨rfl, rfl, rfl⟩
set_option maxHeartbeats 4000000 in
set_option maxRecDepth 100000 in
theorem qX12_marked (l : Launch) {D : va_G} {cy : Nat → ClassId} {b n : Nat} (hn : 105 ≤ n) {E : Nat → va_E} (h83 : E 83 = Z83 b cy) (h84 : E 84 = Z84 b cy)  (a1 : Int32) (a2 : Int32) (a3 : Int32) (a4 : Int32) : gL l yX12_marked cX12_marked 5 2 0 0 D cy b n E [.ref (b + 83), .int a1, .int a2, .int a3, .int a4] (fun r u => r = (-2) ∧ u.1 = n ∧ u.2 = E) := by
  refine gL_of (by decide) (Nat.le_of_ble_eq_true rfl) ?_
  intro p e s m args below meth c S hr hlk hin hsz ls hl hG
  have hx := S.1
  have hb := S.2.1
  have hl : lv_has ls 5 [(0, .ref (b + 83)), (1, .int a1), (2, .int a2), (3, .int a3), (4, .int a4)] := hl
  refine lv_aload_n hx hb dX12_marked_0 rfl (lv_at hl 0 rfl) ?_
  refine lv_iload_n hx hb dX12_marked_1 rfl (lv_at hl 1 rfl) ?_
  refine g_vi (As := [.int a1]) (rest := []) S hG (by omega) (qX12_isKind l hn h83 h84 a1) wV_12_225 h83 cpX12 (by omega) dX12_marked_2 rfl hl.1 (ar := 1) (by decide +kernel) rfl ⟨Nat.le_of_ble_eq_true rfl, Nat.le_of_ble_eq_true rfl, Nat.le_of_ble_eq_true rfl, Nat.le_of_ble_eq_true rfl⟩ (Nat.le_of_ble_eq_true rfl) (fun r_3 u_E_1 H locs hp_2 hG => ?_)
  obtain ⟨n_E_1, E_1⟩ := u_E_1
  dsimp only at hp_2 hG
  obtain ⟨rfl, nhp_2, ehp_2⟩ := hp_2
  have hG := gW_eq2 hG nhp_2 ehp_2
  refine lv_if_eq (tgt := 41) hx hb dX12_marked_5 (by decide) (fun c_4 => ?_) (fun c_4 => absurd c_4 (by decide))
  refine lv_ldc2 (v := -2) hx hb S.2.2.2.1 (S.2.2.2.2 _ wm_2101) dX12_marked_41 ?_
  exact g_lret S hr hlk hG (by omega) dX12_marked_44 ⟨Nat.le_of_ble_eq_true rfl, Nat.le_of_ble_eq_true rfl⟩ ⟨rfl, rfl, rfl⟩
theorem wV_12_344 : gWV "GrownKindsModel" 344 yX12_isTerm cX12_isTerm 3 (some .boolean) := ⟨wm_2116, wm_2118, wm_127, wm_187, wm_2119, by decide +kernel, by decide +kernel⟩
set_option maxHeartbeats 4000000 in
set_option maxRecDepth 100000 in
theorem qX12_by (l : Launch) {D : va_G} {cy : Nat → ClassId} {b n : Nat} (hn : 105 ≤ n) {E : Nat → va_E} (h83 : E 83 = Z83 b cy) (h84 : E 84 = Z84 b cy)  (a1 : Int32) (a2 : Int32) (a3 : Int32) : gL l yX12_by cX12_by 4 3 0 0 D cy b n E [.ref (b + 83), .int a1, .int a2, .int a3] (fun r u => r = (-2) ∧ u.1 = n ∧ u.2 = E) := by
  refine gL_of (by decide) (Nat.le_of_ble_eq_true rfl) ?_
  intro p e s m args below meth c S hr hlk hin hsz ls hl hG
  have hx := S.1
  have hb := S.2.1
  have hl : lv_has ls 4 [(0, .ref (b + 83)), (1, .int a1), (2, .int a2), (3, .int a3)] := hl
  refine lv_aload_n hx hb dX12_by_0 rfl (lv_at hl 0 rfl) ?_
  refine lv_iload_n hx hb dX12_by_1 rfl (lv_at hl 1 rfl) ?_
  refine lv_iload_n hx hb dX12_by_2 rfl (lv_at hl 3 rfl) ?_
  refine g_vi (As := [.int a1, .int a3]) (rest := []) S hG (by omega) (qX12_isTerm l hn h83 h84 a1 a3) wV_12_344 h83 cpX12 (by omega) dX12_by_3 rfl hl.1 (ar := 2) (by decide +kernel) rfl ⟨Nat.le_of_ble_eq_true rfl, Nat.le_of_ble_eq_true rfl, Nat.le_of_ble_eq_true rfl, Nat.le_of_ble_eq_true rfl⟩ (Nat.le_of_ble_eq_true rfl) (fun r_3 u_E_1 H locs hp_2 hG => ?_)
  obtain ⟨n_E_1, E_1⟩ := u_E_1
  dsimp only at hp_2 hG
  obtain ⟨rfl, nhp_2, ehp_2⟩ := hp_2
  have hG := gW_eq2 hG nhp_2 ehp_2
  refine lv_if_eq (tgt := 17) hx hb dX12_by_6 (by decide) (fun c_4 => ?_) (fun c_4 => absurd c_4 (by decide))
  refine lv_ldc2 (v := -2) hx hb S.2.2.2.1 (S.2.2.2.2 _ wm_2101) dX12_by_17 ?_
  exact g_lret S hr hlk hG (by omega) dX12_by_20 ⟨Nat.le_of_ble_eq_true rfl, Nat.le_of_ble_eq_true rfl⟩ ⟨rfl, rfl, rfl⟩
set_option maxHeartbeats 4000000 in
set_option maxRecDepth 100000 in
theorem qX12_without (l : Launch) {D : va_G} {cy : Nat → ClassId} {b n : Nat} (hn : 105 ≤ n) {E : Nat → va_E} (h83 : E 83 = Z83 b cy) (h84 : E 84 = Z84 b cy)  (a1 : Int32) (a2 : Int32) (a3 : Int32) (a4 : Int32) : gL l yX12_without cX12_without 5 3 0 0 D cy b n E [.ref (b + 83), .int a1, .int a2, .int a3, .int a4] (fun r u => r = (-2) ∧ u.1 = n ∧ u.2 = E) := by
  refine gL_of (by decide) (Nat.le_of_ble_eq_true rfl) ?_
  intro p e s m args below meth c S hr hlk hin hsz ls hl hG
  have hx := S.1
  have hb := S.2.1
  have hl : lv_has ls 5 [(0, .ref (b + 83)), (1, .int a1), (2, .int a2), (3, .int a3), (4, .int a4)] := hl
  refine lv_aload_n hx hb dX12_without_0 rfl (lv_at hl 0 rfl) ?_
  refine lv_iload_n hx hb dX12_without_1 rfl (lv_at hl 1 rfl) ?_
  refine lv_iload_n hx hb dX12_without_2 rfl (lv_at hl 2 rfl) ?_
  refine g_vi (As := [.int a1, .int a2]) (rest := []) S hG (by omega) (qX12_isTerm l hn h83 h84 a1 a2) wV_12_344 h83 cpX12 (by omega) dX12_without_3 rfl hl.1 (ar := 2) (by decide +kernel) rfl ⟨Nat.le_of_ble_eq_true rfl, Nat.le_of_ble_eq_true rfl, Nat.le_of_ble_eq_true rfl, Nat.le_of_ble_eq_true rfl⟩ (Nat.le_of_ble_eq_true rfl) (fun r_3 u_E_1 H locs hp_2 hG => ?_)
  obtain ⟨n_E_1, E_1⟩ := u_E_1
  dsimp only at hp_2 hG
  obtain ⟨rfl, nhp_2, ehp_2⟩ := hp_2
  have hG := gW_eq2 hG nhp_2 ehp_2
  refine lv_if_eq (tgt := 38) hx hb dX12_without_6 (by decide) (fun c_4 => ?_) (fun c_4 => absurd c_4 (by decide))
  refine lv_ldc2 (v := -2) hx hb S.2.2.2.1 (S.2.2.2.2 _ wm_2101) dX12_without_38 ?_
  exact g_lret S hr hlk hG (by omega) dX12_without_41 ⟨Nat.le_of_ble_eq_true rfl, Nat.le_of_ble_eq_true rfl⟩ ⟨rfl, rfl, rfl⟩
set_option maxHeartbeats 4000000 in
set_option maxRecDepth 100000 in
theorem qX12_hangs (l : Launch) {D : va_G} {cy : Nat → ClassId} {b n : Nat} (hn : 105 ≤ n) {E : Nat → va_E} (h83 : E 83 = Z83 b cy) (h84 : E 84 = Z84 b cy)  (a1 : Int32) (a2 : Int32) : gI l yX12_hangs cX12_hangs 9 (some .int) 2 0 0 D cy b n E [.ref (b + 83), .int a1, .int a2] (fun r u => r = (-2) ∧ u.1 = n ∧ u.2 = E) := by
  refine gI_of (by decide) (Nat.le_of_ble_eq_true rfl) ?_
  intro p e s m args below meth c S hr hlk hin hsz ls hl hG
  have hx := S.1
  have hb := S.2.1
  have hl : lv_has ls 9 [(0, .ref (b + 83)), (1, .int a1), (2, .int a2)] := hl
  refine lv_aload_n hx hb dX12_hangs_0 rfl (lv_at hl 0 rfl) ?_
  refine lv_iload_n hx hb dX12_hangs_1 rfl (lv_at hl 1 rfl) ?_
  refine g_vi (As := [.int a1]) (rest := []) S hG (by omega) (qX12_isKind l hn h83 h84 a1) wV_12_225 h83 cpX12 (by omega) dX12_hangs_2 rfl hl.1 (ar := 1) (by decide +kernel) rfl ⟨Nat.le_of_ble_eq_true rfl, Nat.le_of_ble_eq_true rfl, Nat.le_of_ble_eq_true rfl, Nat.le_of_ble_eq_true rfl⟩ (Nat.le_of_ble_eq_true rfl) (fun r_3 u_E_1 H locs hp_2 hG => ?_)
  obtain ⟨n_E_1, E_1⟩ := u_E_1
  dsimp only at hp_2 hG
  obtain ⟨rfl, nhp_2, ehp_2⟩ := hp_2
  have hG := gW_eq2 hG nhp_2 ehp_2
  refine lv_if_eq (tgt := 16) hx hb dX12_hangs_5 (by decide) (fun c_4 => ?_) (fun c_4 => absurd c_4 (by decide))
  refine lv_bipush (v := (-2)) hx hb dX12_hangs_16 (by decide) ?_
  exact g_iret S hr hlk hG (by omega) dX12_hangs_18 ⟨Nat.le_of_ble_eq_true rfl, Nat.le_of_ble_eq_true rfl⟩ ⟨rfl, rfl, rfl⟩
set_option maxHeartbeats 4000000 in
set_option maxRecDepth 100000 in
theorem qX12_idle (l : Launch) {D : va_G} {cy : Nat → ClassId} {b n : Nat} (hn : 105 ≤ n) {E : Nat → va_E} (h83 : E 83 = Z83 b cy) (h84 : E 84 = Z84 b cy)   : gI l yX12_idle cX12_idle 7 (some .int) 0 0 0 D cy b n E [.ref (b + 83)] (fun r u => r = (-2) ∧ u.1 = n ∧ u.2 = E) := by
  refine gI_of (by decide) (Nat.le_of_ble_eq_true rfl) ?_
  intro p e s m args below meth c S hr hlk hin hsz ls hl hG
  have hx := S.1
  have hb := S.2.1
  have hl : lv_has ls 7 [(0, .ref (b + 83))] := hl
  refine lv_aload_n hx hb dX12_idle_0 rfl (lv_at hl 0 rfl) ?_
  refine g_get S hG 83 0 h83 cpX12 wm_1674 dX12_idle_1 rfl (by omega) (by decide) ?_
  refine lv_iconst (v := 3) hx hb dX12_idle_4 (by decide) ?_
  refine g_iald S hG 84 h84 (by omega) dX12_idle_5 (by unfold vp_in; decide) ?_
  refine lv_topi (fun x_1 ex_1 => ?_)
  obtain rfl : x_1 = 0 := ex_1.trans (by decide)
  refine lv_if_ne (tgt := 12) hx hb dX12_idle_6 (by decide) (fun c_2 => absurd c_2 (by decide)) (fun c_2 => ?_)
  refine lv_bipush (v := (-2)) hx hb dX12_idle_9 (by decide) ?_
  exact g_iret S hr hlk hG (by omega) dX12_idle_11 ⟨Nat.le_of_ble_eq_true rfl, Nat.le_of_ble_eq_true rfl⟩ ⟨rfl, rfl, rfl⟩
set_option maxHeartbeats 4000000 in
set_option maxRecDepth 100000 in
theorem qX12_whyNot (l : Launch) {D : va_G} {cy : Nat → ClassId} {b n : Nat} (hn : 105 ≤ n) {E : Nat → va_E} (h83 : E 83 = Z83 b cy) (h84 : E 84 = Z84 b cy)  (a1 : Int32) (a2 : Int32) (a3 : Int32) : gI l yX12_whyNot cX12_whyNot 4 (some .int) 2 0 0 D cy b n E [.ref (b + 83), .int a1, .int a2, .int a3] (fun r u => r = (-2) ∧ u.1 = n ∧ u.2 = E) := by
  refine gI_of (by decide) (Nat.le_of_ble_eq_true rfl) ?_
  intro p e s m args below meth c S hr hlk hin hsz ls hl hG
  have hx := S.1
  have hb := S.2.1
  have hl : lv_has ls 4 [(0, .ref (b + 83)), (1, .int a1), (2, .int a2), (3, .int a3)] := hl
  refine lv_aload_n hx hb dX12_whyNot_0 rfl (lv_at hl 0 rfl) ?_
  refine lv_iload_n hx hb dX12_whyNot_1 rfl (lv_at hl 1 rfl) ?_
  refine g_vi (As := [.int a1]) (rest := []) S hG (by omega) (qX12_isKind l hn h83 h84 a1) wV_12_225 h83 cpX12 (by omega) dX12_whyNot_2 rfl hl.1 (ar := 1) (by decide +kernel) rfl ⟨Nat.le_of_ble_eq_true rfl, Nat.le_of_ble_eq_true rfl, Nat.le_of_ble_eq_true rfl, Nat.le_of_ble_eq_true rfl⟩ (Nat.le_of_ble_eq_true rfl) (fun r_3 u_E_1 H locs hp_2 hG => ?_)
  obtain ⟨n_E_1, E_1⟩ := u_E_1
  dsimp only at hp_2 hG
  obtain ⟨rfl, nhp_2, ehp_2⟩ := hp_2
  have hG := gW_eq2 hG nhp_2 ehp_2
  refine lv_if_eq (tgt := 16) hx hb dX12_whyNot_5 (by decide) (fun c_4 => ?_) (fun c_4 => absurd c_4 (by decide))
  refine lv_bipush (v := (-2)) hx hb dX12_whyNot_16 (by decide) ?_
  exact g_iret S hr hlk hG (by omega) dX12_whyNot_18 ⟨Nat.le_of_ble_eq_true rfl, Nat.le_of_ble_eq_true rfl⟩ ⟨rfl, rfl, rfl⟩
set_option maxHeartbeats 4000000 in
set_option maxRecDepth 100000 in
theorem qX12_whyNone (l : Launch) {D : va_G} {cy : Nat → ClassId} {b n : Nat} (hn : 105 ≤ n) {E : Nat → va_E} (h83 : E 83 = Z83 b cy) (h84 : E 84 = Z84 b cy)  (a1 : Int32) (a2 : Int32) : gI l yX12_whyNone cX12_whyNone 3 (some .int) 2 0 0 D cy b n E [.ref (b + 83), .int a1, .int a2] (fun r u => r = (-2) ∧ u.1 = n ∧ u.2 = E) := by
  refine gI_of (by decide) (Nat.le_of_ble_eq_true rfl) ?_
  intro p e s m args below meth c S hr hlk hin hsz ls hl hG
  have hx := S.1
  have hb := S.2.1
  have hl : lv_has ls 3 [(0, .ref (b + 83)), (1, .int a1), (2, .int a2)] := hl
  refine lv_aload_n hx hb dX12_whyNone_0 rfl (lv_at hl 0 rfl) ?_
  refine lv_iload_n hx hb dX12_whyNone_1 rfl (lv_at hl 1 rfl) ?_
  refine g_vi (As := [.int a1]) (rest := []) S hG (by omega) (qX12_isKind l hn h83 h84 a1) wV_12_225 h83 cpX12 (by omega) dX12_whyNone_2 rfl hl.1 (ar := 1) (by decide +kernel) rfl ⟨Nat.le_of_ble_eq_true rfl, Nat.le_of_ble_eq_true rfl, Nat.le_of_ble_eq_true rfl, Nat.le_of_ble_eq_true rfl⟩ (Nat.le_of_ble_eq_true rfl) (fun r_3 u_E_1 H locs hp_2 hG => ?_)
  obtain ⟨n_E_1, E_1⟩ := u_E_1
  dsimp only at hp_2 hG
  obtain ⟨rfl, nhp_2, ehp_2⟩ := hp_2
  have hG := gW_eq2 hG nhp_2 ehp_2
  refine lv_if_eq (tgt := 16) hx hb dX12_whyNone_5 (by decide) (fun c_4 => ?_) (fun c_4 => absurd c_4 (by decide))
  refine lv_bipush (v := (-2)) hx hb dX12_whyNone_16 (by decide) ?_
  exact g_iret S hr hlk hG (by omega) dX12_whyNone_18 ⟨Nat.le_of_ble_eq_true rfl, Nat.le_of_ble_eq_true rfl⟩ ⟨rfl, rfl, rfl⟩
theorem wV_12_472 : gWV "GrownKindsModel" 472 yX12_whyNot cX12_whyNot 4 (some .int) := ⟨wm_2178, wm_2180, wm_136, wm_187, wm_2181, by decide +kernel, by decide +kernel⟩
set_option maxHeartbeats 4000000 in
set_option maxRecDepth 100000 in
theorem qX12_length (l : Launch) {D : va_G} {cy : Nat → ClassId} {b n : Nat} (hn : 105 ≤ n) {E : Nat → va_E} (h83 : E 83 = Z83 b cy) (h84 : E 84 = Z84 b cy)  (a1 : Int32) (a2 : Int32) (a3 : Int32) : gI l yX12_length cX12_length 5 (some .int) 3 0 0 D cy b n E [.ref (b + 83), .int a1, .int a2, .int a3] (fun r u => r = (-2) ∧ u.1 = n ∧ u.2 = E) := by
  refine gI_of (by decide) (Nat.le_of_ble_eq_true rfl) ?_
  intro p e s m args below meth c S hr hlk hin hsz ls hl hG
  have hx := S.1
  have hb := S.2.1
  have hl : lv_has ls 5 [(0, .ref (b + 83)), (1, .int a1), (2, .int a2), (3, .int a3)] := hl
  refine lv_aload_n hx hb dX12_length_0 rfl (lv_at hl 0 rfl) ?_
  refine lv_iload_n hx hb dX12_length_1 rfl (lv_at hl 1 rfl) ?_
  refine lv_iload_n hx hb dX12_length_2 rfl (lv_at hl 2 rfl) ?_
  refine lv_iload_n hx hb dX12_length_3 rfl (lv_at hl 3 rfl) ?_
  refine g_vi (As := [.int a1, .int a2, .int a3]) (rest := []) S hG (by omega) (qX12_whyNot l hn h83 h84 a1 a2 a3) wV_12_472 h83 cpX12 (by omega) dX12_length_4 rfl hl.1 (ar := 3) (by decide +kernel) rfl ⟨Nat.le_of_ble_eq_true rfl, Nat.le_of_ble_eq_true rfl, Nat.le_of_ble_eq_true rfl, Nat.le_of_ble_eq_true rfl⟩ (Nat.le_of_ble_eq_true rfl) (fun r_3 u_E_1 H locs hp_2 hG => ?_)
  obtain ⟨n_E_1, E_1⟩ := u_E_1
  dsimp only at hp_2 hG
  obtain ⟨rfl, nhp_2, ehp_2⟩ := hp_2
  have hG := gW_eq2 hG nhp_2 ehp_2
  refine lv_istore (lv' := [(4, .int (-2)), (0, .ref (b + 83)), (1, .int a1), (2, .int a2), (3, .int a3)]) hx hb dX12_length_7 hl (by decide) rfl (fun ls hl => ?_)
  refine lv_iload hx hb dX12_length_9 (lv_at hl 0 rfl) ?_
  refine lv_if_ge (tgt := 17) hx hb dX12_length_11 (by decide) (fun c_4 => absurd c_4 (by decide)) (fun c_4 => ?_)
  refine lv_iload hx hb dX12_length_14 (lv_at hl 0 rfl) ?_
  exact g_iret S hr hlk hG (by omega) dX12_length_16 ⟨Nat.le_of_ble_eq_true rfl, Nat.le_of_ble_eq_true rfl⟩ ⟨rfl, rfl, rfl⟩
set_option maxHeartbeats 4000000 in
set_option maxRecDepth 100000 in
theorem qX12_sign (l : Launch) {D : va_G} {cy : Nat → ClassId} {b n : Nat} (hn : 105 ≤ n) {E : Nat → va_E} (h83 : E 83 = Z83 b cy) (h84 : E 84 = Z84 b cy)  (a1 : Int32) (a2 : Int32) (a3 : Int32) (a4 : Int32) : gI l yX12_sign cX12_sign 6 (some .int) 3 0 0 D cy b n E [.ref (b + 83), .int a1, .int a2, .int a3, .int a4] (fun r u => r = (-2) ∧ u.1 = n ∧ u.2 = E) := by
  refine gI_of (by decide) (Nat.le_of_ble_eq_true rfl) ?_
  intro p e s m args below meth c S hr hlk hin hsz ls hl hG
  have hx := S.1
  have hb := S.2.1
  have hl : lv_has ls 6 [(0, .ref (b + 83)), (1, .int a1), (2, .int a2), (3, .int a3), (4, .int a4)] := hl
  refine lv_iload hx hb dX12_sign_0 (lv_at hl 4 rfl) ?_
  refine lv_if_ge (tgt := 10) hx hb dX12_sign_2 (by decide) (fun c_1 => ?_) (fun c_1 => ?_)
  · refine lv_aload_n hx hb dX12_sign_10 rfl (lv_at hl 0 rfl) ?_
    refine lv_iload_n hx hb dX12_sign_11 rfl (lv_at hl 1 rfl) ?_
    refine lv_iload_n hx hb dX12_sign_12 rfl (lv_at hl 2 rfl) ?_
    refine lv_iload_n hx hb dX12_sign_13 rfl (lv_at hl 3 rfl) ?_
    refine g_vi (As := [.int a1, .int a2, .int a3]) (rest := []) S hG (by omega) (qX12_whyNot l hn h83 h84 a1 a2 a3) wV_12_472 h83 cpX12 (by omega) dX12_sign_14 rfl hl.1 (ar := 3) (by decide +kernel) rfl ⟨Nat.le_of_ble_eq_true rfl, Nat.le_of_ble_eq_true rfl, Nat.le_of_ble_eq_true rfl, Nat.le_of_ble_eq_true rfl⟩ (Nat.le_of_ble_eq_true rfl) (fun r_4 u_E_2 H locs hp_3 hG => ?_)
    obtain ⟨n_E_2, E_2⟩ := u_E_2
    dsimp only at hp_3 hG
    obtain ⟨rfl, nhp_3, ehp_3⟩ := hp_3
    have hG := gW_eq2 hG nhp_3 ehp_3
    refine lv_istore (lv' := [(5, .int (-2)), (0, .ref (b + 83)), (1, .int a1), (2, .int a2), (3, .int a3), (4, .int a4)]) hx hb dX12_sign_17 hl (by decide) rfl (fun ls hl => ?_)
    refine lv_iload hx hb dX12_sign_19 (lv_at hl 0 rfl) ?_
    refine lv_if_ge (tgt := 27) hx hb dX12_sign_21 (by decide) (fun c_5 => absurd c_5 (by decide)) (fun c_5 => ?_)
    refine lv_iload hx hb dX12_sign_24 (lv_at hl 0 rfl) ?_
    exact g_iret S hr hlk hG (by omega) dX12_sign_26 ⟨Nat.le_of_ble_eq_true rfl, Nat.le_of_ble_eq_true rfl⟩ ⟨rfl, rfl, rfl⟩
  · refine lv_bipush (v := (-2)) hx hb dX12_sign_5 (by decide) ?_
    refine lv_goto (tgt := 17) hx hb dX12_sign_7 (by decide) ?_
    refine lv_istore (lv' := [(5, .int (-2)), (0, .ref (b + 83)), (1, .int a1), (2, .int a2), (3, .int a3), (4, .int a4)]) hx hb dX12_sign_17 hl (by decide) rfl (fun ls hl => ?_)
    refine lv_iload hx hb dX12_sign_19 (lv_at hl 0 rfl) ?_
    refine lv_if_ge (tgt := 27) hx hb dX12_sign_21 (by decide) (fun c_6 => absurd c_6 (by decide)) (fun c_6 => ?_)
    refine lv_iload hx hb dX12_sign_24 (lv_at hl 0 rfl) ?_
    exact g_iret S hr hlk hG (by omega) dX12_sign_26 ⟨Nat.le_of_ble_eq_true rfl, Nat.le_of_ble_eq_true rfl⟩ ⟨rfl, rfl, rfl⟩
set_option maxHeartbeats 4000000 in
set_option maxRecDepth 100000 in
theorem qX12_deep (l : Launch) {D : va_G} {cy : Nat → ClassId} {b n : Nat} (hn : 105 ≤ n) {E : Nat → va_E} (h83 : E 83 = Z83 b cy) (h84 : E 84 = Z84 b cy)  (a1 : Int32) (a2 : Int32) (a3 : Int32) : gI l yX12_deep cX12_deep 5 (some .int) 3 0 0 D cy b n E [.ref (b + 83), .int a1, .int a2, .int a3] (fun r u => r = (-2) ∧ u.1 = n ∧ u.2 = E) := by
  refine gI_of (by decide) (Nat.le_of_ble_eq_true rfl) ?_
  intro p e s m args below meth c S hr hlk hin hsz ls hl hG
  have hx := S.1
  have hb := S.2.1
  have hl : lv_has ls 5 [(0, .ref (b + 83)), (1, .int a1), (2, .int a2), (3, .int a3)] := hl
  refine lv_aload_n hx hb dX12_deep_0 rfl (lv_at hl 0 rfl) ?_
  refine lv_iload_n hx hb dX12_deep_1 rfl (lv_at hl 1 rfl) ?_
  refine lv_iload_n hx hb dX12_deep_2 rfl (lv_at hl 2 rfl) ?_
  refine lv_iload_n hx hb dX12_deep_3 rfl (lv_at hl 3 rfl) ?_
  refine g_vi (As := [.int a1, .int a2, .int a3]) (rest := []) S hG (by omega) (qX12_whyNot l hn h83 h84 a1 a2 a3) wV_12_472 h83 cpX12 (by omega) dX12_deep_4 rfl hl.1 (ar := 3) (by decide +kernel) rfl ⟨Nat.le_of_ble_eq_true rfl, Nat.le_of_ble_eq_true rfl, Nat.le_of_ble_eq_true rfl, Nat.le_of_ble_eq_true rfl⟩ (Nat.le_of_ble_eq_true rfl) (fun r_3 u_E_1 H locs hp_2 hG => ?_)
  obtain ⟨n_E_1, E_1⟩ := u_E_1
  dsimp only at hp_2 hG
  obtain ⟨rfl, nhp_2, ehp_2⟩ := hp_2
  have hG := gW_eq2 hG nhp_2 ehp_2
  refine lv_istore (lv' := [(4, .int (-2)), (0, .ref (b + 83)), (1, .int a1), (2, .int a2), (3, .int a3)]) hx hb dX12_deep_7 hl (by decide) rfl (fun ls hl => ?_)
  refine lv_iload hx hb dX12_deep_9 (lv_at hl 0 rfl) ?_
  refine lv_if_ge (tgt := 17) hx hb dX12_deep_11 (by decide) (fun c_4 => absurd c_4 (by decide)) (fun c_4 => ?_)
  refine lv_iload hx hb dX12_deep_14 (lv_at hl 0 rfl) ?_
  exact g_iret S hr hlk hG (by omega) dX12_deep_16 ⟨Nat.le_of_ble_eq_true rfl, Nat.le_of_ble_eq_true rfl⟩ ⟨rfl, rfl, rfl⟩
set_option maxHeartbeats 4000000 in
set_option maxRecDepth 100000 in
theorem qX12_atoms (l : Launch) {D : va_G} {cy : Nat → ClassId} {b n : Nat} (hn : 105 ≤ n) {E : Nat → va_E} (h83 : E 83 = Z83 b cy) (h84 : E 84 = Z84 b cy)  (a1 : Int32) (a2 : Int32) (a3 : Int32) (a4 : Int32) : gI l yX12_atoms cX12_atoms 6 (some .int) 3 0 0 D cy b n E [.ref (b + 83), .int a1, .int a2, .int a3, .int a4] (fun r u => r = (-2) ∧ u.1 = n ∧ u.2 = E) := by
  refine gI_of (by decide) (Nat.le_of_ble_eq_true rfl) ?_
  intro p e s m args below meth c S hr hlk hin hsz ls hl hG
  have hx := S.1
  have hb := S.2.1
  have hl : lv_has ls 6 [(0, .ref (b + 83)), (1, .int a1), (2, .int a2), (3, .int a3), (4, .int a4)] := hl
  refine lv_iload hx hb dX12_atoms_0 (lv_at hl 4 rfl) ?_
  refine lv_i2l hx hb dX12_atoms_2 rfl ?_
  refine lv_lconst (v := 0) hx hb dX12_atoms_3 (by decide) ?_
  refine lv_ldc2 (v := 25) hx hb S.2.2.2.1 (S.2.2.2.2 _ wm_2111) dX12_atoms_4 ?_
  refine g_si (As := [.long (Int32.toInt64 a4), .long 0, .long 25]) (rest := []) S hG (by omega) (qX12_in l hn  (Int32.toInt64 a4) 0 25) wS_12_97 dX12_atoms_7 rfl hl.1 (ar := 3) (by decide +kernel) rfl ⟨Nat.le_of_ble_eq_true rfl, Nat.le_of_ble_eq_true rfl, Nat.le_of_ble_eq_true rfl, Nat.le_of_ble_eq_true rfl⟩ (Nat.le_of_ble_eq_true rfl) (fun r_3 u_E_1 H locs hp_2 hG => ?_)
  obtain ⟨n_E_1, E_1⟩ := u_E_1
  dsimp only at hp_2 hG
  obtain ⟨hr_4, nhp_2, ehp_2⟩ := hp_2
  have hG := gW_eq2 hG nhp_2 ehp_2
  refine lv_if_eq (tgt := 23) hx hb dX12_atoms_10 (by decide) (fun c_5 => ?_) (fun c_5 => ?_)
  · refine lv_bipush (v := (-2)) hx hb dX12_atoms_23 (by decide) ?_
    refine lv_istore (lv' := [(5, .int (-2)), (0, .ref (b + 83)), (1, .int a1), (2, .int a2), (3, .int a3), (4, .int a4)]) hx hb dX12_atoms_25 hl (by decide) rfl (fun ls hl => ?_)
    refine lv_iload hx hb dX12_atoms_27 (lv_at hl 0 rfl) ?_
    refine lv_if_ge (tgt := 35) hx hb dX12_atoms_29 (by decide) (fun c_6 => absurd c_6 (by decide)) (fun c_6 => ?_)
    refine lv_iload hx hb dX12_atoms_32 (lv_at hl 0 rfl) ?_
    exact g_iret S hr hlk hG (by omega) dX12_atoms_34 ⟨Nat.le_of_ble_eq_true rfl, Nat.le_of_ble_eq_true rfl⟩ ⟨rfl, rfl, rfl⟩
  · refine lv_aload_n hx hb dX12_atoms_13 rfl (lv_at hl 0 rfl) ?_
    refine lv_iload_n hx hb dX12_atoms_14 rfl (lv_at hl 1 rfl) ?_
    refine lv_iload_n hx hb dX12_atoms_15 rfl (lv_at hl 2 rfl) ?_
    refine lv_iload_n hx hb dX12_atoms_16 rfl (lv_at hl 3 rfl) ?_
    refine g_vi (As := [.int a1, .int a2, .int a3]) (rest := []) S hG (by omega) (qX12_whyNot l hn h83 h84 a1 a2 a3) wV_12_472 h83 cpX12 (by omega) dX12_atoms_17 rfl hl.1 (ar := 3) (by decide +kernel) rfl ⟨Nat.le_of_ble_eq_true rfl, Nat.le_of_ble_eq_true rfl, Nat.le_of_ble_eq_true rfl, Nat.le_of_ble_eq_true rfl⟩ (Nat.le_of_ble_eq_true rfl) (fun r_9 u_E_7 H locs hp_8 hG => ?_)
    obtain ⟨n_E_7, E_7⟩ := u_E_7
    dsimp only at hp_8 hG
    obtain ⟨rfl, nhp_8, ehp_8⟩ := hp_8
    have hG := gW_eq2 hG nhp_8 ehp_8
    refine lv_goto (tgt := 25) hx hb dX12_atoms_20 (by decide) ?_
    refine lv_istore (lv' := [(5, .int (-2)), (0, .ref (b + 83)), (1, .int a1), (2, .int a2), (3, .int a3), (4, .int a4)]) hx hb dX12_atoms_25 hl (by decide) rfl (fun ls hl => ?_)
    refine lv_iload hx hb dX12_atoms_27 (lv_at hl 0 rfl) ?_
    refine lv_if_ge (tgt := 35) hx hb dX12_atoms_29 (by decide) (fun c_10 => absurd c_10 (by decide)) (fun c_10 => ?_)
    refine lv_iload hx hb dX12_atoms_32 (lv_at hl 0 rfl) ?_
    exact g_iret S hr hlk hG (by omega) dX12_atoms_34 ⟨Nat.le_of_ble_eq_true rfl, Nat.le_of_ble_eq_true rfl⟩ ⟨rfl, rfl, rfl⟩
set_option maxHeartbeats 4000000 in
set_option maxRecDepth 100000 in
theorem qX12_term (l : Launch) {D : va_G} {cy : Nat → ClassId} {b n : Nat} (hn : 105 ≤ n) {E : Nat → va_E} (h83 : E 83 = Z83 b cy) (h84 : E 84 = Z84 b cy)  (a1 : Int32) (a2 : Int32) (a3 : Int32) : gI l yX12_term cX12_term 5 (some .int) 3 0 0 D cy b n E [.ref (b + 83), .int a1, .int a2, .int a3] (fun r u => r = (-2) ∧ u.1 = n ∧ u.2 = E) := by
  refine gI_of (by decide) (Nat.le_of_ble_eq_true rfl) ?_
  intro p e s m args below meth c S hr hlk hin hsz ls hl hG
  have hx := S.1
  have hb := S.2.1
  have hl : lv_has ls 5 [(0, .ref (b + 83)), (1, .int a1), (2, .int a2), (3, .int a3)] := hl
  refine lv_aload_n hx hb dX12_term_0 rfl (lv_at hl 0 rfl) ?_
  refine lv_iload_n hx hb dX12_term_1 rfl (lv_at hl 1 rfl) ?_
  refine lv_iload_n hx hb dX12_term_2 rfl (lv_at hl 2 rfl) ?_
  refine lv_iload_n hx hb dX12_term_3 rfl (lv_at hl 3 rfl) ?_
  refine g_vi (As := [.int a1, .int a2, .int a3]) (rest := []) S hG (by omega) (qX12_whyNot l hn h83 h84 a1 a2 a3) wV_12_472 h83 cpX12 (by omega) dX12_term_4 rfl hl.1 (ar := 3) (by decide +kernel) rfl ⟨Nat.le_of_ble_eq_true rfl, Nat.le_of_ble_eq_true rfl, Nat.le_of_ble_eq_true rfl, Nat.le_of_ble_eq_true rfl⟩ (Nat.le_of_ble_eq_true rfl) (fun r_3 u_E_1 H locs hp_2 hG => ?_)
  obtain ⟨n_E_1, E_1⟩ := u_E_1
  dsimp only at hp_2 hG
  obtain ⟨rfl, nhp_2, ehp_2⟩ := hp_2
  have hG := gW_eq2 hG nhp_2 ehp_2
  refine lv_istore (lv' := [(4, .int (-2)), (0, .ref (b + 83)), (1, .int a1), (2, .int a2), (3, .int a3)]) hx hb dX12_term_7 hl (by decide) rfl (fun ls hl => ?_)
  refine lv_iload hx hb dX12_term_9 (lv_at hl 0 rfl) ?_
  refine lv_if_ge (tgt := 17) hx hb dX12_term_11 (by decide) (fun c_4 => absurd c_4 (by decide)) (fun c_4 => ?_)
  refine lv_iload hx hb dX12_term_14 (lv_at hl 0 rfl) ?_
  exact g_iret S hr hlk hG (by omega) dX12_term_16 ⟨Nat.le_of_ble_eq_true rfl, Nat.le_of_ble_eq_true rfl⟩ ⟨rfl, rfl, rfl⟩
set_option maxHeartbeats 4000000 in
set_option maxRecDepth 100000 in
theorem qX12_symmetries (l : Launch) {D : va_G} {cy : Nat → ClassId} {b n : Nat} (hn : 105 ≤ n) {E : Nat → va_E} (h83 : E 83 = Z83 b cy) (h84 : E 84 = Z84 b cy)  (a1 : Int32) (a2 : Int32) (a3 : Int32) : gI l yX12_symmetries cX12_symmetries 5 (some .int) 3 0 0 D cy b n E [.ref (b + 83), .int a1, .int a2, .int a3] (fun r u => r = (-2) ∧ u.1 = n ∧ u.2 = E) := by
  refine gI_of (by decide) (Nat.le_of_ble_eq_true rfl) ?_
  intro p e s m args below meth c S hr hlk hin hsz ls hl hG
  have hx := S.1
  have hb := S.2.1
  have hl : lv_has ls 5 [(0, .ref (b + 83)), (1, .int a1), (2, .int a2), (3, .int a3)] := hl
  refine lv_aload_n hx hb dX12_symmetries_0 rfl (lv_at hl 0 rfl) ?_
  refine lv_iload_n hx hb dX12_symmetries_1 rfl (lv_at hl 1 rfl) ?_
  refine lv_iload_n hx hb dX12_symmetries_2 rfl (lv_at hl 2 rfl) ?_
  refine lv_iload_n hx hb dX12_symmetries_3 rfl (lv_at hl 3 rfl) ?_
  refine g_vi (As := [.int a1, .int a2, .int a3]) (rest := []) S hG (by omega) (qX12_whyNot l hn h83 h84 a1 a2 a3) wV_12_472 h83 cpX12 (by omega) dX12_symmetries_4 rfl hl.1 (ar := 3) (by decide +kernel) rfl ⟨Nat.le_of_ble_eq_true rfl, Nat.le_of_ble_eq_true rfl, Nat.le_of_ble_eq_true rfl, Nat.le_of_ble_eq_true rfl⟩ (Nat.le_of_ble_eq_true rfl) (fun r_3 u_E_1 H locs hp_2 hG => ?_)
  obtain ⟨n_E_1, E_1⟩ := u_E_1
  dsimp only at hp_2 hG
  obtain ⟨rfl, nhp_2, ehp_2⟩ := hp_2
  have hG := gW_eq2 hG nhp_2 ehp_2
  refine lv_istore (lv' := [(4, .int (-2)), (0, .ref (b + 83)), (1, .int a1), (2, .int a2), (3, .int a3)]) hx hb dX12_symmetries_7 hl (by decide) rfl (fun ls hl => ?_)
  refine lv_iload hx hb dX12_symmetries_9 (lv_at hl 0 rfl) ?_
  refine lv_if_ge (tgt := 17) hx hb dX12_symmetries_11 (by decide) (fun c_4 => absurd c_4 (by decide)) (fun c_4 => ?_)
  refine lv_iload hx hb dX12_symmetries_14 (lv_at hl 0 rfl) ?_
  exact g_iret S hr hlk hG (by omega) dX12_symmetries_16 ⟨Nat.le_of_ble_eq_true rfl, Nat.le_of_ble_eq_true rfl⟩ ⟨rfl, rfl, rfl⟩
theorem wV_12_479 : gWV "GrownKindsModel" 479 yX12_symmetries cX12_symmetries 5 (some .int) := ⟨wm_2285, wm_2278, wm_2279, wm_187, wm_2280, by decide +kernel, by decide +kernel⟩
set_option maxHeartbeats 4000000 in
set_option maxRecDepth 100000 in
theorem qX12_labels (l : Launch) {D : va_G} {cy : Nat → ClassId} {b n : Nat} (hn : 105 ≤ n) {E : Nat → va_E} (h83 : E 83 = Z83 b cy) (h84 : E 84 = Z84 b cy)  (a1 : Int32) (a2 : Int32) (a3 : Int32) : gI l yX12_labels cX12_labels 5 (some .int) 4 0 0 D cy b n E [.ref (b + 83), .int a1, .int a2, .int a3] (fun r u => r = (-2) ∧ u.1 = n ∧ u.2 = E) := by
  refine gI_of (by decide) (Nat.le_of_ble_eq_true rfl) ?_
  intro p e s m args below meth c S hr hlk hin hsz ls hl hG
  have hx := S.1
  have hb := S.2.1
  have hl : lv_has ls 5 [(0, .ref (b + 83)), (1, .int a1), (2, .int a2), (3, .int a3)] := hl
  refine lv_aload_n hx hb dX12_labels_0 rfl (lv_at hl 0 rfl) ?_
  refine lv_iload_n hx hb dX12_labels_1 rfl (lv_at hl 1 rfl) ?_
  refine lv_iload_n hx hb dX12_labels_2 rfl (lv_at hl 2 rfl) ?_
  refine lv_iload_n hx hb dX12_labels_3 rfl (lv_at hl 3 rfl) ?_
  refine g_vi (As := [.int a1, .int a2, .int a3]) (rest := []) S hG (by omega) (qX12_symmetries l hn h83 h84 a1 a2 a3) wV_12_479 h83 cpX12 (by omega) dX12_labels_4 rfl hl.1 (ar := 3) (by decide +kernel) rfl ⟨Nat.le_of_ble_eq_true rfl, Nat.le_of_ble_eq_true rfl, Nat.le_of_ble_eq_true rfl, Nat.le_of_ble_eq_true rfl⟩ (Nat.le_of_ble_eq_true rfl) (fun r_3 u_E_1 H locs hp_2 hG => ?_)
  obtain ⟨n_E_1, E_1⟩ := u_E_1
  dsimp only at hp_2 hG
  obtain ⟨rfl, nhp_2, ehp_2⟩ := hp_2
  have hG := gW_eq2 hG nhp_2 ehp_2
  refine lv_istore (lv' := [(4, .int (-2)), (0, .ref (b + 83)), (1, .int a1), (2, .int a2), (3, .int a3)]) hx hb dX12_labels_7 hl (by decide) rfl (fun ls hl => ?_)
  refine lv_iload hx hb dX12_labels_9 (lv_at hl 0 rfl) ?_
  refine lv_if_ge (tgt := 19) hx hb dX12_labels_11 (by decide) (fun c_4 => absurd c_4 (by decide)) (fun c_4 => ?_)
  refine lv_iload hx hb dX12_labels_14 (lv_at hl 0 rfl) ?_
  refine lv_goto (tgt := 27) hx hb dX12_labels_16 (by decide) ?_
  exact g_iret S hr hlk hG (by omega) dX12_labels_27 ⟨Nat.le_of_ble_eq_true rfl, Nat.le_of_ble_eq_true rfl⟩ ⟨rfl, rfl, rfl⟩
set_option maxHeartbeats 4000000 in
set_option maxRecDepth 100000 in
theorem qX12_tells (l : Launch) {D : va_G} {cy : Nat → ClassId} {b n : Nat} (hn : 105 ≤ n) {E : Nat → va_E} (h83 : E 83 = Z83 b cy) (h84 : E 84 = Z84 b cy)  (a1 : Int32) : gI l yX12_tells cX12_tells 7 (some .int) 2 0 0 D cy b n E [.ref (b + 83), .int a1] (fun r u => r = (-2) ∧ u.1 = n ∧ u.2 = E) := by
  refine gI_of (by decide) (Nat.le_of_ble_eq_true rfl) ?_
  intro p e s m args below meth c S hr hlk hin hsz ls hl hG
  have hx := S.1
  have hb := S.2.1
  have hl : lv_has ls 7 [(0, .ref (b + 83)), (1, .int a1)] := hl
  refine lv_aload_n hx hb dX12_tells_0 rfl (lv_at hl 0 rfl) ?_
  refine lv_iload_n hx hb dX12_tells_1 rfl (lv_at hl 1 rfl) ?_
  refine g_vi (As := [.int a1]) (rest := []) S hG (by omega) (qX12_isKind l hn h83 h84 a1) wV_12_225 h83 cpX12 (by omega) dX12_tells_2 rfl hl.1 (ar := 1) (by decide +kernel) rfl ⟨Nat.le_of_ble_eq_true rfl, Nat.le_of_ble_eq_true rfl, Nat.le_of_ble_eq_true rfl, Nat.le_of_ble_eq_true rfl⟩ (Nat.le_of_ble_eq_true rfl) (fun r_3 u_E_1 H locs hp_2 hG => ?_)
  obtain ⟨n_E_1, E_1⟩ := u_E_1
  dsimp only at hp_2 hG
  obtain ⟨rfl, nhp_2, ehp_2⟩ := hp_2
  have hG := gW_eq2 hG nhp_2 ehp_2
  refine lv_if_ne (tgt := 11) hx hb dX12_tells_5 (by decide) (fun c_4 => absurd c_4 (by decide)) (fun c_4 => ?_)
  refine lv_bipush (v := (-2)) hx hb dX12_tells_8 (by decide) ?_
  exact g_iret S hr hlk hG (by omega) dX12_tells_10 ⟨Nat.le_of_ble_eq_true rfl, Nat.le_of_ble_eq_true rfl⟩ ⟨rfl, rfl, rfl⟩
set_option maxHeartbeats 4000000 in
set_option maxRecDepth 100000 in
theorem qX12_shared (l : Launch) {D : va_G} {cy : Nat → ClassId} {b n : Nat} (hn : 105 ≤ n) {E : Nat → va_E} (h83 : E 83 = Z83 b cy) (h84 : E 84 = Z84 b cy)  (a1 : Int32) (a2 : Int32) (a3 : Int32) : gI l yX12_shared cX12_shared 7 (some .int) 2 0 0 D cy b n E [.ref (b + 83), .int a1, .int a2, .int a3] (fun r u => r = (-2) ∧ u.1 = n ∧ u.2 = E) := by
  refine gI_of (by decide) (Nat.le_of_ble_eq_true rfl) ?_
  intro p e s m args below meth c S hr hlk hin hsz ls hl hG
  have hx := S.1
  have hb := S.2.1
  have hl : lv_has ls 7 [(0, .ref (b + 83)), (1, .int a1), (2, .int a2), (3, .int a3)] := hl
  refine lv_aload_n hx hb dX12_shared_0 rfl (lv_at hl 0 rfl) ?_
  refine lv_iload_n hx hb dX12_shared_1 rfl (lv_at hl 2 rfl) ?_
  refine g_vi (As := [.int a2]) (rest := []) S hG (by omega) (qX12_isKind l hn h83 h84 a2) wV_12_225 h83 cpX12 (by omega) dX12_shared_2 rfl hl.1 (ar := 1) (by decide +kernel) rfl ⟨Nat.le_of_ble_eq_true rfl, Nat.le_of_ble_eq_true rfl, Nat.le_of_ble_eq_true rfl, Nat.le_of_ble_eq_true rfl⟩ (Nat.le_of_ble_eq_true rfl) (fun r_3 u_E_1 H locs hp_2 hG => ?_)
  obtain ⟨n_E_1, E_1⟩ := u_E_1
  dsimp only at hp_2 hG
  obtain ⟨rfl, nhp_2, ehp_2⟩ := hp_2
  have hG := gW_eq2 hG nhp_2 ehp_2
  refine lv_if_eq (tgt := 17) hx hb dX12_shared_5 (by decide) (fun c_4 => ?_) (fun c_4 => absurd c_4 (by decide))
  refine lv_bipush (v := (-2)) hx hb dX12_shared_17 (by decide) ?_
  refine lv_istore (lv' := [(4, .int (-2)), (0, .ref (b + 83)), (1, .int a1), (2, .int a2), (3, .int a3)]) hx hb dX12_shared_19 hl (by decide) rfl (fun ls hl => ?_)
  refine lv_iload hx hb dX12_shared_21 (lv_at hl 0 rfl) ?_
  refine lv_iconst (v := (-1)) hx hb dX12_shared_23 (by decide) ?_
  refine lv_icmp_ge (tgt := 30) hx hb dX12_shared_24 (by decide) (fun c_5 => absurd c_5 (by decide)) (fun c_5 => ?_)
  refine lv_iload hx hb dX12_shared_27 (lv_at hl 0 rfl) ?_
  exact g_iret S hr hlk hG (by omega) dX12_shared_29 ⟨Nat.le_of_ble_eq_true rfl, Nat.le_of_ble_eq_true rfl⟩ ⟨rfl, rfl, rfl⟩
theorem wV_12_534 : gWV "GrownKindsModel" 534 yX12_whyNone cX12_whyNone 3 (some .int) := ⟨wm_2354, wm_2356, wm_169, wm_187, wm_2357, by decide +kernel, by decide +kernel⟩
set_option maxHeartbeats 4000000 in
set_option maxRecDepth 100000 in
theorem qX12_most (l : Launch) {D : va_G} {cy : Nat → ClassId} {b n : Nat} (hn : 105 ≤ n) {E : Nat → va_E} (h83 : E 83 = Z83 b cy) (h84 : E 84 = Z84 b cy)  (a1 : Int32) (a2 : Int32) (a3 : Int32) (a4 : Int32) : gI l yX12_most cX12_most 10 (some .int) 3 0 0 D cy b n E [.ref (b + 83), .int a1, .int a2, .int a3, .int a4] (fun r u => r = (-2) ∧ u.1 = n ∧ u.2 = E) := by
  refine gI_of (by decide) (Nat.le_of_ble_eq_true rfl) ?_
  intro p e s m args below meth c S hr hlk hin hsz ls hl hG
  have hx := S.1
  have hb := S.2.1
  have hl : lv_has ls 10 [(0, .ref (b + 83)), (1, .int a1), (2, .int a2), (3, .int a3), (4, .int a4)] := hl
  refine lv_aload_n hx hb dX12_most_0 rfl (lv_at hl 0 rfl) ?_
  refine lv_iload_n hx hb dX12_most_1 rfl (lv_at hl 1 rfl) ?_
  refine lv_iload_n hx hb dX12_most_2 rfl (lv_at hl 2 rfl) ?_
  refine g_vi (As := [.int a1, .int a2]) (rest := []) S hG (by omega) (qX12_whyNone l hn h83 h84 a1 a2) wV_12_534 h83 cpX12 (by omega) dX12_most_3 rfl hl.1 (ar := 2) (by decide +kernel) rfl ⟨Nat.le_of_ble_eq_true rfl, Nat.le_of_ble_eq_true rfl, Nat.le_of_ble_eq_true rfl, Nat.le_of_ble_eq_true rfl⟩ (Nat.le_of_ble_eq_true rfl) (fun r_3 u_E_1 H locs hp_2 hG => ?_)
  obtain ⟨n_E_1, E_1⟩ := u_E_1
  dsimp only at hp_2 hG
  obtain ⟨rfl, nhp_2, ehp_2⟩ := hp_2
  have hG := gW_eq2 hG nhp_2 ehp_2
  refine lv_istore (lv' := [(5, .int (-2)), (0, .ref (b + 83)), (1, .int a1), (2, .int a2), (3, .int a3), (4, .int a4)]) hx hb dX12_most_6 hl (by decide) rfl (fun ls hl => ?_)
  refine lv_iload hx hb dX12_most_8 (lv_at hl 0 rfl) ?_
  refine lv_if_ge (tgt := 16) hx hb dX12_most_10 (by decide) (fun c_4 => absurd c_4 (by decide)) (fun c_4 => ?_)
  refine lv_iload hx hb dX12_most_13 (lv_at hl 0 rfl) ?_
  exact g_iret S hr hlk hG (by omega) dX12_most_15 ⟨Nat.le_of_ble_eq_true rfl, Nat.le_of_ble_eq_true rfl⟩ ⟨rfl, rfl, rfl⟩
theorem wV_12_537 : gWV "GrownKindsModel" 537 yX12_most cX12_most 10 (some .int) := ⟨wm_2362, wm_2364, wm_170, wm_187, wm_2365, by decide +kernel, by decide +kernel⟩
set_option maxHeartbeats 4000000 in
set_option maxRecDepth 100000 in
theorem qX12_deepest (l : Launch) {D : va_G} {cy : Nat → ClassId} {b n : Nat} (hn : 105 ≤ n) {E : Nat → va_E} (h83 : E 83 = Z83 b cy) (h84 : E 84 = Z84 b cy)  (a1 : Int32) (a2 : Int32) : gI l yX12_deepest cX12_deepest 3 (some .int) 4 0 0 D cy b n E [.ref (b + 83), .int a1, .int a2] (fun r u => r = (-2) ∧ u.1 = n ∧ u.2 = E) := by
  refine gI_of (by decide) (Nat.le_of_ble_eq_true rfl) ?_
  intro p e s m args below meth c S hr hlk hin hsz ls hl hG
  have hx := S.1
  have hb := S.2.1
  have hl : lv_has ls 3 [(0, .ref (b + 83)), (1, .int a1), (2, .int a2)] := hl
  refine lv_aload_n hx hb dX12_deepest_0 rfl (lv_at hl 0 rfl) ?_
  refine lv_iload_n hx hb dX12_deepest_1 rfl (lv_at hl 1 rfl) ?_
  refine lv_iload_n hx hb dX12_deepest_2 rfl (lv_at hl 2 rfl) ?_
  refine lv_iconst (v := 0) hx hb dX12_deepest_3 (by decide) ?_
  refine lv_iconst (v := (-1)) hx hb dX12_deepest_4 (by decide) ?_
  refine g_vi (As := [.int a1, .int a2, .int 0, .int (-1)]) (rest := []) S hG (by omega) (qX12_most l hn h83 h84 a1 a2 0 (-1)) wV_12_537 h83 cpX12 (by omega) dX12_deepest_5 rfl hl.1 (ar := 4) (by decide +kernel) rfl ⟨Nat.le_of_ble_eq_true rfl, Nat.le_of_ble_eq_true rfl, Nat.le_of_ble_eq_true rfl, Nat.le_of_ble_eq_true rfl⟩ (Nat.le_of_ble_eq_true rfl) (fun r_3 u_E_1 H locs hp_2 hG => ?_)
  obtain ⟨n_E_1, E_1⟩ := u_E_1
  dsimp only at hp_2 hG
  obtain ⟨rfl, nhp_2, ehp_2⟩ := hp_2
  have hG := gW_eq2 hG nhp_2 ehp_2
  exact g_iret S hr hlk hG (by omega) dX12_deepest_8 ⟨Nat.le_of_ble_eq_true rfl, Nat.le_of_ble_eq_true rfl⟩ ⟨rfl, rfl, rfl⟩
set_option maxHeartbeats 4000000 in
set_option maxRecDepth 100000 in
theorem qX12_fullest (l : Launch) {D : va_G} {cy : Nat → ClassId} {b n : Nat} (hn : 105 ≤ n) {E : Nat → va_E} (h83 : E 83 = Z83 b cy) (h84 : E 84 = Z84 b cy)  (a1 : Int32) (a2 : Int32) (a3 : Int32) : gI l yX12_fullest cX12_fullest 4 (some .int) 4 0 0 D cy b n E [.ref (b + 83), .int a1, .int a2, .int a3] (fun r u => r = (-2) ∧ u.1 = n ∧ u.2 = E) := by
  refine gI_of (by decide) (Nat.le_of_ble_eq_true rfl) ?_
  intro p e s m args below meth c S hr hlk hin hsz ls hl hG
  have hx := S.1
  have hb := S.2.1
  have hl : lv_has ls 4 [(0, .ref (b + 83)), (1, .int a1), (2, .int a2), (3, .int a3)] := hl
  refine lv_iload_n hx hb dX12_fullest_0 rfl (lv_at hl 3 rfl) ?_
  refine lv_i2l hx hb dX12_fullest_1 rfl ?_
  refine lv_lconst (v := 0) hx hb dX12_fullest_2 (by decide) ?_
  refine lv_ldc2 (v := 25) hx hb S.2.2.2.1 (S.2.2.2.2 _ wm_2111) dX12_fullest_3 ?_
  refine g_si (As := [.long (Int32.toInt64 a3), .long 0, .long 25]) (rest := []) S hG (by omega) (qX12_in l hn  (Int32.toInt64 a3) 0 25) wS_12_97 dX12_fullest_6 rfl hl.1 (ar := 3) (by decide +kernel) rfl ⟨Nat.le_of_ble_eq_true rfl, Nat.le_of_ble_eq_true rfl, Nat.le_of_ble_eq_true rfl, Nat.le_of_ble_eq_true rfl⟩ (Nat.le_of_ble_eq_true rfl) (fun r_3 u_E_1 H locs hp_2 hG => ?_)
  obtain ⟨n_E_1, E_1⟩ := u_E_1
  dsimp only at hp_2 hG
  obtain ⟨hr_4, nhp_2, ehp_2⟩ := hp_2
  have hG := gW_eq2 hG nhp_2 ehp_2
  refine lv_if_eq (tgt := 23) hx hb dX12_fullest_9 (by decide) (fun c_5 => ?_) (fun c_5 => ?_)
  · refine lv_bipush (v := (-2)) hx hb dX12_fullest_23 (by decide) ?_
    exact g_iret S hr hlk hG (by omega) dX12_fullest_25 ⟨Nat.le_of_ble_eq_true rfl, Nat.le_of_ble_eq_true rfl⟩ ⟨rfl, rfl, rfl⟩
  · refine lv_aload_n hx hb dX12_fullest_12 rfl (lv_at hl 0 rfl) ?_
    refine lv_iload_n hx hb dX12_fullest_13 rfl (lv_at hl 1 rfl) ?_
    refine lv_iload_n hx hb dX12_fullest_14 rfl (lv_at hl 2 rfl) ?_
    refine lv_iconst (v := 1) hx hb dX12_fullest_15 (by decide) ?_
    refine lv_iload_n hx hb dX12_fullest_16 rfl (lv_at hl 3 rfl) ?_
    refine g_vi (As := [.int a1, .int a2, .int 1, .int a3]) (rest := []) S hG (by omega) (qX12_most l hn h83 h84 a1 a2 1 a3) wV_12_537 h83 cpX12 (by omega) dX12_fullest_17 rfl hl.1 (ar := 4) (by decide +kernel) rfl ⟨Nat.le_of_ble_eq_true rfl, Nat.le_of_ble_eq_true rfl, Nat.le_of_ble_eq_true rfl, Nat.le_of_ble_eq_true rfl⟩ (Nat.le_of_ble_eq_true rfl) (fun r_8 u_E_6 H locs hp_7 hG => ?_)
    obtain ⟨n_E_6, E_6⟩ := u_E_6
    dsimp only at hp_7 hG
    obtain ⟨rfl, nhp_7, ehp_7⟩ := hp_7
    have hG := gW_eq2 hG nhp_7 ehp_7
    refine lv_goto (tgt := 25) hx hb dX12_fullest_20 (by decide) ?_
    exact g_iret S hr hlk hG (by omega) dX12_fullest_25 ⟨Nat.le_of_ble_eq_true rfl, Nat.le_of_ble_eq_true rfl⟩ ⟨rfl, rfl, rfl⟩
set_option maxHeartbeats 4000000 in
set_option maxRecDepth 100000 in
theorem qX12_stiffest (l : Launch) {D : va_G} {cy : Nat → ClassId} {b n : Nat} (hn : 105 ≤ n) {E : Nat → va_E} (h83 : E 83 = Z83 b cy) (h84 : E 84 = Z84 b cy)  (a1 : Int32) (a2 : Int32) : gI l yX12_stiffest cX12_stiffest 3 (some .int) 4 0 0 D cy b n E [.ref (b + 83), .int a1, .int a2] (fun r u => r = (-2) ∧ u.1 = n ∧ u.2 = E) := by
  refine gI_of (by decide) (Nat.le_of_ble_eq_true rfl) ?_
  intro p e s m args below meth c S hr hlk hin hsz ls hl hG
  have hx := S.1
  have hb := S.2.1
  have hl : lv_has ls 3 [(0, .ref (b + 83)), (1, .int a1), (2, .int a2)] := hl
  refine lv_aload_n hx hb dX12_stiffest_0 rfl (lv_at hl 0 rfl) ?_
  refine lv_iload_n hx hb dX12_stiffest_1 rfl (lv_at hl 1 rfl) ?_
  refine lv_iload_n hx hb dX12_stiffest_2 rfl (lv_at hl 2 rfl) ?_
  refine lv_iconst (v := 2) hx hb dX12_stiffest_3 (by decide) ?_
  refine lv_iconst (v := (-1)) hx hb dX12_stiffest_4 (by decide) ?_
  refine g_vi (As := [.int a1, .int a2, .int 2, .int (-1)]) (rest := []) S hG (by omega) (qX12_most l hn h83 h84 a1 a2 2 (-1)) wV_12_537 h83 cpX12 (by omega) dX12_stiffest_5 rfl hl.1 (ar := 4) (by decide +kernel) rfl ⟨Nat.le_of_ble_eq_true rfl, Nat.le_of_ble_eq_true rfl, Nat.le_of_ble_eq_true rfl, Nat.le_of_ble_eq_true rfl⟩ (Nat.le_of_ble_eq_true rfl) (fun r_3 u_E_1 H locs hp_2 hG => ?_)
  obtain ⟨n_E_1, E_1⟩ := u_E_1
  dsimp only at hp_2 hG
  obtain ⟨rfl, nhp_2, ehp_2⟩ := hp_2
  have hG := gW_eq2 hG nhp_2 ehp_2
  exact g_iret S hr hlk hG (by omega) dX12_stiffest_8 ⟨Nat.le_of_ble_eq_true rfl, Nat.le_of_ble_eq_true rfl⟩ ⟨rfl, rfl, rfl⟩
set_option maxHeartbeats 4000000 in
set_option maxRecDepth 100000 in
theorem qX12_chance (l : Launch) {D : va_G} {cy : Nat → ClassId} {b n : Nat} (hn : 105 ≤ n) {E : Nat → va_E} (h83 : E 83 = Z83 b cy) (h84 : E 84 = Z84 b cy)  (a1 : Int32) (a2 : Int32) (a3 : Int32) (a4 : Int32) : gI l yX12_chance cX12_chance 6 (some .int) 3 0 0 D cy b n E [.ref (b + 83), .int a1, .int a2, .int a3, .int a4] (fun r u => r = (-2) ∧ u.1 = n ∧ u.2 = E) := by
  refine gI_of (by decide) (Nat.le_of_ble_eq_true rfl) ?_
  intro p e s m args below meth c S hr hlk hin hsz ls hl hG
  have hx := S.1
  have hb := S.2.1
  have hl : lv_has ls 6 [(0, .ref (b + 83)), (1, .int a1), (2, .int a2), (3, .int a3), (4, .int a4)] := hl
  refine lv_aload_n hx hb dX12_chance_0 rfl (lv_at hl 0 rfl) ?_
  refine lv_iload_n hx hb dX12_chance_1 rfl (lv_at hl 1 rfl) ?_
  refine lv_iload_n hx hb dX12_chance_2 rfl (lv_at hl 3 rfl) ?_
  refine g_vi (As := [.int a1, .int a3]) (rest := []) S hG (by omega) (qX12_isTerm l hn h83 h84 a1 a3) wV_12_344 h83 cpX12 (by omega) dX12_chance_3 rfl hl.1 (ar := 2) (by decide +kernel) rfl ⟨Nat.le_of_ble_eq_true rfl, Nat.le_of_ble_eq_true rfl, Nat.le_of_ble_eq_true rfl, Nat.le_of_ble_eq_true rfl⟩ (Nat.le_of_ble_eq_true rfl) (fun r_3 u_E_1 H locs hp_2 hG => ?_)
  obtain ⟨n_E_1, E_1⟩ := u_E_1
  dsimp only at hp_2 hG
  obtain ⟨rfl, nhp_2, ehp_2⟩ := hp_2
  have hG := gW_eq2 hG nhp_2 ehp_2
  refine lv_if_eq (tgt := 29) hx hb dX12_chance_6 (by decide) (fun c_4 => ?_) (fun c_4 => absurd c_4 (by decide))
  refine lv_bipush (v := (-2)) hx hb dX12_chance_29 (by decide) ?_
  refine lv_istore (lv' := [(5, .int (-2)), (0, .ref (b + 83)), (1, .int a1), (2, .int a2), (3, .int a3), (4, .int a4)]) hx hb dX12_chance_31 hl (by decide) rfl (fun ls hl => ?_)
  refine lv_iload hx hb dX12_chance_33 (lv_at hl 0 rfl) ?_
  refine lv_if_ge (tgt := 43) hx hb dX12_chance_35 (by decide) (fun c_5 => absurd c_5 (by decide)) (fun c_5 => ?_)
  refine lv_iload hx hb dX12_chance_38 (lv_at hl 0 rfl) ?_
  refine lv_goto (tgt := 63) hx hb dX12_chance_40 (by decide) ?_
  exact g_iret S hr hlk hG (by omega) dX12_chance_63 ⟨Nat.le_of_ble_eq_true rfl, Nat.le_of_ble_eq_true rfl⟩ ⟨rfl, rfl, rfl⟩
set_option maxHeartbeats 4000000 in
set_option maxRecDepth 100000 in
theorem qX12_mean (l : Launch) {D : va_G} {cy : Nat → ClassId} {b n : Nat} (hn : 105 ≤ n) {E : Nat → va_E} (h83 : E 83 = Z83 b cy) (h84 : E 84 = Z84 b cy)  (a1 : Int32) (a2 : Int32) (a3 : Int32) (a4 : Int32) : gI l yX12_mean cX12_mean 8 (some .int) 3 0 0 D cy b n E [.ref (b + 83), .int a1, .int a2, .int a3, .int a4] (fun r u => r = (-2) ∧ u.1 = n ∧ u.2 = E) := by
  refine gI_of (by decide) (Nat.le_of_ble_eq_true rfl) ?_
  intro p e s m args below meth c S hr hlk hin hsz ls hl hG
  have hx := S.1
  have hb := S.2.1
  have hl : lv_has ls 8 [(0, .ref (b + 83)), (1, .int a1), (2, .int a2), (3, .int a3), (4, .int a4)] := hl
  refine lv_iload_n hx hb dX12_mean_0 rfl (lv_at hl 3 rfl) ?_
  refine lv_i2l hx hb dX12_mean_1 rfl ?_
  refine lv_lconst (v := 0) hx hb dX12_mean_2 (by decide) ?_
  refine lv_ldc2 (v := 25) hx hb S.2.2.2.1 (S.2.2.2.2 _ wm_2111) dX12_mean_3 ?_
  refine g_si (As := [.long (Int32.toInt64 a3), .long 0, .long 25]) (rest := []) S hG (by omega) (qX12_in l hn  (Int32.toInt64 a3) 0 25) wS_12_97 dX12_mean_6 rfl hl.1 (ar := 3) (by decide +kernel) rfl ⟨Nat.le_of_ble_eq_true rfl, Nat.le_of_ble_eq_true rfl, Nat.le_of_ble_eq_true rfl, Nat.le_of_ble_eq_true rfl⟩ (Nat.le_of_ble_eq_true rfl) (fun r_3 u_E_1 H locs hp_2 hG => ?_)
  obtain ⟨n_E_1, E_1⟩ := u_E_1
  dsimp only at hp_2 hG
  obtain ⟨hr_4, nhp_2, ehp_2⟩ := hp_2
  have hG := gW_eq2 hG nhp_2 ehp_2
  refine lv_if_eq (tgt := 32) hx hb dX12_mean_9 (by decide) (fun c_5 => ?_) (fun c_5 => ?_)
  · refine lv_bipush (v := (-2)) hx hb dX12_mean_32 (by decide) ?_
    refine lv_istore (lv' := [(5, .int (-2)), (0, .ref (b + 83)), (1, .int a1), (2, .int a2), (3, .int a3), (4, .int a4)]) hx hb dX12_mean_34 hl (by decide) rfl (fun ls hl => ?_)
    refine lv_iload hx hb dX12_mean_36 (lv_at hl 0 rfl) ?_
    refine lv_if_ge (tgt := 44) hx hb dX12_mean_38 (by decide) (fun c_6 => absurd c_6 (by decide)) (fun c_6 => ?_)
    refine lv_iload hx hb dX12_mean_41 (lv_at hl 0 rfl) ?_
    exact g_iret S hr hlk hG (by omega) dX12_mean_43 ⟨Nat.le_of_ble_eq_true rfl, Nat.le_of_ble_eq_true rfl⟩ ⟨rfl, rfl, rfl⟩
  · refine lv_iload hx hb dX12_mean_12 (lv_at hl 4 rfl) ?_
    refine lv_i2l hx hb dX12_mean_14 rfl ?_
    refine lv_lconst (v := 0) hx hb dX12_mean_15 (by decide) ?_
    refine lv_lconst (v := 1) hx hb dX12_mean_16 (by decide) ?_
    refine g_si (As := [.long (Int32.toInt64 a4), .long 0, .long 1]) (rest := []) S hG (by omega) (qX12_in l hn  (Int32.toInt64 a4) 0 1) wS_12_97 dX12_mean_17 rfl hl.1 (ar := 3) (by decide +kernel) rfl ⟨Nat.le_of_ble_eq_true rfl, Nat.le_of_ble_eq_true rfl, Nat.le_of_ble_eq_true rfl, Nat.le_of_ble_eq_true rfl⟩ (Nat.le_of_ble_eq_true rfl) (fun r_9 u_E_7 H locs hp_8 hG => ?_)
    obtain ⟨n_E_7, E_7⟩ := u_E_7
    dsimp only at hp_8 hG
    obtain ⟨hr_10, nhp_8, ehp_8⟩ := hp_8
    have hG := gW_eq2 hG nhp_8 ehp_8
    refine lv_if_eq (tgt := 32) hx hb dX12_mean_20 (by decide) (fun c_11 => ?_) (fun c_11 => ?_)
    · refine lv_bipush (v := (-2)) hx hb dX12_mean_32 (by decide) ?_
      refine lv_istore (lv' := [(5, .int (-2)), (0, .ref (b + 83)), (1, .int a1), (2, .int a2), (3, .int a3), (4, .int a4)]) hx hb dX12_mean_34 hl (by decide) rfl (fun ls hl => ?_)
      refine lv_iload hx hb dX12_mean_36 (lv_at hl 0 rfl) ?_
      refine lv_if_ge (tgt := 44) hx hb dX12_mean_38 (by decide) (fun c_12 => absurd c_12 (by decide)) (fun c_12 => ?_)
      refine lv_iload hx hb dX12_mean_41 (lv_at hl 0 rfl) ?_
      exact g_iret S hr hlk hG (by omega) dX12_mean_43 ⟨Nat.le_of_ble_eq_true rfl, Nat.le_of_ble_eq_true rfl⟩ ⟨rfl, rfl, rfl⟩
    · refine lv_aload_n hx hb dX12_mean_23 rfl (lv_at hl 0 rfl) ?_
      refine lv_iload_n hx hb dX12_mean_24 rfl (lv_at hl 1 rfl) ?_
      refine lv_iload_n hx hb dX12_mean_25 rfl (lv_at hl 2 rfl) ?_
      refine g_vi (As := [.int a1, .int a2]) (rest := []) S hG (by omega) (qX12_whyNone l hn h83 h84 a1 a2) wV_12_534 h83 cpX12 (by omega) dX12_mean_26 rfl hl.1 (ar := 2) (by decide +kernel) rfl ⟨Nat.le_of_ble_eq_true rfl, Nat.le_of_ble_eq_true rfl, Nat.le_of_ble_eq_true rfl, Nat.le_of_ble_eq_true rfl⟩ (Nat.le_of_ble_eq_true rfl) (fun r_15 u_E_13 H locs hp_14 hG => ?_)
      obtain ⟨n_E_13, E_13⟩ := u_E_13
      dsimp only at hp_14 hG
      obtain ⟨rfl, nhp_14, ehp_14⟩ := hp_14
      have hG := gW_eq2 hG nhp_14 ehp_14
      refine lv_goto (tgt := 34) hx hb dX12_mean_29 (by decide) ?_
      refine lv_istore (lv' := [(5, .int (-2)), (0, .ref (b + 83)), (1, .int a1), (2, .int a2), (3, .int a3), (4, .int a4)]) hx hb dX12_mean_34 hl (by decide) rfl (fun ls hl => ?_)
      refine lv_iload hx hb dX12_mean_36 (lv_at hl 0 rfl) ?_
      refine lv_if_ge (tgt := 44) hx hb dX12_mean_38 (by decide) (fun c_16 => absurd c_16 (by decide)) (fun c_16 => ?_)
      refine lv_iload hx hb dX12_mean_41 (lv_at hl 0 rfl) ?_
      exact g_iret S hr hlk hG (by omega) dX12_mean_43 ⟨Nat.le_of_ble_eq_true rfl, Nat.le_of_ble_eq_true rfl⟩ ⟨rfl, rfl, rfl⟩
set_option maxHeartbeats 4000000 in
set_option maxRecDepth 100000 in
theorem qX12_isBox (l : Launch) {D : va_G} {cy : Nat → ClassId} {b n : Nat} (hn : 105 ≤ n) {E : Nat → va_E} (h83 : E 83 = Z83 b cy) (h84 : E 84 = Z84 b cy)  (a1 : Int32) (a2 : Int32) (a3 : Int32) : gI l yX12_isBox cX12_isBox 4 (some .boolean) 2 0 0 D cy b n E [.ref (b + 83), .int a1, .int a2, .int a3] (fun r u => r = 0 ∧ u.1 = n ∧ u.2 = E) := by
  refine gI_of (by decide) (Nat.le_of_ble_eq_true rfl) ?_
  intro p e s m args below meth c S hr hlk hin hsz ls hl hG
  have hx := S.1
  have hb := S.2.1
  have hl : lv_has ls 4 [(0, .ref (b + 83)), (1, .int a1), (2, .int a2), (3, .int a3)] := hl
  refine lv_aload_n hx hb dX12_isBox_0 rfl (lv_at hl 0 rfl) ?_
  refine lv_iload_n hx hb dX12_isBox_1 rfl (lv_at hl 1 rfl) ?_
  refine g_vi (As := [.int a1]) (rest := []) S hG (by omega) (qX12_isKind l hn h83 h84 a1) wV_12_225 h83 cpX12 (by omega) dX12_isBox_2 rfl hl.1 (ar := 1) (by decide +kernel) rfl ⟨Nat.le_of_ble_eq_true rfl, Nat.le_of_ble_eq_true rfl, Nat.le_of_ble_eq_true rfl, Nat.le_of_ble_eq_true rfl⟩ (Nat.le_of_ble_eq_true rfl) (fun r_3 u_E_1 H locs hp_2 hG => ?_)
  obtain ⟨n_E_1, E_1⟩ := u_E_1
  dsimp only at hp_2 hG
  obtain ⟨rfl, nhp_2, ehp_2⟩ := hp_2
  have hG := gW_eq2 hG nhp_2 ehp_2
  refine lv_if_eq (tgt := 33) hx hb dX12_isBox_5 (by decide) (fun c_4 => ?_) (fun c_4 => absurd c_4 (by decide))
  refine lv_iconst (v := 0) hx hb dX12_isBox_33 (by decide) ?_
  exact g_zret S hr hlk hG (by omega) dX12_isBox_34 ⟨Nat.le_of_ble_eq_true rfl, Nat.le_of_ble_eq_true rfl⟩ rfl ⟨rfl, rfl, rfl⟩
theorem wV_12_545 : gWV "GrownKindsModel" 545 yX12_isBox cX12_isBox 4 (some .boolean) := ⟨wm_2392, wm_2394, wm_171, wm_187, wm_2395, by decide +kernel, by decide +kernel⟩
set_option maxHeartbeats 4000000 in
set_option maxRecDepth 100000 in
theorem qX12_inBox (l : Launch) {D : va_G} {cy : Nat → ClassId} {b n : Nat} (hn : 105 ≤ n) {E : Nat → va_E} (h83 : E 83 = Z83 b cy) (h84 : E 84 = Z84 b cy)  (a1 : Int32) (a2 : Int32) (a3 : Int32) (a4 : Int32) : gI l yX12_inBox cX12_inBox 7 (some .int) 3 0 0 D cy b n E [.ref (b + 83), .int a1, .int a2, .int a3, .int a4] (fun r u => r = (-2) ∧ u.1 = n ∧ u.2 = E) := by
  refine gI_of (by decide) (Nat.le_of_ble_eq_true rfl) ?_
  intro p e s m args below meth c S hr hlk hin hsz ls hl hG
  have hx := S.1
  have hb := S.2.1
  have hl : lv_has ls 7 [(0, .ref (b + 83)), (1, .int a1), (2, .int a2), (3, .int a3), (4, .int a4)] := hl
  refine lv_aload_n hx hb dX12_inBox_0 rfl (lv_at hl 0 rfl) ?_
  refine lv_iload_n hx hb dX12_inBox_1 rfl (lv_at hl 1 rfl) ?_
  refine lv_iload_n hx hb dX12_inBox_2 rfl (lv_at hl 2 rfl) ?_
  refine lv_iload_n hx hb dX12_inBox_3 rfl (lv_at hl 3 rfl) ?_
  refine g_vi (As := [.int a1, .int a2, .int a3]) (rest := []) S hG (by omega) (qX12_isBox l hn h83 h84 a1 a2 a3) wV_12_545 h83 cpX12 (by omega) dX12_inBox_4 rfl hl.1 (ar := 3) (by decide +kernel) rfl ⟨Nat.le_of_ble_eq_true rfl, Nat.le_of_ble_eq_true rfl, Nat.le_of_ble_eq_true rfl, Nat.le_of_ble_eq_true rfl⟩ (Nat.le_of_ble_eq_true rfl) (fun r_3 u_E_1 H locs hp_2 hG => ?_)
  obtain ⟨n_E_1, E_1⟩ := u_E_1
  dsimp only at hp_2 hG
  obtain ⟨rfl, nhp_2, ehp_2⟩ := hp_2
  have hG := gW_eq2 hG nhp_2 ehp_2
  refine lv_if_ne (tgt := 13) hx hb dX12_inBox_7 (by decide) (fun c_4 => absurd c_4 (by decide)) (fun c_4 => ?_)
  refine lv_bipush (v := (-2)) hx hb dX12_inBox_10 (by decide) ?_
  exact g_iret S hr hlk hG (by omega) dX12_inBox_12 ⟨Nat.le_of_ble_eq_true rfl, Nat.le_of_ble_eq_true rfl⟩ ⟨rfl, rfl, rfl⟩
set_option maxHeartbeats 4000000 in
set_option maxRecDepth 100000 in
theorem qX12_boxed (l : Launch) {D : va_G} {cy : Nat → ClassId} {b n : Nat} (hn : 105 ≤ n) {E : Nat → va_E} (h83 : E 83 = Z83 b cy) (h84 : E 84 = Z84 b cy)  (a1 : Int32) (a2 : Int32) (a3 : Int32) : gL l yX12_boxed cX12_boxed 4 3 0 0 D cy b n E [.ref (b + 83), .int a1, .int a2, .int a3] (fun r u => r = (-2) ∧ u.1 = n ∧ u.2 = E) := by
  refine gL_of (by decide) (Nat.le_of_ble_eq_true rfl) ?_
  intro p e s m args below meth c S hr hlk hin hsz ls hl hG
  have hx := S.1
  have hb := S.2.1
  have hl : lv_has ls 4 [(0, .ref (b + 83)), (1, .int a1), (2, .int a2), (3, .int a3)] := hl
  refine lv_aload_n hx hb dX12_boxed_0 rfl (lv_at hl 0 rfl) ?_
  refine lv_iload_n hx hb dX12_boxed_1 rfl (lv_at hl 1 rfl) ?_
  refine lv_iload_n hx hb dX12_boxed_2 rfl (lv_at hl 2 rfl) ?_
  refine lv_iload_n hx hb dX12_boxed_3 rfl (lv_at hl 3 rfl) ?_
  refine g_vi (As := [.int a1, .int a2, .int a3]) (rest := []) S hG (by omega) (qX12_isBox l hn h83 h84 a1 a2 a3) wV_12_545 h83 cpX12 (by omega) dX12_boxed_4 rfl hl.1 (ar := 3) (by decide +kernel) rfl ⟨Nat.le_of_ble_eq_true rfl, Nat.le_of_ble_eq_true rfl, Nat.le_of_ble_eq_true rfl, Nat.le_of_ble_eq_true rfl⟩ (Nat.le_of_ble_eq_true rfl) (fun r_3 u_E_1 H locs hp_2 hG => ?_)
  obtain ⟨n_E_1, E_1⟩ := u_E_1
  dsimp only at hp_2 hG
  obtain ⟨rfl, nhp_2, ehp_2⟩ := hp_2
  have hG := gW_eq2 hG nhp_2 ehp_2
  refine lv_if_ne (tgt := 14) hx hb dX12_boxed_7 (by decide) (fun c_4 => absurd c_4 (by decide)) (fun c_4 => ?_)
  refine lv_ldc2 (v := -2) hx hb S.2.2.2.1 (S.2.2.2.2 _ wm_2101) dX12_boxed_10 ?_
  exact g_lret S hr hlk hG (by omega) dX12_boxed_13 ⟨Nat.le_of_ble_eq_true rfl, Nat.le_of_ble_eq_true rfl⟩ ⟨rfl, rfl, rfl⟩
theorem wV_12_549 : gWV "GrownKindsModel" 549 yX12_inBox cX12_inBox 7 (some .int) := ⟨wm_2401, wm_2403, wm_172, wm_187, wm_2404, by decide +kernel, by decide +kernel⟩
set_option maxHeartbeats 4000000 in
set_option maxRecDepth 100000 in
theorem qX12_bits (l : Launch) {D : va_G} {cy : Nat → ClassId} {b n : Nat} (hn : 105 ≤ n) {E : Nat → va_E} (h83 : E 83 = Z83 b cy) (h84 : E 84 = Z84 b cy)  (a1 : Int32) (a2 : Int32) (a3 : Int32) : gI l yX12_bits cX12_bits 5 (some .int) 4 0 0 D cy b n E [.ref (b + 83), .int a1, .int a2, .int a3] (fun r u => r = (-2) ∧ u.1 = n ∧ u.2 = E) := by
  refine gI_of (by decide) (Nat.le_of_ble_eq_true rfl) ?_
  intro p e s m args below meth c S hr hlk hin hsz ls hl hG
  have hx := S.1
  have hb := S.2.1
  have hl : lv_has ls 5 [(0, .ref (b + 83)), (1, .int a1), (2, .int a2), (3, .int a3)] := hl
  refine lv_aload_n hx hb dX12_bits_0 rfl (lv_at hl 0 rfl) ?_
  refine lv_iload_n hx hb dX12_bits_1 rfl (lv_at hl 1 rfl) ?_
  refine lv_iload_n hx hb dX12_bits_2 rfl (lv_at hl 2 rfl) ?_
  refine lv_iload_n hx hb dX12_bits_3 rfl (lv_at hl 3 rfl) ?_
  refine lv_ldcw (v := 1000000) hx hb S.2.2.2.1 (S.2.2.2.2 _ wm_2400) dX12_bits_4 ?_
  refine g_vi (As := [.int a1, .int a2, .int a3, .int 1000000]) (rest := []) S hG (by omega) (qX12_inBox l hn h83 h84 a1 a2 a3 1000000) wV_12_549 h83 cpX12 (by omega) dX12_bits_7 rfl hl.1 (ar := 4) (by decide +kernel) rfl ⟨Nat.le_of_ble_eq_true rfl, Nat.le_of_ble_eq_true rfl, Nat.le_of_ble_eq_true rfl, Nat.le_of_ble_eq_true rfl⟩ (Nat.le_of_ble_eq_true rfl) (fun r_3 u_E_1 H locs hp_2 hG => ?_)
  obtain ⟨n_E_1, E_1⟩ := u_E_1
  dsimp only at hp_2 hG
  obtain ⟨rfl, nhp_2, ehp_2⟩ := hp_2
  have hG := gW_eq2 hG nhp_2 ehp_2
  refine lv_istore (lv' := [(4, .int (-2)), (0, .ref (b + 83)), (1, .int a1), (2, .int a2), (3, .int a3)]) hx hb dX12_bits_10 hl (by decide) rfl (fun ls hl => ?_)
  refine lv_iload hx hb dX12_bits_12 (lv_at hl 0 rfl) ?_
  refine lv_if_ge (tgt := 22) hx hb dX12_bits_14 (by decide) (fun c_4 => absurd c_4 (by decide)) (fun c_4 => ?_)
  refine lv_iload hx hb dX12_bits_17 (lv_at hl 0 rfl) ?_
  refine lv_goto (tgt := 28) hx hb dX12_bits_19 (by decide) ?_
  exact g_iret S hr hlk hG (by omega) dX12_bits_28 ⟨Nat.le_of_ble_eq_true rfl, Nat.le_of_ble_eq_true rfl⟩ ⟨rfl, rfl, rfl⟩
set_option maxHeartbeats 4000000 in
set_option maxRecDepth 100000 in
theorem qX12_drawn (l : Launch) {D : va_G} {cy : Nat → ClassId} {b n : Nat} (hn : 105 ≤ n) {E : Nat → va_E} (h83 : E 83 = Z83 b cy) (h84 : E 84 = Z84 b cy)  (a1 : Int32) (a2 : Int32) (a3 : Int32) (a4 : Int32) (a5 : Int32) : gI l yX12_drawn cX12_drawn 11 (some .int) 4 0 0 D cy b n E [.ref (b + 83), .int a1, .int a2, .int a3, .int a4, .int a5] (fun r u => r = (-2) ∧ u.1 = n ∧ u.2 = E) := by
  refine gI_of (by decide) (Nat.le_of_ble_eq_true rfl) ?_
  intro p e s m args below meth c S hr hlk hin hsz ls hl hG
  have hx := S.1
  have hb := S.2.1
  have hl : lv_has ls 11 [(0, .ref (b + 83)), (1, .int a1), (2, .int a2), (3, .int a3), (4, .int a4), (5, .int a5)] := hl
  refine lv_iload hx hb dX12_drawn_0 (lv_at hl 4 rfl) ?_
  refine lv_i2l hx hb dX12_drawn_2 rfl ?_
  refine lv_lconst (v := 0) hx hb dX12_drawn_3 (by decide) ?_
  refine lv_ldc2 (v := 1073741823) hx hb S.2.2.2.1 (S.2.2.2.2 _ wm_2412) dX12_drawn_4 ?_
  refine g_si (As := [.long (Int32.toInt64 a4), .long 0, .long 1073741823]) (rest := []) S hG (by omega) (qX12_in l hn  (Int32.toInt64 a4) 0 1073741823) wS_12_97 dX12_drawn_7 rfl hl.1 (ar := 3) (by decide +kernel) rfl ⟨Nat.le_of_ble_eq_true rfl, Nat.le_of_ble_eq_true rfl, Nat.le_of_ble_eq_true rfl, Nat.le_of_ble_eq_true rfl⟩ (Nat.le_of_ble_eq_true rfl) (fun r_3 u_E_1 H locs hp_2 hG => ?_)
  obtain ⟨n_E_1, E_1⟩ := u_E_1
  dsimp only at hp_2 hG
  obtain ⟨hr_4, nhp_2, ehp_2⟩ := hp_2
  have hG := gW_eq2 hG nhp_2 ehp_2
  refine lv_if_eq (tgt := 37) hx hb dX12_drawn_10 (by decide) (fun c_5 => ?_) (fun c_5 => ?_)
  · refine lv_bipush (v := (-2)) hx hb dX12_drawn_37 (by decide) ?_
    refine lv_istore (lv' := [(6, .int (-2)), (0, .ref (b + 83)), (1, .int a1), (2, .int a2), (3, .int a3), (4, .int a4), (5, .int a5)]) hx hb dX12_drawn_39 hl (by decide) rfl (fun ls hl => ?_)
    refine lv_iload hx hb dX12_drawn_41 (lv_at hl 0 rfl) ?_
    refine lv_if_ge (tgt := 49) hx hb dX12_drawn_43 (by decide) (fun c_6 => absurd c_6 (by decide)) (fun c_6 => ?_)
    refine lv_iload hx hb dX12_drawn_46 (lv_at hl 0 rfl) ?_
    exact g_iret S hr hlk hG (by omega) dX12_drawn_48 ⟨Nat.le_of_ble_eq_true rfl, Nat.le_of_ble_eq_true rfl⟩ ⟨rfl, rfl, rfl⟩
  · refine lv_iload hx hb dX12_drawn_13 (lv_at hl 5 rfl) ?_
    refine lv_i2l hx hb dX12_drawn_15 rfl ?_
    refine lv_lconst (v := 0) hx hb dX12_drawn_16 (by decide) ?_
    refine lv_lconst (v := 1) hx hb dX12_drawn_17 (by decide) ?_
    refine g_si (As := [.long (Int32.toInt64 a5), .long 0, .long 1]) (rest := []) S hG (by omega) (qX12_in l hn  (Int32.toInt64 a5) 0 1) wS_12_97 dX12_drawn_18 rfl hl.1 (ar := 3) (by decide +kernel) rfl ⟨Nat.le_of_ble_eq_true rfl, Nat.le_of_ble_eq_true rfl, Nat.le_of_ble_eq_true rfl, Nat.le_of_ble_eq_true rfl⟩ (Nat.le_of_ble_eq_true rfl) (fun r_9 u_E_7 H locs hp_8 hG => ?_)
    obtain ⟨n_E_7, E_7⟩ := u_E_7
    dsimp only at hp_8 hG
    obtain ⟨hr_10, nhp_8, ehp_8⟩ := hp_8
    have hG := gW_eq2 hG nhp_8 ehp_8
    refine lv_if_eq (tgt := 37) hx hb dX12_drawn_21 (by decide) (fun c_11 => ?_) (fun c_11 => ?_)
    · refine lv_bipush (v := (-2)) hx hb dX12_drawn_37 (by decide) ?_
      refine lv_istore (lv' := [(6, .int (-2)), (0, .ref (b + 83)), (1, .int a1), (2, .int a2), (3, .int a3), (4, .int a4), (5, .int a5)]) hx hb dX12_drawn_39 hl (by decide) rfl (fun ls hl => ?_)
      refine lv_iload hx hb dX12_drawn_41 (lv_at hl 0 rfl) ?_
      refine lv_if_ge (tgt := 49) hx hb dX12_drawn_43 (by decide) (fun c_12 => absurd c_12 (by decide)) (fun c_12 => ?_)
      refine lv_iload hx hb dX12_drawn_46 (lv_at hl 0 rfl) ?_
      exact g_iret S hr hlk hG (by omega) dX12_drawn_48 ⟨Nat.le_of_ble_eq_true rfl, Nat.le_of_ble_eq_true rfl⟩ ⟨rfl, rfl, rfl⟩
    · refine lv_aload_n hx hb dX12_drawn_24 rfl (lv_at hl 0 rfl) ?_
      refine lv_iload_n hx hb dX12_drawn_25 rfl (lv_at hl 1 rfl) ?_
      refine lv_iload_n hx hb dX12_drawn_26 rfl (lv_at hl 2 rfl) ?_
      refine lv_iload_n hx hb dX12_drawn_27 rfl (lv_at hl 3 rfl) ?_
      refine lv_ldcw (v := 1000000) hx hb S.2.2.2.1 (S.2.2.2.2 _ wm_2400) dX12_drawn_28 ?_
      refine g_vi (As := [.int a1, .int a2, .int a3, .int 1000000]) (rest := []) S hG (by omega) (qX12_inBox l hn h83 h84 a1 a2 a3 1000000) wV_12_549 h83 cpX12 (by omega) dX12_drawn_31 rfl hl.1 (ar := 4) (by decide +kernel) rfl ⟨Nat.le_of_ble_eq_true rfl, Nat.le_of_ble_eq_true rfl, Nat.le_of_ble_eq_true rfl, Nat.le_of_ble_eq_true rfl⟩ (Nat.le_of_ble_eq_true rfl) (fun r_15 u_E_13 H locs hp_14 hG => ?_)
      obtain ⟨n_E_13, E_13⟩ := u_E_13
      dsimp only at hp_14 hG
      obtain ⟨rfl, nhp_14, ehp_14⟩ := hp_14
      have hG := gW_eq2 hG nhp_14 ehp_14
      refine lv_goto (tgt := 39) hx hb dX12_drawn_34 (by decide) ?_
      refine lv_istore (lv' := [(6, .int (-2)), (0, .ref (b + 83)), (1, .int a1), (2, .int a2), (3, .int a3), (4, .int a4), (5, .int a5)]) hx hb dX12_drawn_39 hl (by decide) rfl (fun ls hl => ?_)
      refine lv_iload hx hb dX12_drawn_41 (lv_at hl 0 rfl) ?_
      refine lv_if_ge (tgt := 49) hx hb dX12_drawn_43 (by decide) (fun c_16 => absurd c_16 (by decide)) (fun c_16 => ?_)
      refine lv_iload hx hb dX12_drawn_46 (lv_at hl 0 rfl) ?_
      exact g_iret S hr hlk hG (by omega) dX12_drawn_48 ⟨Nat.le_of_ble_eq_true rfl, Nat.le_of_ble_eq_true rfl⟩ ⟨rfl, rfl, rfl⟩
set_option maxHeartbeats 4000000 in
set_option maxRecDepth 100000 in
theorem qX12_deal (l : Launch) {D : va_G} {cy : Nat → ClassId} {b n : Nat} (hn : 105 ≤ n) {E : Nat → va_E} (h83 : E 83 = Z83 b cy) (h84 : E 84 = Z84 b cy)  (a1 : Int32) (a2 : Int32) (a3 : Int32) (a4 : Int32) : gI l yX12_deal cX12_deal 6 (some .int) 4 0 0 D cy b n E [.ref (b + 83), .int a1, .int a2, .int a3, .int a4] (fun r u => r = (-2) ∧ u.1 = n ∧ u.2 = E) := by
  refine gI_of (by decide) (Nat.le_of_ble_eq_true rfl) ?_
  intro p e s m args below meth c S hr hlk hin hsz ls hl hG
  have hx := S.1
  have hb := S.2.1
  have hl : lv_has ls 6 [(0, .ref (b + 83)), (1, .int a1), (2, .int a2), (3, .int a3), (4, .int a4)] := hl
  refine lv_iload hx hb dX12_deal_0 (lv_at hl 4 rfl) ?_
  refine lv_i2l hx hb dX12_deal_2 rfl ?_
  refine lv_lconst (v := 0) hx hb dX12_deal_3 (by decide) ?_
  refine lv_ldc2 (v := 2000000000) hx hb S.2.2.2.1 (S.2.2.2.2 _ wm_2421) dX12_deal_4 ?_
  refine g_si (As := [.long (Int32.toInt64 a4), .long 0, .long 2000000000]) (rest := []) S hG (by omega) (qX12_in l hn  (Int32.toInt64 a4) 0 2000000000) wS_12_97 dX12_deal_7 rfl hl.1 (ar := 3) (by decide +kernel) rfl ⟨Nat.le_of_ble_eq_true rfl, Nat.le_of_ble_eq_true rfl, Nat.le_of_ble_eq_true rfl, Nat.le_of_ble_eq_true rfl⟩ (Nat.le_of_ble_eq_true rfl) (fun r_3 u_E_1 H locs hp_2 hG => ?_)
  obtain ⟨n_E_1, E_1⟩ := u_E_1
  dsimp only at hp_2 hG
  obtain ⟨hr_4, nhp_2, ehp_2⟩ := hp_2
  have hG := gW_eq2 hG nhp_2 ehp_2
  refine lv_if_eq (tgt := 26) hx hb dX12_deal_10 (by decide) (fun c_5 => ?_) (fun c_5 => ?_)
  · refine lv_bipush (v := (-2)) hx hb dX12_deal_26 (by decide) ?_
    refine lv_istore (lv' := [(5, .int (-2)), (0, .ref (b + 83)), (1, .int a1), (2, .int a2), (3, .int a3), (4, .int a4)]) hx hb dX12_deal_28 hl (by decide) rfl (fun ls hl => ?_)
    refine lv_iload hx hb dX12_deal_30 (lv_at hl 0 rfl) ?_
    refine lv_iconst (v := (-1)) hx hb dX12_deal_32 (by decide) ?_
    refine lv_icmp_ge (tgt := 39) hx hb dX12_deal_33 (by decide) (fun c_6 => absurd c_6 (by decide)) (fun c_6 => ?_)
    refine lv_iload hx hb dX12_deal_36 (lv_at hl 0 rfl) ?_
    exact g_iret S hr hlk hG (by omega) dX12_deal_38 ⟨Nat.le_of_ble_eq_true rfl, Nat.le_of_ble_eq_true rfl⟩ ⟨rfl, rfl, rfl⟩
  · refine lv_aload_n hx hb dX12_deal_13 rfl (lv_at hl 0 rfl) ?_
    refine lv_iload_n hx hb dX12_deal_14 rfl (lv_at hl 1 rfl) ?_
    refine lv_iload_n hx hb dX12_deal_15 rfl (lv_at hl 2 rfl) ?_
    refine lv_iload_n hx hb dX12_deal_16 rfl (lv_at hl 3 rfl) ?_
    refine lv_sipush (v := 1000) hx hb dX12_deal_17 (by decide) ?_
    refine g_vi (As := [.int a1, .int a2, .int a3, .int 1000]) (rest := []) S hG (by omega) (qX12_inBox l hn h83 h84 a1 a2 a3 1000) wV_12_549 h83 cpX12 (by omega) dX12_deal_20 rfl hl.1 (ar := 4) (by decide +kernel) rfl ⟨Nat.le_of_ble_eq_true rfl, Nat.le_of_ble_eq_true rfl, Nat.le_of_ble_eq_true rfl, Nat.le_of_ble_eq_true rfl⟩ (Nat.le_of_ble_eq_true rfl) (fun r_9 u_E_7 H locs hp_8 hG => ?_)
    obtain ⟨n_E_7, E_7⟩ := u_E_7
    dsimp only at hp_8 hG
    obtain ⟨rfl, nhp_8, ehp_8⟩ := hp_8
    have hG := gW_eq2 hG nhp_8 ehp_8
    refine lv_goto (tgt := 28) hx hb dX12_deal_23 (by decide) ?_
    refine lv_istore (lv' := [(5, .int (-2)), (0, .ref (b + 83)), (1, .int a1), (2, .int a2), (3, .int a3), (4, .int a4)]) hx hb dX12_deal_28 hl (by decide) rfl (fun ls hl => ?_)
    refine lv_iload hx hb dX12_deal_30 (lv_at hl 0 rfl) ?_
    refine lv_iconst (v := (-1)) hx hb dX12_deal_32 (by decide) ?_
    refine lv_icmp_ge (tgt := 39) hx hb dX12_deal_33 (by decide) (fun c_10 => absurd c_10 (by decide)) (fun c_10 => ?_)
    refine lv_iload hx hb dX12_deal_36 (lv_at hl 0 rfl) ?_
    exact g_iret S hr hlk hG (by omega) dX12_deal_38 ⟨Nat.le_of_ble_eq_true rfl, Nat.le_of_ble_eq_true rfl⟩ ⟨rfl, rfl, rfl⟩
set_option maxHeartbeats 4000000 in
set_option maxRecDepth 100000 in
theorem qX12_takes (l : Launch) {D : va_G} {cy : Nat → ClassId} {b n : Nat} (hn : 105 ≤ n) {E : Nat → va_E} (h83 : E 83 = Z83 b cy) (h84 : E 84 = Z84 b cy)  (a1 : Int32) (a2 : Int32) : gI l yX12_takes cX12_takes 3 (some .int) 3 0 0 D cy b n E [.ref (b + 83), .int a1, .int a2] (fun r u => r = (-2) ∧ u.1 = n ∧ u.2 = E) := by
  refine gI_of (by decide) (Nat.le_of_ble_eq_true rfl) ?_
  intro p e s m args below meth c S hr hlk hin hsz ls hl hG
  have hx := S.1
  have hb := S.2.1
  have hl : lv_has ls 3 [(0, .ref (b + 83)), (1, .int a1), (2, .int a2)] := hl
  refine lv_aload_n hx hb dX12_takes_0 rfl (lv_at hl 0 rfl) ?_
  refine lv_iload_n hx hb dX12_takes_1 rfl (lv_at hl 1 rfl) ?_
  refine lv_iload_n hx hb dX12_takes_2 rfl (lv_at hl 2 rfl) ?_
  refine g_vi (As := [.int a1, .int a2]) (rest := []) S hG (by omega) (qX12_isTerm l hn h83 h84 a1 a2) wV_12_344 h83 cpX12 (by omega) dX12_takes_3 rfl hl.1 (ar := 2) (by decide +kernel) rfl ⟨Nat.le_of_ble_eq_true rfl, Nat.le_of_ble_eq_true rfl, Nat.le_of_ble_eq_true rfl, Nat.le_of_ble_eq_true rfl⟩ (Nat.le_of_ble_eq_true rfl) (fun r_3 u_E_1 H locs hp_2 hG => ?_)
  obtain ⟨n_E_1, E_1⟩ := u_E_1
  dsimp only at hp_2 hG
  obtain ⟨rfl, nhp_2, ehp_2⟩ := hp_2
  have hG := gW_eq2 hG nhp_2 ehp_2
  refine lv_if_ne (tgt := 12) hx hb dX12_takes_6 (by decide) (fun c_4 => absurd c_4 (by decide)) (fun c_4 => ?_)
  refine lv_bipush (v := (-2)) hx hb dX12_takes_9 (by decide) ?_
  exact g_iret S hr hlk hG (by omega) dX12_takes_11 ⟨Nat.le_of_ble_eq_true rfl, Nat.le_of_ble_eq_true rfl⟩ ⟨rfl, rfl, rfl⟩
set_option maxHeartbeats 4000000 in
set_option maxRecDepth 100000 in
theorem qX12_undo (l : Launch) {D : va_G} {cy : Nat → ClassId} {b n : Nat} (hn : 105 ≤ n) {E : Nat → va_E} (h83 : E 83 = Z83 b cy) (h84 : E 84 = Z84 b cy)   : gI l yX12_undo cX12_undo 1 (some .int) 0 0 0 D cy b n E [.ref (b + 83)] (fun r u => r = (-2) ∧ u.1 = n ∧ u.2 = E) := by
  refine gI_of (by decide) (Nat.le_of_ble_eq_true rfl) ?_
  intro p e s m args below meth c S hr hlk hin hsz ls hl hG
  have hx := S.1
  have hb := S.2.1
  have hl : lv_has ls 1 [(0, .ref (b + 83))] := hl
  refine lv_aload_n hx hb dX12_undo_0 rfl (lv_at hl 0 rfl) ?_
  refine g_get S hG 83 0 h83 cpX12 wm_1674 dX12_undo_1 rfl (by omega) (by decide) ?_
  refine lv_iconst (v := 3) hx hb dX12_undo_4 (by decide) ?_
  refine g_iald S hG 84 h84 (by omega) dX12_undo_5 (by unfold vp_in; decide) ?_
  refine lv_topi (fun x_1 ex_1 => ?_)
  obtain rfl : x_1 = 0 := ex_1.trans (by decide)
  refine lv_if_ne (tgt := 12) hx hb dX12_undo_6 (by decide) (fun c_2 => absurd c_2 (by decide)) (fun c_2 => ?_)
  refine lv_bipush (v := (-2)) hx hb dX12_undo_9 (by decide) ?_
  exact g_iret S hr hlk hG (by omega) dX12_undo_11 ⟨Nat.le_of_ble_eq_true rfl, Nat.le_of_ble_eq_true rfl⟩ ⟨rfl, rfl, rfl⟩
set_option maxHeartbeats 4000000 in
set_option maxRecDepth 100000 in
theorem qX12_anew (l : Launch) {D : va_G} {cy : Nat → ClassId} {b n : Nat} (hn : 105 ≤ n) {E : Nat → va_E} (h83 : E 83 = Z83 b cy) (h84 : E 84 = Z84 b cy)   : gI l yX12_anew cX12_anew 2 (some .int) 0 0 0 D cy b n E [.ref (b + 83)] (fun r u => r = (-2) ∧ u.1 = n ∧ u.2 = E) := by
  refine gI_of (by decide) (Nat.le_of_ble_eq_true rfl) ?_
  intro p e s m args below meth c S hr hlk hin hsz ls hl hG
  have hx := S.1
  have hb := S.2.1
  have hl : lv_has ls 2 [(0, .ref (b + 83))] := hl
  refine lv_aload_n hx hb dX12_anew_0 rfl (lv_at hl 0 rfl) ?_
  refine g_get S hG 83 0 h83 cpX12 wm_1674 dX12_anew_1 rfl (by omega) (by decide) ?_
  refine lv_iconst (v := 3) hx hb dX12_anew_4 (by decide) ?_
  refine g_iald S hG 84 h84 (by omega) dX12_anew_5 (by unfold vp_in; decide) ?_
  refine lv_topi (fun x_1 ex_1 => ?_)
  obtain rfl : x_1 = 0 := ex_1.trans (by decide)
  refine lv_if_ne (tgt := 12) hx hb dX12_anew_6 (by decide) (fun c_2 => absurd c_2 (by decide)) (fun c_2 => ?_)
  refine lv_bipush (v := (-2)) hx hb dX12_anew_9 (by decide) ?_
  exact g_iret S hr hlk hG (by omega) dX12_anew_11 ⟨Nat.le_of_ble_eq_true rfl, Nat.le_of_ble_eq_true rfl⟩ ⟨rfl, rfl, rfl⟩
set_option maxHeartbeats 4000000 in
set_option maxRecDepth 100000 in
theorem qX12_dealt (l : Launch) {D : va_G} {cy : Nat → ClassId} {b n : Nat} (hn : 105 ≤ n) {E : Nat → va_E} (h83 : E 83 = Z83 b cy)   : gI l yX12_dealt cX12_dealt 3 (some .int) 0 0 0 D cy b n E [.ref (b + 83)] (fun r u => r = (-1) ∧ u.1 = n ∧ u.2 = E) := by
  refine gI_of (by decide) (Nat.le_of_ble_eq_true rfl) ?_
  intro p e s m args below meth c S hr hlk hin hsz ls hl hG
  have hx := S.1
  have hb := S.2.1
  have hl : lv_has ls 3 [(0, .ref (b + 83))] := hl
  refine lv_aload_n hx hb dX12_dealt_0 rfl (lv_at hl 0 rfl) ?_
  refine g_get S hG 83 45 h83 cpX12 wm_1719 dX12_dealt_1 rfl (by omega) (by decide) ?_
  refine lv_if_eq (tgt := 14) hx hb dX12_dealt_4 (by decide) (fun c_1 => ?_) (fun c_1 => absurd c_1 (by decide))
  refine lv_iconst (v := (-1)) hx hb dX12_dealt_14 (by decide) ?_
  exact g_iret S hr hlk hG (by omega) dX12_dealt_15 ⟨Nat.le_of_ble_eq_true rfl, Nat.le_of_ble_eq_true rfl⟩ ⟨rfl, rfl, rfl⟩
set_option maxHeartbeats 4000000 in
set_option maxRecDepth 100000 in
theorem qX12_left (l : Launch) {D : va_G} {cy : Nat → ClassId} {b n : Nat} (hn : 105 ≤ n) {E : Nat → va_E} (h83 : E 83 = Z83 b cy)   : gI l yX12_left cX12_left 1 (some .int) 0 0 0 D cy b n E [.ref (b + 83)] (fun r u => r = 0 ∧ u.1 = n ∧ u.2 = E) := by
  refine gI_of (by decide) (Nat.le_of_ble_eq_true rfl) ?_
  intro p e s m args below meth c S hr hlk hin hsz ls hl hG
  have hx := S.1
  have hb := S.2.1
  have hl : lv_has ls 1 [(0, .ref (b + 83))] := hl
  refine lv_aload_n hx hb dX12_left_0 rfl (lv_at hl 0 rfl) ?_
  refine g_get S hG 83 45 h83 cpX12 wm_1719 dX12_left_1 rfl (by omega) (by decide) ?_
  refine lv_if_eq (tgt := 14) hx hb dX12_left_4 (by decide) (fun c_1 => ?_) (fun c_1 => absurd c_1 (by decide))
  refine lv_iconst (v := 0) hx hb dX12_left_14 (by decide) ?_
  exact g_iret S hr hlk hG (by omega) dX12_left_15 ⟨Nat.le_of_ble_eq_true rfl, Nat.le_of_ble_eq_true rfl⟩ ⟨rfl, rfl, rfl⟩
