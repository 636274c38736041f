theorem dX11_putFour_0 : decode cX11_putFour 0 = .ok (.bipush 24, 2) := by decide +kernel
theorem dX11_putFour_2 : decode cX11_putFour 2 = .ok (.istore_n 2, 1) := by decide +kernel
theorem dX11_putFour_3 : decode cX11_putFour 3 = .ok (.iload_n 2, 1) := by decide +kernel
theorem dX11_putFour_4 : decode cX11_putFour 4 = .ok (.ifCond .lt 42, 3) := by decide +kernel
theorem dX11_putFour_7 : decode cX11_putFour 7 = .ok (.aload_n 0, 1) := by decide +kernel
theorem dX11_putFour_8 : decode cX11_putFour 8 = .ok (.getfield 13, 3) := by decide +kernel
theorem dX11_putFour_11 : decode cX11_putFour 11 = .ok (.sipush 400, 3) := by decide +kernel
theorem dX11_putFour_14 : decode cX11_putFour 14 = .ok (.if_icmp .ge 32, 3) := by decide +kernel
theorem dX11_putFour_17 : decode cX11_putFour 17 = .ok (.aload_n 0, 1) := by decide +kernel
theorem dX11_putFour_18 : decode cX11_putFour 18 = .ok (.getfield 9, 3) := by decide +kernel
theorem dX11_putFour_21 : decode cX11_putFour 21 = .ok (.aload_n 0, 1) := by decide +kernel
theorem dX11_putFour_22 : decode cX11_putFour 22 = .ok (.getfield 13, 3) := by decide +kernel
theorem dX11_putFour_25 : decode cX11_putFour 25 = .ok (.iload_n 1, 1) := by decide +kernel
theorem dX11_putFour_26 : decode cX11_putFour 26 = .ok (.iload_n 2, 1) := by decide +kernel
theorem dX11_putFour_27 : decode cX11_putFour 27 = .ok (.iushr, 1) := by decide +kernel
theorem dX11_putFour_28 : decode cX11_putFour 28 = .ok (.i2b, 1) := by decide +kernel
theorem dX11_putFour_29 : decode cX11_putFour 29 = .ok (.bastore, 1) := by decide +kernel
theorem dX11_putFour_30 : decode cX11_putFour 30 = .ok (.aload_n 0, 1) := by decide +kernel
theorem dX11_putFour_31 : decode cX11_putFour 31 = .ok (.dup, 1) := by decide +kernel
theorem dX11_putFour_32 : decode cX11_putFour 32 = .ok (.getfield 13, 3) := by decide +kernel
theorem dX11_putFour_35 : decode cX11_putFour 35 = .ok (.iconst 1, 1) := by decide +kernel
theorem dX11_putFour_36 : decode cX11_putFour 36 = .ok (.iadd, 1) := by decide +kernel
theorem dX11_putFour_37 : decode cX11_putFour 37 = .ok (.putfield 13, 3) := by decide +kernel
theorem dX11_putFour_40 : decode cX11_putFour 40 = .ok (.iinc 2 (-8), 3) := by decide +kernel
theorem dX11_putFour_43 : decode cX11_putFour 43 = .ok (.goto (-40), 3) := by decide +kernel
theorem dX11_putFour_46 : decode cX11_putFour 46 = .ok (.return_, 1) := by decide +kernel
theorem dX11_feed_0 : decode cX11_feed 0 = .ok (.aload_n 0, 1) := by decide +kernel
theorem dX11_feed_1 : decode cX11_feed 1 = .ok (.getfield 13, 3) := by decide +kernel
theorem dX11_feed_4 : decode cX11_feed 4 = .ok (.bipush 20, 2) := by decide +kernel
theorem dX11_feed_6 : decode cX11_feed 6 = .ok (.iadd, 1) := by decide +kernel
theorem dX11_feed_7 : decode cX11_feed 7 = .ok (.sipush 400, 3) := by decide +kernel
theorem dX11_feed_10 : decode cX11_feed 10 = .ok (.if_icmp .le 5, 3) := by decide +kernel
theorem dX11_feed_15 : decode cX11_feed 15 = .ok (.aload_n 0, 1) := by decide +kernel
theorem dX11_feed_16 : decode cX11_feed 16 = .ok (.iload_n 1, 1) := by decide +kernel
theorem dX11_feed_17 : decode cX11_feed 17 = .ok (.invokevirtual 120, 3) := by decide +kernel
theorem wm_727 : (Jvm.Cond.methodLink "GrownKinds" (120 : Nat) ({ cls := "GrownKinds", name := "putFour", desc := "(I)V" } : Jvm.MethodName)) ∈ gT := gT_in (List.mem_of_getElem? (i := 727) (by decide +kernel)) (by decide +kernel)
theorem wm_729 : (Jvm.Cond.instanceMethod ({ cls := "GrownKinds", name := "putFour", desc := "(I)V" } : Jvm.MethodName)) ∈ gT := gT_in (List.mem_of_getElem? (i := 729) (by decide +kernel)) (by decide +kernel)
theorem wm_0 : Cond.selects "GrownKinds" ⟨"GrownKinds", "putFour", "(I)V"⟩ ⟨"GrownKinds", "putFour", "(I)V"⟩ ∈ gT := gT_in (List.mem_of_getElem? (i := 0) (by decide +kernel)) (by decide +kernel)
theorem wm_730 : (Jvm.Cond.code ({ cls := "GrownKinds", name := "putFour", desc := "(I)V" } : Jvm.MethodName) prog_1_method_3_code (3 : Nat) (Option.none : Option Jvm.ClassFile.FieldType)) ∈ gT := gT_in (List.mem_of_getElem? (i := 730) (by decide +kernel)) (by decide +kernel)
theorem dX11_feed_20 : decode cX11_feed 20 = .ok (.aload_n 0, 1) := by decide +kernel
theorem dX11_feed_21 : decode cX11_feed 21 = .ok (.iload_n 2, 1) := by decide +kernel
theorem dX11_feed_22 : decode cX11_feed 22 = .ok (.invokevirtual 120, 3) := by decide +kernel
theorem dX11_feed_25 : decode cX11_feed 25 = .ok (.aload_n 0, 1) := by decide +kernel
theorem dX11_feed_26 : decode cX11_feed 26 = .ok (.iload_n 3, 1) := by decide +kernel
theorem dX11_feed_27 : decode cX11_feed 27 = .ok (.invokevirtual 120, 3) := by decide +kernel
theorem dX11_feed_30 : decode cX11_feed 30 = .ok (.aload_n 0, 1) := by decide +kernel
theorem dX11_feed_31 : decode cX11_feed 31 = .ok (.iload 4, 2) := by decide +kernel
theorem dX11_feed_33 : decode cX11_feed 33 = .ok (.invokevirtual 120, 3) := by decide +kernel
theorem dX11_feed_36 : decode cX11_feed 36 = .ok (.aload_n 0, 1) := by decide +kernel
theorem dX11_feed_37 : decode cX11_feed 37 = .ok (.iload 5, 2) := by decide +kernel
theorem dX11_feed_39 : decode cX11_feed 39 = .ok (.invokevirtual 120, 3) := by decide +kernel
theorem dX11_feed_42 : decode cX11_feed 42 = .ok (.aload_n 0, 1) := by decide +kernel
theorem dX11_feed_43 : decode cX11_feed 43 = .ok (.getfield 13, 3) := by decide +kernel
theorem dX11_feed_46 : decode cX11_feed 46 = .ok (.ireturn, 1) := by decide +kernel
theorem dX11_feed_13 : decode cX11_feed 13 = .ok (.iconst (-1), 1) := by decide +kernel
theorem dX11_feed_14 : decode cX11_feed 14 = .ok (.ireturn, 1) := by decide +kernel
theorem dX11_end_0 : decode cX11_end 0 = .ok (.iload_n 1, 1) := by decide +kernel
theorem dX11_end_1 : decode cX11_end 1 = .ok (.ifCond .lt 11, 3) := by decide +kernel
theorem dX11_end_12 : decode cX11_end 12 = .ok (.iconst (-1), 1) := by decide +kernel
theorem dX11_end_13 : decode cX11_end 13 = .ok (.ireturn, 1) := by decide +kernel
theorem dX11_end_4 : decode cX11_end 4 = .ok (.iload_n 1, 1) := by decide +kernel
theorem dX11_end_5 : decode cX11_end 5 = .ok (.aload_n 0, 1) := by decide +kernel
theorem dX11_end_6 : decode cX11_end 6 = .ok (.getfield 13, 3) := by decide +kernel
theorem dX11_end_9 : decode cX11_end 9 = .ok (.if_icmp .le 5, 3) := by decide +kernel
theorem dX11_end_14 : decode cX11_end 14 = .ok (.aload_n 0, 1) := by decide +kernel
theorem dX11_end_15 : decode cX11_end 15 = .ok (.iload_n 1, 1) := by decide +kernel
theorem dX11_end_16 : decode cX11_end 16 = .ok (.putfield 13, 3) := by decide +kernel
theorem dX11_end_19 : decode cX11_end 19 = .ok (.iload_n 1, 1) := by decide +kernel
theorem dX11_end_20 : decode cX11_end 20 = .ok (.ireturn, 1) := by decide +kernel
theorem dX11_fault_0 : decode cX11_fault 0 = .ok (.iload_n 1, 1) := by decide +kernel
theorem dX11_fault_1 : decode cX11_fault 1 = .ok (.ifCond .ne 8, 3) := by decide +kernel
theorem dX11_fault_9 : decode cX11_fault 9 = .ok (.iload_n 1, 1) := by decide +kernel
theorem dX11_fault_10 : decode cX11_fault 10 = .ok (.iconst 1, 1) := by decide +kernel
theorem dX11_fault_11 : decode cX11_fault 11 = .ok (.if_icmp .ne 10, 3) := by decide +kernel
theorem dX11_fault_21 : decode cX11_fault 21 = .ok (.iconst (-1), 1) := by decide +kernel
theorem dX11_fault_22 : decode cX11_fault 22 = .ok (.ireturn, 1) := by decide +kernel
theorem dX11_fault_14 : decode cX11_fault 14 = .ok (.aload_n 0, 1) := by decide +kernel
theorem dX11_fault_15 : decode cX11_fault 15 = .ok (.getfield 36, 3) := by decide +kernel
theorem dX11_fault_18 : decode cX11_fault 18 = .ok (.goto 4, 3) := by decide +kernel
theorem dX11_fault_4 : decode cX11_fault 4 = .ok (.aload_n 0, 1) := by decide +kernel
theorem dX11_fault_5 : decode cX11_fault 5 = .ok (.getfield 33, 3) := by decide +kernel
theorem dX11_fault_8 : decode cX11_fault 8 = .ok (.ireturn, 1) := by decide +kernel
theorem dX11_count_0 : decode cX11_count 0 = .ok (.iload_n 1, 1) := by decide +kernel
theorem dX11_count_1 : decode cX11_count 1 = .ok (.tableswitch 81 0 5 #[39, 47, 55, 63, 71, 76], 39) := by decide +kernel
theorem dX11_count_40 : decode cX11_count 40 = .ok (.aload_n 0, 1) := by decide +kernel
theorem dX11_count_41 : decode cX11_count 41 = .ok (.getfield 20, 3) := by decide +kernel
theorem dX11_count_44 : decode cX11_count 44 = .ok (.getfield 156, 3) := by decide +kernel
theorem wm_222 : (Jvm.Cond.fieldLink "GrownKinds" (156 : Nat) "GrownKinds$Grammar" "kinds" "I") ∈ gT := gT_in (List.mem_of_getElem? (i := 222) (by decide +kernel)) (by decide +kernel)
theorem dX11_count_47 : decode cX11_count 47 = .ok (.ireturn, 1) := by decide +kernel
theorem dX11_count_48 : decode cX11_count 48 = .ok (.aload_n 0, 1) := by decide +kernel
theorem dX11_count_49 : decode cX11_count 49 = .ok (.getfield 20, 3) := by decide +kernel
theorem dX11_count_52 : decode cX11_count 52 = .ok (.getfield 159, 3) := by decide +kernel
theorem wm_215 : (Jvm.Cond.fieldLink "GrownKinds" (159 : Nat) "GrownKinds$Grammar" "most" "I") ∈ gT := gT_in (List.mem_of_getElem? (i := 215) (by decide +kernel)) (by decide +kernel)
theorem dX11_count_55 : decode cX11_count 55 = .ok (.ireturn, 1) := by decide +kernel
theorem dX11_count_56 : decode cX11_count 56 = .ok (.aload_n 0, 1) := by decide +kernel
theorem dX11_count_57 : decode cX11_count 57 = .ok (.getfield 20, 3) := by decide +kernel
theorem dX11_count_60 : decode cX11_count 60 = .ok (.getfield 162, 3) := by decide +kernel
theorem wm_229 : (Jvm.Cond.fieldLink "GrownKinds" (162 : Nat) "GrownKinds$Grammar" "parts" "I") ∈ gT := gT_in (List.mem_of_getElem? (i := 229) (by decide +kernel)) (by decide +kernel)
theorem dX11_count_63 : decode cX11_count 63 = .ok (.ireturn, 1) := by decide +kernel
theorem dX11_count_64 : decode cX11_count 64 = .ok (.aload_n 0, 1) := by decide +kernel
theorem dX11_count_65 : decode cX11_count 65 = .ok (.getfield 20, 3) := by decide +kernel
theorem dX11_count_68 : decode cX11_count 68 = .ok (.getfield 165, 3) := by decide +kernel
theorem wm_225 : (Jvm.Cond.fieldLink "GrownKinds" (165 : Nat) "GrownKinds$Grammar" "lines" "I") ∈ gT := gT_in (List.mem_of_getElem? (i := 225) (by decide +kernel)) (by decide +kernel)
theorem dX11_count_71 : decode cX11_count 71 = .ok (.ireturn, 1) := by decide +kernel
theorem dX11_count_72 : decode cX11_count 72 = .ok (.aload_n 0, 1) := by decide +kernel
theorem dX11_count_73 : decode cX11_count 73 = .ok (.getfield 108, 3) := by decide +kernel
theorem dX11_count_76 : decode cX11_count 76 = .ok (.ireturn, 1) := by decide +kernel
theorem dX11_count_77 : decode cX11_count 77 = .ok (.aload_n 0, 1) := by decide +kernel
theorem dX11_count_78 : decode cX11_count 78 = .ok (.getfield 13, 3) := by decide +kernel
theorem dX11_count_81 : decode cX11_count 81 = .ok (.ireturn, 1) := by decide +kernel
theorem dX11_count_82 : decode cX11_count 82 = .ok (.iconst (-1), 1) := by decide +kernel
theorem dX11_count_83 : decode cX11_count 83 = .ok (.ireturn, 1) := by decide +kernel
theorem dX11_known_0 : decode cX11_known 0 = .ok (.iload_n 1, 1) := by decide +kernel
theorem dX11_known_1 : decode cX11_known 1 = .ok (.ifCond .lt 18, 3) := by decide +kernel
theorem dX11_known_19 : decode cX11_known 19 = .ok (.iconst 0, 1) := by decide +kernel
theorem dX11_known_20 : decode cX11_known 20 = .ok (.ireturn, 1) := by decide +kernel
theorem dX11_known_4 : decode cX11_known 4 = .ok (.iload_n 1, 1) := by decide +kernel
theorem dX11_known_5 : decode cX11_known 5 = .ok (.aload_n 0, 1) := by decide +kernel
theorem dX11_known_6 : decode cX11_known 6 = .ok (.getfield 20, 3) := by decide +kernel
theorem dX11_known_9 : decode cX11_known 9 = .ok (.getfield 156, 3) := by decide +kernel
theorem dX11_known_12 : decode cX11_known 12 = .ok (.if_icmp .ge 7, 3) := by decide +kernel
theorem dX11_known_15 : decode cX11_known 15 = .ok (.iconst 1, 1) := by decide +kernel
theorem dX11_known_16 : decode cX11_known 16 = .ok (.goto 4, 3) := by decide +kernel
theorem dX11_sized_0 : decode cX11_sized 0 = .ok (.aload_n 0, 1) := by decide +kernel
theorem dX11_sized_1 : decode cX11_sized 1 = .ok (.iload_n 1, 1) := by decide +kernel
theorem dX11_sized_2 : decode cX11_sized 2 = .ok (.invokevirtual 168, 3) := by decide +kernel
theorem wm_1101 : (Jvm.Cond.methodLink "GrownKinds" (168 : Nat) ({ cls := "GrownKinds", name := "known", desc := "(I)Z" } : Jvm.MethodName)) ∈ gT := gT_in (List.mem_of_getElem? (i := 1101) (by decide +kernel)) (by decide +kernel)
theorem wm_1103 : (Jvm.Cond.instanceMethod ({ cls := "GrownKinds", name := "known", desc := "(I)Z" } : Jvm.MethodName)) ∈ gT := gT_in (List.mem_of_getElem? (i := 1103) (by decide +kernel)) (by decide +kernel)
theorem wm_48 : Cond.selects "GrownKinds" ⟨"GrownKinds", "known", "(I)Z"⟩ ⟨"GrownKinds", "known", "(I)Z"⟩ ∈ gT := gT_in (List.mem_of_getElem? (i := 48) (by decide +kernel)) (by decide +kernel)
theorem wm_1104 : (Jvm.Cond.code ({ cls := "GrownKinds", name := "known", desc := "(I)Z" } : Jvm.MethodName) prog_1_method_9_code (2 : Nat) (Option.some Jvm.ClassFile.FieldType.boolean)) ∈ gT := gT_in (List.mem_of_getElem? (i := 1104) (by decide +kernel)) (by decide +kernel)
theorem dX11_sized_5 : decode cX11_sized 5 = .ok (.ifCond .eq 22, 3) := by decide +kernel
theorem dX11_sized_27 : decode cX11_sized 27 = .ok (.iconst 0, 1) := by decide +kernel
theorem dX11_sized_28 : decode cX11_sized 28 = .ok (.ireturn, 1) := by decide +kernel
theorem dX11_sized_8 : decode cX11_sized 8 = .ok (.iload_n 2, 1) := by decide +kernel
theorem dX11_sized_9 : decode cX11_sized 9 = .ok (.ifCond .lt 18, 3) := by decide +kernel
theorem dX11_sized_12 : decode cX11_sized 12 = .ok (.iload_n 2, 1) := by decide +kernel
theorem dX11_sized_13 : decode cX11_sized 13 = .ok (.aload_n 0, 1) := by decide +kernel
theorem dX11_sized_14 : decode cX11_sized 14 = .ok (.getfield 20, 3) := by decide +kernel
theorem dX11_sized_17 : decode cX11_sized 17 = .ok (.getfield 159, 3) := by decide +kernel
theorem dX11_sized_20 : decode cX11_sized 20 = .ok (.if_icmp .gt 7, 3) := by decide +kernel
theorem dX11_sized_23 : decode cX11_sized 23 = .ok (.iconst 1, 1) := by decide +kernel
theorem dX11_sized_24 : decode cX11_sized 24 = .ok (.goto 4, 3) := by decide +kernel
theorem dX11_termed_0 : decode cX11_termed 0 = .ok (.aload_n 0, 1) := by decide +kernel
theorem dX11_termed_1 : decode cX11_termed 1 = .ok (.iload_n 1, 1) := by decide +kernel
theorem dX11_termed_2 : decode cX11_termed 2 = .ok (.invokevirtual 168, 3) := by decide +kernel
theorem dX11_termed_5 : decode cX11_termed 5 = .ok (.ifCond .eq 24, 3) := by decide +kernel
theorem dX11_termed_29 : decode cX11_termed 29 = .ok (.iconst 0, 1) := by decide +kernel
theorem dX11_termed_30 : decode cX11_termed 30 = .ok (.ireturn, 1) := by decide +kernel
theorem dX11_termed_8 : decode cX11_termed 8 = .ok (.iload_n 2, 1) := by decide +kernel
theorem dX11_termed_9 : decode cX11_termed 9 = .ok (.ifCond .lt 20, 3) := by decide +kernel
theorem dX11_termed_12 : decode cX11_termed 12 = .ok (.iload_n 2, 1) := by decide +kernel
theorem dX11_termed_13 : decode cX11_termed 13 = .ok (.aload_n 0, 1) := by decide +kernel
theorem dX11_termed_14 : decode cX11_termed 14 = .ok (.getfield 20, 3) := by decide +kernel
theorem dX11_termed_17 : decode cX11_termed 17 = .ok (.getfield 172, 3) := by decide +kernel
theorem wm_266 : (Jvm.Cond.fieldLink "GrownKinds" (172 : Nat) "GrownKinds$Grammar" "termCount" "[I") ∈ gT := gT_in (List.mem_of_getElem? (i := 266) (by decide +kernel)) (by decide +kernel)
theorem dX11_termed_20 : decode cX11_termed 20 = .ok (.iload_n 1, 1) := by decide +kernel
theorem dX11_termed_21 : decode cX11_termed 21 = .ok (.iaload, 1) := by decide +kernel
theorem dX11_termed_22 : decode cX11_termed 22 = .ok (.if_icmp .ge 7, 3) := by decide +kernel
theorem dX11_termed_25 : decode cX11_termed 25 = .ok (.iconst 1, 1) := by decide +kernel
theorem dX11_termed_26 : decode cX11_termed 26 = .ok (.goto 4, 3) := by decide +kernel
theorem dX11_lettered_0 : decode cX11_lettered 0 = .ok (.iload_n 0, 1) := by decide +kernel
theorem dX11_lettered_1 : decode cX11_lettered 1 = .ok (.ifCond .lt 13, 3) := by decide +kernel
theorem dX11_lettered_14 : decode cX11_lettered 14 = .ok (.iconst 0, 1) := by decide +kernel
theorem dX11_lettered_15 : decode cX11_lettered 15 = .ok (.ireturn, 1) := by decide +kernel
theorem dX11_lettered_4 : decode cX11_lettered 4 = .ok (.iload_n 0, 1) := by decide +kernel
theorem dX11_lettered_5 : decode cX11_lettered 5 = .ok (.bipush 26, 2) := by decide +kernel
theorem dX11_lettered_7 : decode cX11_lettered 7 = .ok (.if_icmp .ge 7, 3) := by decide +kernel
theorem dX11_lettered_10 : decode cX11_lettered 10 = .ok (.iconst 1, 1) := by decide +kernel
theorem dX11_lettered_11 : decode cX11_lettered 11 = .ok (.goto 4, 3) := by decide +kernel
theorem dX11_boxy_0 : decode cX11_boxy 0 = .ok (.aload_n 0, 1) := by decide +kernel
theorem dX11_boxy_1 : decode cX11_boxy 1 = .ok (.iload_n 1, 1) := by decide +kernel
theorem dX11_boxy_2 : decode cX11_boxy 2 = .ok (.iload_n 2, 1) := by decide +kernel
theorem dX11_boxy_3 : decode cX11_boxy 3 = .ok (.invokevirtual 175, 3) := by decide +kernel
theorem wm_1156 : (Jvm.Cond.methodLink "GrownKinds" (175 : Nat) ({ cls := "GrownKinds", name := "sized", desc := "(II)Z" } : Jvm.MethodName)) ∈ gT := gT_in (List.mem_of_getElem? (i := 1156) (by decide +kernel)) (by decide +kernel)
theorem wm_1158 : (Jvm.Cond.instanceMethod ({ cls := "GrownKinds", name := "sized", desc := "(II)Z" } : Jvm.MethodName)) ∈ gT := gT_in (List.mem_of_getElem? (i := 1158) (by decide +kernel)) (by decide +kernel)
theorem wm_49 : Cond.selects "GrownKinds" ⟨"GrownKinds", "sized", "(II)Z"⟩ ⟨"GrownKinds", "sized", "(II)Z"⟩ ∈ gT := gT_in (List.mem_of_getElem? (i := 49) (by decide +kernel)) (by decide +kernel)
theorem wm_1159 : (Jvm.Cond.code ({ cls := "GrownKinds", name := "sized", desc := "(II)Z" } : Jvm.MethodName) prog_1_method_10_code (3 : Nat) (Option.some Jvm.ClassFile.FieldType.boolean)) ∈ gT := gT_in (List.mem_of_getElem? (i := 1159) (by decide +kernel)) (by decide +kernel)
theorem dX11_boxy_6 : decode cX11_boxy 6 = .ok (.ifCond .eq 21, 3) := by decide +kernel
theorem dX11_boxy_27 : decode cX11_boxy 27 = .ok (.iconst 0, 1) := by decide +kernel
theorem dX11_boxy_28 : decode cX11_boxy 28 = .ok (.ireturn, 1) := by decide +kernel
theorem dX11_boxy_9 : decode cX11_boxy 9 = .ok (.aload_n 0, 1) := by decide +kernel
theorem dX11_boxy_10 : decode cX11_boxy 10 = .ok (.iload_n 1, 1) := by decide +kernel
theorem dX11_boxy_11 : decode cX11_boxy 11 = .ok (.iload_n 3, 1) := by decide +kernel
theorem dX11_boxy_12 : decode cX11_boxy 12 = .ok (.invokevirtual 175, 3) := by decide +kernel
theorem dX11_boxy_15 : decode cX11_boxy 15 = .ok (.ifCond .eq 12, 3) := by decide +kernel
theorem dX11_boxy_18 : decode cX11_boxy 18 = .ok (.iload_n 2, 1) := by decide +kernel
theorem dX11_boxy_19 : decode cX11_boxy 19 = .ok (.iload_n 3, 1) := by decide +kernel
theorem dX11_boxy_20 : decode cX11_boxy 20 = .ok (.if_icmp .gt 7, 3) := by decide +kernel
theorem dX11_boxy_23 : decode cX11_boxy 23 = .ok (.iconst 1, 1) := by decide +kernel
theorem dX11_boxy_24 : decode cX11_boxy 24 = .ok (.goto 4, 3) := by decide +kernel
theorem dX11_terms_0 : decode cX11_terms 0 = .ok (.aload_n 0, 1) := by decide +kernel
theorem dX11_terms_1 : decode cX11_terms 1 = .ok (.iload_n 1, 1) := by decide +kernel
theorem dX11_terms_2 : decode cX11_terms 2 = .ok (.invokevirtual 168, 3) := by decide +kernel
theorem dX11_terms_5 : decode cX11_terms 5 = .ok (.ifCond .eq 15, 3) := by decide +kernel
theorem dX11_terms_20 : decode cX11_terms 20 = .ok (.bipush (-2), 2) := by decide +kernel
theorem dX11_terms_22 : decode cX11_terms 22 = .ok (.ireturn, 1) := by decide +kernel
theorem dX11_terms_8 : decode cX11_terms 8 = .ok (.aload_n 0, 1) := by decide +kernel
theorem dX11_terms_9 : decode cX11_terms 9 = .ok (.getfield 20, 3) := by decide +kernel
theorem dX11_terms_12 : decode cX11_terms 12 = .ok (.getfield 172, 3) := by decide +kernel
theorem dX11_terms_15 : decode cX11_terms 15 = .ok (.iload_n 1, 1) := by decide +kernel
theorem dX11_terms_16 : decode cX11_terms 16 = .ok (.iaload, 1) := by decide +kernel
theorem dX11_terms_17 : decode cX11_terms 17 = .ok (.goto 5, 3) := by decide +kernel
theorem dX11_off_0 : decode cX11_off 0 = .ok (.aload_n 0, 1) := by decide +kernel
theorem dX11_off_1 : decode cX11_off 1 = .ok (.iload_n 1, 1) := by decide +kernel
theorem dX11_off_2 : decode cX11_off 2 = .ok (.invokevirtual 168, 3) := by decide +kernel
theorem dX11_off_5 : decode cX11_off 5 = .ok (.ifCond .eq 15, 3) := by decide +kernel
theorem dX11_off_20 : decode cX11_off 20 = .ok (.bipush (-2), 2) := by decide +kernel
theorem dX11_off_22 : decode cX11_off 22 = .ok (.ireturn, 1) := by decide +kernel
theorem dX11_off_8 : decode cX11_off 8 = .ok (.aload_n 0, 1) := by decide +kernel
theorem dX11_off_9 : decode cX11_off 9 = .ok (.getfield 20, 3) := by decide +kernel
theorem dX11_off_12 : decode cX11_off 12 = .ok (.getfield 179, 3) := by decide +kernel
theorem wm_272 : (Jvm.Cond.fieldLink "GrownKinds" (179 : Nat) "GrownKinds$Grammar" "off" "[I") ∈ gT := gT_in (List.mem_of_getElem? (i := 272) (by decide +kernel)) (by decide +kernel)
theorem dX11_off_15 : decode cX11_off 15 = .ok (.iload_n 1, 1) := by decide +kernel
theorem dX11_off_16 : decode cX11_off 16 = .ok (.iaload, 1) := by decide +kernel
theorem dX11_off_17 : decode cX11_off 17 = .ok (.goto 5, 3) := by decide +kernel
theorem dX11_letters_0 : decode cX11_letters 0 = .ok (.aload_n 0, 1) := by decide +kernel
theorem dX11_letters_1 : decode cX11_letters 1 = .ok (.iload_n 1, 1) := by decide +kernel
theorem dX11_letters_2 : decode cX11_letters 2 = .ok (.invokevirtual 168, 3) := by decide +kernel
theorem dX11_letters_5 : decode cX11_letters 5 = .ok (.ifCond .eq 15, 3) := by decide +kernel
theorem dX11_letters_20 : decode cX11_letters 20 = .ok (.bipush (-2), 2) := by decide +kernel
theorem dX11_letters_22 : decode cX11_letters 22 = .ok (.ireturn, 1) := by decide +kernel
theorem dX11_letters_8 : decode cX11_letters 8 = .ok (.aload_n 0, 1) := by decide +kernel
theorem dX11_letters_9 : decode cX11_letters 9 = .ok (.getfield 42, 3) := by decide +kernel
theorem dX11_letters_12 : decode cX11_letters 12 = .ok (.getfield 182, 3) := by decide +kernel
theorem wm_332 : (Jvm.Cond.fieldLink "GrownKinds" (182 : Nat) "GrownKinds$Leaning" "kindLetters" "[I") ∈ gT := gT_in (List.mem_of_getElem? (i := 332) (by decide +kernel)) (by decide +kernel)
theorem dX11_letters_15 : decode cX11_letters 15 = .ok (.iload_n 1, 1) := by decide +kernel
theorem dX11_letters_16 : decode cX11_letters 16 = .ok (.iaload, 1) := by decide +kernel
theorem dX11_letters_17 : decode cX11_letters 17 = .ok (.goto 5, 3) := by decide +kernel
theorem dX11_uses_0 : decode cX11_uses 0 = .ok (.aload_n 0, 1) := by decide +kernel
theorem dX11_uses_1 : decode cX11_uses 1 = .ok (.iload_n 1, 1) := by decide +kernel
theorem dX11_uses_2 : decode cX11_uses 2 = .ok (.invokevirtual 168, 3) := by decide +kernel
theorem dX11_uses_5 : decode cX11_uses 5 = .ok (.ifCond .eq 15, 3) := by decide +kernel
theorem dX11_uses_20 : decode cX11_uses 20 = .ok (.bipush (-2), 2) := by decide +kernel
theorem dX11_uses_22 : decode cX11_uses 22 = .ok (.ireturn, 1) := by decide +kernel
theorem dX11_uses_8 : decode cX11_uses 8 = .ok (.aload_n 0, 1) := by decide +kernel
theorem dX11_uses_9 : decode cX11_uses 9 = .ok (.getfield 42, 3) := by decide +kernel
theorem dX11_uses_12 : decode cX11_uses 12 = .ok (.getfield 185, 3) := by decide +kernel
theorem wm_330 : (Jvm.Cond.fieldLink "GrownKinds" (185 : Nat) "GrownKinds$Leaning" "kindUses" "[I") ∈ gT := gT_in (List.mem_of_getElem? (i := 330) (by decide +kernel)) (by decide +kernel)
theorem dX11_uses_15 : decode cX11_uses 15 = .ok (.iload_n 1, 1) := by decide +kernel
theorem dX11_uses_16 : decode cX11_uses 16 = .ok (.iaload, 1) := by decide +kernel
theorem dX11_uses_17 : decode cX11_uses 17 = .ok (.goto 5, 3) := by decide +kernel
theorem dX11_reaches_0 : decode cX11_reaches 0 = .ok (.aload_n 0, 1) := by decide +kernel
theorem dX11_reaches_1 : decode cX11_reaches 1 = .ok (.iload_n 1, 1) := by decide +kernel
theorem dX11_reaches_2 : decode cX11_reaches 2 = .ok (.invokevirtual 168, 3) := by decide +kernel
theorem dX11_reaches_5 : decode cX11_reaches 5 = .ok (.ifCond .eq 17, 3) := by decide +kernel
theorem dX11_reaches_22 : decode cX11_reaches 22 = .ok (.bipush (-2), 2) := by decide +kernel
theorem dX11_reaches_24 : decode cX11_reaches 24 = .ok (.ireturn, 1) := by decide +kernel
theorem dX11_reaches_8 : decode cX11_reaches 8 = .ok (.aload_n 0, 1) := by decide +kernel
theorem dX11_reaches_9 : decode cX11_reaches 9 = .ok (.getfield 42, 3) := by decide +kernel
theorem dX11_reaches_12 : decode cX11_reaches 12 = .ok (.getfield 185, 3) := by decide +kernel
theorem dX11_reaches_15 : decode cX11_reaches 15 = .ok (.iload_n 1, 1) := by decide +kernel
theorem dX11_reaches_16 : decode cX11_reaches 16 = .ok (.invokestatic 188, 3) := by decide +kernel
theorem wm_1121 : (Jvm.Cond.methodLink "GrownKinds" (188 : Nat) ({ cls := "GrownKinds$Leaning", name := "closure", desc := "([II)I" } : Jvm.MethodName)) ∈ gT := gT_in (List.mem_of_getElem? (i := 1121) (by decide +kernel)) (by decide +kernel)
theorem dX11_reaches_19 : decode cX11_reaches 19 = .ok (.goto 5, 3) := by decide +kernel
theorem dX11_empty_0 : decode cX11_empty 0 = .ok (.aload_n 0, 1) := by decide +kernel
theorem dX11_empty_1 : decode cX11_empty 1 = .ok (.iload_n 1, 1) := by decide +kernel
theorem dX11_empty_2 : decode cX11_empty 2 = .ok (.invokevirtual 168, 3) := by decide +kernel
theorem dX11_empty_5 : decode cX11_empty 5 = .ok (.ifCond .eq 17, 3) := by decide +kernel
theorem dX11_empty_22 : decode cX11_empty 22 = .ok (.bipush (-2), 2) := by decide +kernel
theorem dX11_empty_24 : decode cX11_empty 24 = .ok (.ireturn, 1) := by decide +kernel
theorem dX11_empty_8 : decode cX11_empty 8 = .ok (.aload_n 0, 1) := by decide +kernel
theorem dX11_empty_9 : decode cX11_empty 9 = .ok (.getfield 42, 3) := by decide +kernel
theorem dX11_empty_12 : decode cX11_empty 12 = .ok (.getfield 192, 3) := by decide +kernel
theorem wm_322 : (Jvm.Cond.fieldLink "GrownKinds" (192 : Nat) "GrownKinds$Leaning" "emptyKinds" "I") ∈ gT := gT_in (List.mem_of_getElem? (i := 322) (by decide +kernel)) (by decide +kernel)
theorem dX11_empty_15 : decode cX11_empty 15 = .ok (.iload_n 1, 1) := by decide +kernel
theorem dX11_empty_16 : decode cX11_empty 16 = .ok (.ishr, 1) := by decide +kernel
theorem dX11_empty_17 : decode cX11_empty 17 = .ok (.iconst 1, 1) := by decide +kernel
theorem dX11_empty_18 : decode cX11_empty 18 = .ok (.iand, 1) := by decide +kernel
theorem dX11_empty_19 : decode cX11_empty 19 = .ok (.goto 5, 3) := by decide +kernel
theorem dX11_leans_0 : decode cX11_leans 0 = .ok (.aload_n 0, 1) := by decide +kernel
theorem dX11_leans_1 : decode cX11_leans 1 = .ok (.iload_n 1, 1) := by decide +kernel
theorem dX11_leans_2 : decode cX11_leans 2 = .ok (.invokevirtual 168, 3) := by decide +kernel
theorem dX11_leans_5 : decode cX11_leans 5 = .ok (.ifCond .eq 15, 3) := by decide +kernel
theorem dX11_leans_20 : decode cX11_leans 20 = .ok (.bipush (-2), 2) := by decide +kernel
theorem dX11_leans_22 : decode cX11_leans 22 = .ok (.ireturn, 1) := by decide +kernel
theorem dX11_leans_8 : decode cX11_leans 8 = .ok (.aload_n 0, 1) := by decide +kernel
theorem dX11_leans_9 : decode cX11_leans 9 = .ok (.getfield 42, 3) := by decide +kernel
theorem dX11_leans_12 : decode cX11_leans 12 = .ok (.getfield 195, 3) := by decide +kernel
theorem wm_328 : (Jvm.Cond.fieldLink "GrownKinds" (195 : Nat) "GrownKinds$Leaning" "kindLeans" "[I") ∈ gT := gT_in (List.mem_of_getElem? (i := 328) (by decide +kernel)) (by decide +kernel)
theorem dX11_leans_15 : decode cX11_leans 15 = .ok (.iload_n 1, 1) := by decide +kernel
theorem dX11_leans_16 : decode cX11_leans 16 = .ok (.iaload, 1) := by decide +kernel
theorem dX11_leans_17 : decode cX11_leans 17 = .ok (.goto 5, 3) := by decide +kernel
theorem dX11_least_0 : decode cX11_least 0 = .ok (.aload_n 0, 1) := by decide +kernel
theorem dX11_least_1 : decode cX11_least 1 = .ok (.iload_n 1, 1) := by decide +kernel
theorem dX11_least_2 : decode cX11_least 2 = .ok (.lconst 1, 1) := by decide +kernel
theorem dX11_least_3 : decode cX11_least 3 = .ok (.invokevirtual 202, 3) := by decide +kernel
theorem wm_1138 : (Jvm.Cond.methodLink "GrownKinds" (202 : Nat) ({ cls := "GrownKinds", name := "first", desc := "(IJ)I" } : Jvm.MethodName)) ∈ gT := gT_in (List.mem_of_getElem? (i := 1138) (by decide +kernel)) (by decide +kernel)
theorem wm_1139 : (Jvm.Cond.instanceMethod ({ cls := "GrownKinds", name := "first", desc := "(IJ)I" } : Jvm.MethodName)) ∈ gT := gT_in (List.mem_of_getElem? (i := 1139) (by decide +kernel)) (by decide +kernel)
theorem wm_1140 : (Jvm.Cond.selects "GrownKinds" ({ cls := "GrownKinds", name := "first", desc := "(IJ)I" } : Jvm.MethodName) ({ cls := "GrownKinds", name := "first", desc := "(IJ)I" } : Jvm.MethodName)) ∈ gT := gT_in (List.mem_of_getElem? (i := 1140) (by decide +kernel)) (by decide +kernel)
theorem wm_1141 : (Jvm.Cond.code ({ cls := "GrownKinds", name := "first", desc := "(IJ)I" } : Jvm.MethodName) prog_1_method_26_code (5 : Nat) (Option.some Jvm.ClassFile.FieldType.int)) ∈ gT := gT_in (List.mem_of_getElem? (i := 1141) (by decide +kernel)) (by decide +kernel)
theorem dX11_first_0 : decode cX11_first 0 = .ok (.aload_n 0, 1) := by decide +kernel
theorem dX11_first_1 : decode cX11_first 1 = .ok (.iload_n 1, 1) := by decide +kernel
theorem dX11_first_2 : decode cX11_first 2 = .ok (.invokevirtual 168, 3) := by decide +kernel
theorem dX11_first_5 : decode cX11_first 5 = .ok (.ifCond .eq 17, 3) := by decide +kernel
theorem dX11_first_22 : decode cX11_first 22 = .ok (.bipush (-2), 2) := by decide +kernel
theorem dX11_first_24 : decode cX11_first 24 = .ok (.ireturn, 1) := by decide +kernel
theorem dX11_first_8 : decode cX11_first 8 = .ok (.lload_n 2, 1) := by decide +kernel
theorem dX11_first_9 : decode cX11_first 9 = .ok (.lconst 1, 1) := by decide +kernel
theorem dX11_first_10 : decode cX11_first 10 = .ok (.lcmp, 1) := by decide +kernel
theorem dX11_first_11 : decode cX11_first 11 = .ok (.ifCond .lt 11, 3) := by decide +kernel
theorem dX11_first_14 : decode cX11_first 14 = .ok (.lload_n 2, 1) := by decide +kernel
theorem dX11_first_15 : decode cX11_first 15 = .ok (.ldc2_w 219, 3) := by decide +kernel
theorem wm_1142 : (Jvm.Cond.constantLong "GrownKinds" (219 : Nat) (1000000000000 : Int64)) ∈ gT := gT_in (List.mem_of_getElem? (i := 1142) (by decide +kernel)) (by decide +kernel)
theorem dX11_first_18 : decode cX11_first 18 = .ok (.lcmp, 1) := by decide +kernel
theorem dX11_first_19 : decode cX11_first 19 = .ok (.ifCond .le 6, 3) := by decide +kernel
theorem dX11_first_25 : decode cX11_first 25 = .ok (.iconst 0, 1) := by decide +kernel
theorem dX11_first_26 : decode cX11_first 26 = .ok (.istore 4, 2) := by decide +kernel
theorem dX11_first_28 : decode cX11_first 28 = .ok (.iload 4, 2) := by decide +kernel
theorem dX11_first_30 : decode cX11_first 30 = .ok (.aload_n 0, 1) := by decide +kernel
theorem dX11_first_31 : decode cX11_first 31 = .ok (.getfield 20, 3) := by decide +kernel
theorem dX11_first_34 : decode cX11_first 34 = .ok (.getfield 159, 3) := by decide +kernel
theorem dX11_first_37 : decode cX11_first 37 = .ok (.if_icmp .gt 27, 3) := by decide +kernel
theorem dX11_first_40 : decode cX11_first 40 = .ok (.aload_n 0, 1) := by decide +kernel
theorem dX11_first_41 : decode cX11_first 41 = .ok (.getfield 51, 3) := by decide +kernel
theorem dX11_first_44 : decode cX11_first 44 = .ok (.iload_n 1, 1) := by decide +kernel
theorem dX11_first_45 : decode cX11_first 45 = .ok (.iload 4, 2) := by decide +kernel
theorem dX11_first_47 : decode cX11_first 47 = .ok (.invokevirtual 206, 3) := by decide +kernel
theorem wm_1143 : (Jvm.Cond.methodLink "GrownKinds" (206 : Nat) ({ cls := "GrownKinds$Census", name := "thingsAt", desc := "(II)J" } : Jvm.MethodName)) ∈ gT := gT_in (List.mem_of_getElem? (i := 1143) (by decide +kernel)) (by decide +kernel)
theorem wm_1144 : (Jvm.Cond.instanceMethod ({ cls := "GrownKinds$Census", name := "thingsAt", desc := "(II)J" } : Jvm.MethodName)) ∈ gT := gT_in (List.mem_of_getElem? (i := 1144) (by decide +kernel)) (by decide +kernel)
theorem wm_1145 : (Jvm.Cond.selects "GrownKinds$Census" ({ cls := "GrownKinds$Census", name := "thingsAt", desc := "(II)J" } : Jvm.MethodName) ({ cls := "GrownKinds$Census", name := "thingsAt", desc := "(II)J" } : Jvm.MethodName)) ∈ gT := gT_in (List.mem_of_getElem? (i := 1145) (by decide +kernel)) (by decide +kernel)
theorem wm_1146 : (Jvm.Cond.code ({ cls := "GrownKinds$Census", name := "thingsAt", desc := "(II)J" } : Jvm.MethodName) prog_2_method_4_code (3 : Nat) (Option.some Jvm.ClassFile.FieldType.long)) ∈ gT := gT_in (List.mem_of_getElem? (i := 1146) (by decide +kernel)) (by decide +kernel)
theorem dX0_thingsAt_0 : decode cX0_thingsAt 0 = .ok (.ldc2_w 64, 3) := by decide +kernel
theorem wm_1147 : (Jvm.Cond.constantLong "GrownKinds$Census" (64 : Nat) (1000000000000 : Int64)) ∈ gT := gT_in (List.mem_of_getElem? (i := 1147) (by decide +kernel)) (by decide +kernel)
theorem dX0_thingsAt_3 : decode cX0_thingsAt 3 = .ok (.aload_n 0, 1) := by decide +kernel
theorem dX0_thingsAt_4 : decode cX0_thingsAt 4 = .ok (.getfield 22, 3) := by decide +kernel
theorem dX0_thingsAt_7 : decode cX0_thingsAt 7 = .ok (.iload_n 1, 1) := by decide +kernel
theorem dX0_thingsAt_8 : decode cX0_thingsAt 8 = .ok (.bipush 64, 2) := by decide +kernel
theorem dX0_thingsAt_10 : decode cX0_thingsAt 10 = .ok (.imul, 1) := by decide +kernel
theorem dX0_thingsAt_11 : decode cX0_thingsAt 11 = .ok (.iload_n 2, 1) := by decide +kernel
theorem dX0_thingsAt_12 : decode cX0_thingsAt 12 = .ok (.bipush 8, 2) := by decide +kernel
theorem dX0_thingsAt_14 : decode cX0_thingsAt 14 = .ok (.imul, 1) := by decide +kernel
theorem dX0_thingsAt_15 : decode cX0_thingsAt 15 = .ok (.iadd, 1) := by decide +kernel
theorem dX0_thingsAt_16 : decode cX0_thingsAt 16 = .ok (.laload, 1) := by decide +kernel
theorem dX0_thingsAt_17 : decode cX0_thingsAt 17 = .ok (.invokestatic 66, 3) := by decide +kernel
theorem wm_1148 : (Jvm.Cond.methodLink "GrownKinds$Census" (66 : Nat) ({ cls := "java/lang/Math", name := "min", desc := "(JJ)J" } : Jvm.MethodName)) ∈ gT := gT_in (List.mem_of_getElem? (i := 1148) (by decide +kernel)) (by decide +kernel)
theorem dX0_thingsAt_20 : decode cX0_thingsAt 20 = .ok (.lreturn, 1) := by decide +kernel
theorem dX11_first_50 : decode cX11_first 50 = .ok (.lload_n 2, 1) := by decide +kernel
theorem dX11_first_51 : decode cX11_first 51 = .ok (.lcmp, 1) := by decide +kernel
theorem dX11_first_52 : decode cX11_first 52 = .ok (.ifCond .lt 6, 3) := by decide +kernel
theorem dX11_first_58 : decode cX11_first 58 = .ok (.iinc 4 1, 3) := by decide +kernel
theorem dX11_first_61 : decode cX11_first 61 = .ok (.goto (-33), 3) := by decide +kernel
theorem dX11_first_55 : decode cX11_first 55 = .ok (.iload 4, 2) := by decide +kernel
theorem dX11_first_57 : decode cX11_first 57 = .ok (.ireturn, 1) := by decide +kernel
theorem dX11_first_64 : decode cX11_first 64 = .ok (.iconst (-1), 1) := by decide +kernel
theorem dX11_first_65 : decode cX11_first 65 = .ok (.ireturn, 1) := by decide +kernel
theorem dX11_least_6 : decode cX11_least 6 = .ok (.ireturn, 1) := by decide +kernel
theorem dX11_blank_0 : decode cX11_blank 0 = .ok (.aload_n 0, 1) := by decide +kernel
theorem dX11_blank_1 : decode cX11_blank 1 = .ok (.getfield 20, 3) := by decide +kernel
theorem dX11_blank_4 : decode cX11_blank 4 = .ok (.getfield 165, 3) := by decide +kernel
theorem dX11_blank_7 : decode cX11_blank 7 = .ok (.ifCond .ne 6, 3) := by decide +kernel
theorem dX11_blank_13 : decode cX11_blank 13 = .ok (.iconst 0, 1) := by decide +kernel
theorem dX11_blank_14 : decode cX11_blank 14 = .ok (.istore_n 1, 1) := by decide +kernel
theorem dX11_blank_15 : decode cX11_blank 15 = .ok (.iconst 0, 1) := by decide +kernel
theorem dX11_blank_16 : decode cX11_blank 16 = .ok (.istore_n 2, 1) := by decide +kernel
theorem dX11_blank_17 : decode cX11_blank 17 = .ok (.iload_n 2, 1) := by decide +kernel
theorem dX11_blank_18 : decode cX11_blank 18 = .ok (.aload_n 0, 1) := by decide +kernel
theorem dX11_blank_19 : decode cX11_blank 19 = .ok (.getfield 20, 3) := by decide +kernel
theorem dX11_blank_22 : decode cX11_blank 22 = .ok (.getfield 156, 3) := by decide +kernel
theorem dX11_blank_25 : decode cX11_blank 25 = .ok (.if_icmp .ge 24, 3) := by decide +kernel
theorem dX11_blank_28 : decode cX11_blank 28 = .ok (.aload_n 0, 1) := by decide +kernel
theorem dX11_blank_29 : decode cX11_blank 29 = .ok (.iload_n 2, 1) := by decide +kernel
theorem dX11_blank_30 : decode cX11_blank 30 = .ok (.invokevirtual 198, 3) := by decide +kernel
theorem wm_1134 : (Jvm.Cond.methodLink "GrownKinds" (198 : Nat) ({ cls := "GrownKinds", name := "least", desc := "(I)I" } : Jvm.MethodName)) ∈ gT := gT_in (List.mem_of_getElem? (i := 1134) (by decide +kernel)) (by decide +kernel)
theorem wm_1135 : (Jvm.Cond.instanceMethod ({ cls := "GrownKinds", name := "least", desc := "(I)I" } : Jvm.MethodName)) ∈ gT := gT_in (List.mem_of_getElem? (i := 1135) (by decide +kernel)) (by decide +kernel)
theorem wm_1136 : (Jvm.Cond.selects "GrownKinds" ({ cls := "GrownKinds", name := "least", desc := "(I)I" } : Jvm.MethodName) ({ cls := "GrownKinds", name := "least", desc := "(I)I" } : Jvm.MethodName)) ∈ gT := gT_in (List.mem_of_getElem? (i := 1136) (by decide +kernel)) (by decide +kernel)
theorem wm_1137 : (Jvm.Cond.code ({ cls := "GrownKinds", name := "least", desc := "(I)I" } : Jvm.MethodName) prog_1_method_22_code (2 : Nat) (Option.some Jvm.ClassFile.FieldType.int)) ∈ gT := gT_in (List.mem_of_getElem? (i := 1137) (by decide +kernel)) (by decide +kernel)
theorem dX11_blank_33 : decode cX11_blank 33 = .ok (.iconst (-1), 1) := by decide +kernel
theorem dX11_blank_34 : decode cX11_blank 34 = .ok (.if_icmp .ne 9, 3) := by decide +kernel
theorem dX11_blank_43 : decode cX11_blank 43 = .ok (.iinc 2 1, 3) := by decide +kernel
theorem dX11_blank_46 : decode cX11_blank 46 = .ok (.goto (-29), 3) := by decide +kernel
theorem dX11_blank_37 : decode cX11_blank 37 = .ok (.iload_n 1, 1) := by decide +kernel
theorem dX11_blank_38 : decode cX11_blank 38 = .ok (.iconst 1, 1) := by decide +kernel
theorem dX11_blank_39 : decode cX11_blank 39 = .ok (.iload_n 2, 1) := by decide +kernel
theorem dX11_blank_40 : decode cX11_blank 40 = .ok (.ishl, 1) := by decide +kernel
theorem dX11_blank_41 : decode cX11_blank 41 = .ok (.ior, 1) := by decide +kernel
theorem dX11_blank_42 : decode cX11_blank 42 = .ok (.istore_n 1, 1) := by decide +kernel
theorem dX11_blank_49 : decode cX11_blank 49 = .ok (.iload_n 1, 1) := by decide +kernel
theorem dX11_blank_50 : decode cX11_blank 50 = .ok (.ireturn, 1) := by decide +kernel
theorem dX11_blank_10 : decode cX11_blank 10 = .ok (.bipush (-2), 2) := by decide +kernel
theorem dX11_blank_12 : decode cX11_blank 12 = .ok (.ireturn, 1) := by decide +kernel
theorem dX11_things_0 : decode cX11_things 0 = .ok (.aload_n 0, 1) := by decide +kernel
theorem dX11_things_1 : decode cX11_things 1 = .ok (.iload_n 1, 1) := by decide +kernel
theorem dX11_things_2 : decode cX11_things 2 = .ok (.iload_n 2, 1) := by decide +kernel
theorem dX11_things_3 : decode cX11_things 3 = .ok (.invokevirtual 175, 3) := by decide +kernel
theorem dX11_things_6 : decode cX11_things 6 = .ok (.ifCond .eq 15, 3) := by decide +kernel
theorem dX11_things_21 : decode cX11_things 21 = .ok (.ldc2_w 210, 3) := by decide +kernel
theorem wm_1160 : (Jvm.Cond.constantLong "GrownKinds" (210 : Nat) (-2 : Int64)) ∈ gT := gT_in (List.mem_of_getElem? (i := 1160) (by decide +kernel)) (by decide +kernel)
theorem dX11_things_24 : decode cX11_things 24 = .ok (.lreturn, 1) := by decide +kernel
theorem dX11_things_9 : decode cX11_things 9 = .ok (.aload_n 0, 1) := by decide +kernel
theorem dX11_things_10 : decode cX11_things 10 = .ok (.getfield 51, 3) := by decide +kernel
theorem dX11_things_13 : decode cX11_things 13 = .ok (.iload_n 1, 1) := by decide +kernel
theorem dX11_things_14 : decode cX11_things 14 = .ok (.iload_n 2, 1) := by decide +kernel
theorem dX11_things_15 : decode cX11_things 15 = .ok (.invokevirtual 206, 3) := by decide +kernel
theorem dX11_things_18 : decode cX11_things 18 = .ok (.goto 6, 3) := by decide +kernel
theorem dX11_upto_0 : decode cX11_upto 0 = .ok (.aload_n 0, 1) := by decide +kernel
theorem dX11_upto_1 : decode cX11_upto 1 = .ok (.iload_n 1, 1) := by decide +kernel
theorem dX11_upto_2 : decode cX11_upto 2 = .ok (.iconst 0, 1) := by decide +kernel
theorem dX11_upto_3 : decode cX11_upto 3 = .ok (.iload_n 2, 1) := by decide +kernel
theorem dX11_upto_4 : decode cX11_upto 4 = .ok (.invokevirtual 212, 3) := by decide +kernel
theorem wm_1165 : (Jvm.Cond.methodLink "GrownKinds" (212 : Nat) ({ cls := "GrownKinds", name := "boxed", desc := "(III)J" } : Jvm.MethodName)) ∈ gT := gT_in (List.mem_of_getElem? (i := 1165) (by decide +kernel)) (by decide +kernel)
theorem wm_1166 : (Jvm.Cond.instanceMethod ({ cls := "GrownKinds", name := "boxed", desc := "(III)J" } : Jvm.MethodName)) ∈ gT := gT_in (List.mem_of_getElem? (i := 1166) (by decide +kernel)) (by decide +kernel)
theorem wm_1167 : (Jvm.Cond.selects "GrownKinds" ({ cls := "GrownKinds", name := "boxed", desc := "(III)J" } : Jvm.MethodName) ({ cls := "GrownKinds", name := "boxed", desc := "(III)J" } : Jvm.MethodName)) ∈ gT := gT_in (List.mem_of_getElem? (i := 1167) (by decide +kernel)) (by decide +kernel)
theorem wm_1168 : (Jvm.Cond.code ({ cls := "GrownKinds", name := "boxed", desc := "(III)J" } : Jvm.MethodName) prog_1_method_52_code (4 : Nat) (Option.some Jvm.ClassFile.FieldType.long)) ∈ gT := gT_in (List.mem_of_getElem? (i := 1168) (by decide +kernel)) (by decide +kernel)
theorem dX11_boxed_0 : decode cX11_boxed 0 = .ok (.aload_n 0, 1) := by decide +kernel
theorem dX11_boxed_1 : decode cX11_boxed 1 = .ok (.iload_n 1, 1) := by decide +kernel
theorem dX11_boxed_2 : decode cX11_boxed 2 = .ok (.iload_n 2, 1) := by decide +kernel
theorem dX11_boxed_3 : decode cX11_boxed 3 = .ok (.iload_n 3, 1) := by decide +kernel
theorem dX11_boxed_4 : decode cX11_boxed 4 = .ok (.invokevirtual 332, 3) := by decide +kernel
theorem wm_1169 : (Jvm.Cond.methodLink "GrownKinds" (332 : Nat) ({ cls := "GrownKinds", name := "boxy", desc := "(III)Z" } : Jvm.MethodName)) ∈ gT := gT_in (List.mem_of_getElem? (i := 1169) (by decide +kernel)) (by decide +kernel)
theorem wm_1171 : (Jvm.Cond.instanceMethod ({ cls := "GrownKinds", name := "boxy", desc := "(III)Z" } : Jvm.MethodName)) ∈ gT := gT_in (List.mem_of_getElem? (i := 1171) (by decide +kernel)) (by decide +kernel)
theorem wm_50 : Cond.selects "GrownKinds" ⟨"GrownKinds", "boxy", "(III)Z"⟩ ⟨"GrownKinds", "boxy", "(III)Z"⟩ ∈ gT := gT_in (List.mem_of_getElem? (i := 50) (by decide +kernel)) (by decide +kernel)
theorem wm_1172 : (Jvm.Cond.code ({ cls := "GrownKinds", name := "boxy", desc := "(III)Z" } : Jvm.MethodName) prog_1_method_13_code (4 : Nat) (Option.some Jvm.ClassFile.FieldType.boolean)) ∈ gT := gT_in (List.mem_of_getElem? (i := 1172) (by decide +kernel)) (by decide +kernel)
theorem dX11_boxed_7 : decode cX11_boxed 7 = .ok (.ifCond .eq 16, 3) := by decide +kernel
theorem dX11_boxed_23 : decode cX11_boxed 23 = .ok (.ldc2_w 210, 3) := by decide +kernel
theorem dX11_boxed_26 : decode cX11_boxed 26 = .ok (.lreturn, 1) := by decide +kernel
theorem dX11_boxed_10 : decode cX11_boxed 10 = .ok (.aload_n 0, 1) := by decide +kernel
theorem dX11_boxed_11 : decode cX11_boxed 11 = .ok (.getfield 51, 3) := by decide +kernel
theorem dX11_boxed_14 : decode cX11_boxed 14 = .ok (.iload_n 1, 1) := by decide +kernel
theorem dX11_boxed_15 : decode cX11_boxed 15 = .ok (.iload_n 2, 1) := by decide +kernel
theorem dX11_boxed_16 : decode cX11_boxed 16 = .ok (.iload_n 3, 1) := by decide +kernel
theorem dX11_boxed_17 : decode cX11_boxed 17 = .ok (.invokevirtual 336, 3) := by decide +kernel
theorem wm_1173 : (Jvm.Cond.methodLink "GrownKinds" (336 : Nat) ({ cls := "GrownKinds$Census", name := "between", desc := "(III)J" } : Jvm.MethodName)) ∈ gT := gT_in (List.mem_of_getElem? (i := 1173) (by decide +kernel)) (by decide +kernel)
theorem wm_1174 : (Jvm.Cond.instanceMethod ({ cls := "GrownKinds$Census", name := "between", desc := "(III)J" } : Jvm.MethodName)) ∈ gT := gT_in (List.mem_of_getElem? (i := 1174) (by decide +kernel)) (by decide +kernel)
theorem wm_1175 : (Jvm.Cond.selects "GrownKinds$Census" ({ cls := "GrownKinds$Census", name := "between", desc := "(III)J" } : Jvm.MethodName) ({ cls := "GrownKinds$Census", name := "between", desc := "(III)J" } : Jvm.MethodName)) ∈ gT := gT_in (List.mem_of_getElem? (i := 1175) (by decide +kernel)) (by decide +kernel)
theorem wm_1176 : (Jvm.Cond.code ({ cls := "GrownKinds$Census", name := "between", desc := "(III)J" } : Jvm.MethodName) prog_2_method_9_code (7 : Nat) (Option.some Jvm.ClassFile.FieldType.long)) ∈ gT := gT_in (List.mem_of_getElem? (i := 1176) (by decide +kernel)) (by decide +kernel)
theorem dX0_between_0 : decode cX0_between 0 = .ok (.lconst 0, 1) := by decide +kernel
theorem dX0_between_1 : decode cX0_between 1 = .ok (.lstore 4, 2) := by decide +kernel
theorem dX0_between_3 : decode cX0_between 3 = .ok (.iload_n 2, 1) := by decide +kernel
theorem dX0_between_4 : decode cX0_between 4 = .ok (.istore 6, 2) := by decide +kernel
theorem dX0_between_6 : decode cX0_between 6 = .ok (.iload 6, 2) := by decide +kernel
theorem dX0_between_8 : decode cX0_between 8 = .ok (.iload_n 3, 1) := by decide +kernel
theorem dX0_between_9 : decode cX0_between 9 = .ok (.if_icmp .gt 27, 3) := by decide +kernel
theorem dX0_between_12 : decode cX0_between 12 = .ok (.ldc2_w 64, 3) := by decide +kernel
theorem dX0_between_15 : decode cX0_between 15 = .ok (.lload 4, 2) := by decide +kernel
theorem dX0_between_17 : decode cX0_between 17 = .ok (.aload_n 0, 1) := by decide +kernel
theorem dX0_between_18 : decode cX0_between 18 = .ok (.iload_n 1, 1) := by decide +kernel
theorem dX0_between_19 : decode cX0_between 19 = .ok (.iload 6, 2) := by decide +kernel
theorem dX0_between_21 : decode cX0_between 21 = .ok (.invokevirtual 88, 3) := by decide +kernel
theorem wm_1177 : (Jvm.Cond.methodLink "GrownKinds$Census" (88 : Nat) ({ cls := "GrownKinds$Census", name := "thingsAt", desc := "(II)J" } : Jvm.MethodName)) ∈ gT := gT_in (List.mem_of_getElem? (i := 1177) (by decide +kernel)) (by decide +kernel)
theorem dX0_between_24 : decode cX0_between 24 = .ok (.ladd, 1) := by decide +kernel
theorem dX0_between_25 : decode cX0_between 25 = .ok (.invokestatic 66, 3) := by decide +kernel
theorem dX0_between_28 : decode cX0_between 28 = .ok (.lstore 4, 2) := by decide +kernel
theorem dX0_between_30 : decode cX0_between 30 = .ok (.iinc 6 1, 3) := by decide +kernel
theorem dX0_between_33 : decode cX0_between 33 = .ok (.goto (-27), 3) := by decide +kernel
theorem dX0_between_36 : decode cX0_between 36 = .ok (.lload 4, 2) := by decide +kernel
theorem dX0_between_38 : decode cX0_between 38 = .ok (.lreturn, 1) := by decide +kernel
theorem dX11_boxed_20 : decode cX11_boxed 20 = .ok (.goto 6, 3) := by decide +kernel
theorem dX11_upto_7 : decode cX11_upto 7 = .ok (.lreturn, 1) := by decide +kernel
theorem dX11_by_0 : decode cX11_by 0 = .ok (.aload_n 0, 1) := by decide +kernel
theorem dX11_by_1 : decode cX11_by 1 = .ok (.iload_n 1, 1) := by decide +kernel
theorem dX11_by_2 : decode cX11_by 2 = .ok (.iload_n 2, 1) := by decide +kernel
theorem dX11_by_3 : decode cX11_by 3 = .ok (.invokevirtual 175, 3) := by decide +kernel
theorem dX11_by_6 : decode cX11_by 6 = .ok (.ifCond .eq 12, 3) := by decide +kernel
theorem dX11_by_18 : decode cX11_by 18 = .ok (.ldc2_w 210, 3) := by decide +kernel
theorem dX11_by_21 : decode cX11_by 21 = .ok (.lreturn, 1) := by decide +kernel
theorem dX11_by_9 : decode cX11_by 9 = .ok (.aload_n 0, 1) := by decide +kernel
theorem dX11_by_10 : decode cX11_by 10 = .ok (.iload_n 1, 1) := by decide +kernel
theorem dX11_by_11 : decode cX11_by 11 = .ok (.iload_n 3, 1) := by decide +kernel
theorem dX11_by_12 : decode cX11_by 12 = .ok (.invokevirtual 228, 3) := by decide +kernel
theorem wm_1216 : (Jvm.Cond.methodLink "GrownKinds" (228 : Nat) ({ cls := "GrownKinds", name := "termed", desc := "(II)Z" } : Jvm.MethodName)) ∈ gT := gT_in (List.mem_of_getElem? (i := 1216) (by decide +kernel)) (by decide +kernel)
theorem wm_1218 : (Jvm.Cond.instanceMethod ({ cls := "GrownKinds", name := "termed", desc := "(II)Z" } : Jvm.MethodName)) ∈ gT := gT_in (List.mem_of_getElem? (i := 1218) (by decide +kernel)) (by decide +kernel)
theorem wm_53 : Cond.selects "GrownKinds" ⟨"GrownKinds", "termed", "(II)Z"⟩ ⟨"GrownKinds", "termed", "(II)Z"⟩ ∈ gT := gT_in (List.mem_of_getElem? (i := 53) (by decide +kernel)) (by decide +kernel)
theorem wm_1219 : (Jvm.Cond.code ({ cls := "GrownKinds", name := "termed", desc := "(II)Z" } : Jvm.MethodName) prog_1_method_11_code (3 : Nat) (Option.some Jvm.ClassFile.FieldType.boolean)) ∈ gT := gT_in (List.mem_of_getElem? (i := 1219) (by decide +kernel)) (by decide +kernel)
theorem dX11_by_15 : decode cX11_by 15 = .ok (.ifCond .ne 7, 3) := by decide +kernel
theorem dX11_by_22 : decode cX11_by 22 = .ok (.ldc2_w 219, 3) := by decide +kernel
theorem dX11_by_25 : decode cX11_by 25 = .ok (.aload_n 0, 1) := by decide +kernel
theorem dX11_by_26 : decode cX11_by 26 = .ok (.getfield 51, 3) := by decide +kernel
theorem dX11_by_29 : decode cX11_by 29 = .ok (.iload_n 1, 1) := by decide +kernel
theorem dX11_by_30 : decode cX11_by 30 = .ok (.iload_n 3, 1) := by decide +kernel
theorem dX11_by_31 : decode cX11_by 31 = .ok (.iload_n 2, 1) := by decide +kernel
theorem dX11_by_32 : decode cX11_by 32 = .ok (.invokevirtual 231, 3) := by decide +kernel
theorem wm_1220 : (Jvm.Cond.methodLink "GrownKinds" (231 : Nat) ({ cls := "GrownKinds$Census", name := "byTerm", desc := "(III)J" } : Jvm.MethodName)) ∈ gT := gT_in (List.mem_of_getElem? (i := 1220) (by decide +kernel)) (by decide +kernel)
theorem wm_1221 : (Jvm.Cond.instanceMethod ({ cls := "GrownKinds$Census", name := "byTerm", desc := "(III)J" } : Jvm.MethodName)) ∈ gT := gT_in (List.mem_of_getElem? (i := 1221) (by decide +kernel)) (by decide +kernel)
theorem wm_1222 : (Jvm.Cond.selects "GrownKinds$Census" ({ cls := "GrownKinds$Census", name := "byTerm", desc := "(III)J" } : Jvm.MethodName) ({ cls := "GrownKinds$Census", name := "byTerm", desc := "(III)J" } : Jvm.MethodName)) ∈ gT := gT_in (List.mem_of_getElem? (i := 1222) (by decide +kernel)) (by decide +kernel)
theorem wm_1223 : (Jvm.Cond.code ({ cls := "GrownKinds$Census", name := "byTerm", desc := "(III)J" } : Jvm.MethodName) prog_2_method_7_code (4 : Nat) (Option.some Jvm.ClassFile.FieldType.long)) ∈ gT := gT_in (List.mem_of_getElem? (i := 1223) (by decide +kernel)) (by decide +kernel)
theorem dX0_byTerm_0 : decode cX0_byTerm 0 = .ok (.aload_n 0, 1) := by decide +kernel
theorem dX0_byTerm_1 : decode cX0_byTerm 1 = .ok (.getfield 31, 3) := by decide +kernel
theorem dX0_byTerm_4 : decode cX0_byTerm 4 = .ok (.iload_n 1, 1) := by decide +kernel
theorem dX0_byTerm_5 : decode cX0_byTerm 5 = .ok (.iload_n 2, 1) := by decide +kernel
theorem dX0_byTerm_6 : decode cX0_byTerm 6 = .ok (.invokevirtual 72, 3) := by decide +kernel
theorem dX0_byTerm_9 : decode cX0_byTerm 9 = .ok (.ifCond .eq 7, 3) := by decide +kernel
theorem dX0_byTerm_16 : decode cX0_byTerm 16 = .ok (.aload_n 0, 1) := by decide +kernel
theorem dX0_byTerm_17 : decode cX0_byTerm 17 = .ok (.aload_n 0, 1) := by decide +kernel
theorem dX0_byTerm_18 : decode cX0_byTerm 18 = .ok (.getfield 31, 3) := by decide +kernel
theorem dX0_byTerm_21 : decode cX0_byTerm 21 = .ok (.iload_n 1, 1) := by decide +kernel
theorem dX0_byTerm_22 : decode cX0_byTerm 22 = .ok (.iload_n 2, 1) := by decide +kernel
theorem dX0_byTerm_23 : decode cX0_byTerm 23 = .ok (.invokevirtual 76, 3) := by decide +kernel
theorem dX0_byTerm_26 : decode cX0_byTerm 26 = .ok (.iload_n 3, 1) := by decide +kernel
theorem dX0_byTerm_27 : decode cX0_byTerm 27 = .ok (.invokevirtual 80, 3) := by decide +kernel
theorem wm_1224 : (Jvm.Cond.methodLink "GrownKinds$Census" (80 : Nat) ({ cls := "GrownKinds$Census", name := "from", desc := "(II)J" } : Jvm.MethodName)) ∈ gT := gT_in (List.mem_of_getElem? (i := 1224) (by decide +kernel)) (by decide +kernel)
theorem wm_1225 : (Jvm.Cond.instanceMethod ({ cls := "GrownKinds$Census", name := "from", desc := "(II)J" } : Jvm.MethodName)) ∈ gT := gT_in (List.mem_of_getElem? (i := 1225) (by decide +kernel)) (by decide +kernel)
theorem wm_1226 : (Jvm.Cond.selects "GrownKinds$Census" ({ cls := "GrownKinds$Census", name := "from", desc := "(II)J" } : Jvm.MethodName) ({ cls := "GrownKinds$Census", name := "from", desc := "(II)J" } : Jvm.MethodName)) ∈ gT := gT_in (List.mem_of_getElem? (i := 1226) (by decide +kernel)) (by decide +kernel)
theorem wm_1227 : (Jvm.Cond.code ({ cls := "GrownKinds$Census", name := "from", desc := "(II)J" } : Jvm.MethodName) prog_2_method_6_code (3 : Nat) (Option.some Jvm.ClassFile.FieldType.long)) ∈ gT := gT_in (List.mem_of_getElem? (i := 1227) (by decide +kernel)) (by decide +kernel)
theorem dX0_from_0 : decode cX0_from 0 = .ok (.iload_n 1, 1) := by decide +kernel
theorem dX0_from_1 : decode cX0_from 1 = .ok (.iconst (-1), 1) := by decide +kernel
theorem dX0_from_2 : decode cX0_from 2 = .ok (.if_icmp .ne 13, 3) := by decide +kernel
theorem dX0_from_15 : decode cX0_from 15 = .ok (.aload_n 0, 1) := by decide +kernel
theorem dX0_from_16 : decode cX0_from 16 = .ok (.getfield 19, 3) := by decide +kernel
theorem dX0_from_19 : decode cX0_from 19 = .ok (.iload_n 1, 1) := by decide +kernel
theorem dX0_from_20 : decode cX0_from 20 = .ok (.bipush 64, 2) := by decide +kernel
theorem dX0_from_22 : decode cX0_from 22 = .ok (.imul, 1) := by decide +kernel
theorem dX0_from_23 : decode cX0_from 23 = .ok (.iload_n 2, 1) := by decide +kernel
theorem dX0_from_24 : decode cX0_from 24 = .ok (.bipush 8, 2) := by decide +kernel
theorem dX0_from_26 : decode cX0_from 26 = .ok (.imul, 1) := by decide +kernel
theorem dX0_from_27 : decode cX0_from 27 = .ok (.iadd, 1) := by decide +kernel
theorem dX0_from_28 : decode cX0_from 28 = .ok (.laload, 1) := by decide +kernel
theorem dX0_from_29 : decode cX0_from 29 = .ok (.lreturn, 1) := by decide +kernel
theorem dX0_from_5 : decode cX0_from 5 = .ok (.iload_n 2, 1) := by decide +kernel
theorem dX0_from_6 : decode cX0_from 6 = .ok (.ifCond .ne 7, 3) := by decide +kernel
theorem dX0_from_13 : decode cX0_from 13 = .ok (.lconst 0, 1) := by decide +kernel
theorem dX0_from_14 : decode cX0_from 14 = .ok (.lreturn, 1) := by decide +kernel
theorem dX0_from_9 : decode cX0_from 9 = .ok (.lconst 1, 1) := by decide +kernel
theorem dX0_from_10 : decode cX0_from 10 = .ok (.goto 4, 3) := by decide +kernel
theorem dX0_byTerm_30 : decode cX0_byTerm 30 = .ok (.lreturn, 1) := by decide +kernel
theorem dX0_byTerm_12 : decode cX0_byTerm 12 = .ok (.lconst 0, 1) := by decide +kernel
theorem dX0_byTerm_13 : decode cX0_byTerm 13 = .ok (.goto 17, 3) := by decide +kernel
theorem dX11_by_35 : decode cX11_by 35 = .ok (.invokestatic 234, 3) := by decide +kernel
theorem wm_1228 : (Jvm.Cond.methodLink "GrownKinds" (234 : Nat) ({ cls := "java/lang/Math", name := "min", desc := "(JJ)J" } : Jvm.MethodName)) ∈ gT := gT_in (List.mem_of_getElem? (i := 1228) (by decide +kernel)) (by decide +kernel)
theorem dX11_by_38 : decode cX11_by 38 = .ok (.lreturn, 1) := by decide +kernel
theorem dX11_idle_0 : decode cX11_idle 0 = .ok (.aload_n 0, 1) := by decide +kernel
theorem dX11_idle_1 : decode cX11_idle 1 = .ok (.getfield 20, 3) := by decide +kernel
theorem dX11_idle_4 : decode cX11_idle 4 = .ok (.getfield 165, 3) := by decide +kernel
theorem dX11_idle_7 : decode cX11_idle 7 = .ok (.ifCond .ne 6, 3) := by decide +kernel
theorem dX11_idle_13 : decode cX11_idle 13 = .ok (.iconst 0, 1) := by decide +kernel
theorem dX11_idle_14 : decode cX11_idle 14 = .ok (.istore_n 1, 1) := by decide +kernel
theorem dX11_idle_15 : decode cX11_idle 15 = .ok (.iconst 0, 1) := by decide +kernel
theorem dX11_idle_16 : decode cX11_idle 16 = .ok (.istore_n 2, 1) := by decide +kernel
theorem dX11_idle_17 : decode cX11_idle 17 = .ok (.iload_n 2, 1) := by decide +kernel
theorem dX11_idle_18 : decode cX11_idle 18 = .ok (.aload_n 0, 1) := by decide +kernel
theorem dX11_idle_19 : decode cX11_idle 19 = .ok (.getfield 20, 3) := by decide +kernel
theorem dX11_idle_22 : decode cX11_idle 22 = .ok (.getfield 156, 3) := by decide +kernel
theorem dX11_idle_25 : decode cX11_idle 25 = .ok (.if_icmp .ge 57, 3) := by decide +kernel
theorem dX11_idle_28 : decode cX11_idle 28 = .ok (.iconst 0, 1) := by decide +kernel
theorem dX11_idle_29 : decode cX11_idle 29 = .ok (.istore_n 3, 1) := by decide +kernel
theorem dX11_idle_30 : decode cX11_idle 30 = .ok (.iload_n 3, 1) := by decide +kernel
theorem dX11_idle_31 : decode cX11_idle 31 = .ok (.aload_n 0, 1) := by decide +kernel
theorem dX11_idle_32 : decode cX11_idle 32 = .ok (.getfield 20, 3) := by decide +kernel
theorem dX11_idle_35 : decode cX11_idle 35 = .ok (.getfield 172, 3) := by decide +kernel
theorem dX11_idle_38 : decode cX11_idle 38 = .ok (.iload_n 2, 1) := by decide +kernel
theorem dX11_idle_39 : decode cX11_idle 39 = .ok (.iaload, 1) := by decide +kernel
theorem dX11_idle_40 : decode cX11_idle 40 = .ok (.if_icmp .ge 36, 3) := by decide +kernel
theorem dX11_idle_43 : decode cX11_idle 43 = .ok (.aload_n 0, 1) := by decide +kernel
theorem dX11_idle_44 : decode cX11_idle 44 = .ok (.getfield 20, 3) := by decide +kernel
theorem dX11_idle_47 : decode cX11_idle 47 = .ok (.iload_n 2, 1) := by decide +kernel
theorem dX11_idle_48 : decode cX11_idle 48 = .ok (.iload_n 3, 1) := by decide +kernel
theorem dX11_idle_49 : decode cX11_idle 49 = .ok (.invokevirtual 243, 3) := by decide +kernel
theorem wm_1246 : (Jvm.Cond.methodLink "GrownKinds" (243 : Nat) ({ cls := "GrownKinds$Grammar", name := "isOff", desc := "(II)Z" } : Jvm.MethodName)) ∈ gT := gT_in (List.mem_of_getElem? (i := 1246) (by decide +kernel)) (by decide +kernel)
theorem dX11_idle_52 : decode cX11_idle 52 = .ok (.ifCond .ne 18, 3) := by decide +kernel
theorem dX11_idle_70 : decode cX11_idle 70 = .ok (.iinc 3 1, 3) := by decide +kernel
theorem dX11_idle_73 : decode cX11_idle 73 = .ok (.goto (-43), 3) := by decide +kernel
theorem dX11_idle_55 : decode cX11_idle 55 = .ok (.aload_n 0, 1) := by decide +kernel
theorem dX11_idle_56 : decode cX11_idle 56 = .ok (.getfield 51, 3) := by decide +kernel
theorem dX11_idle_59 : decode cX11_idle 59 = .ok (.iload_n 2, 1) := by decide +kernel
theorem dX11_idle_60 : decode cX11_idle 60 = .ok (.iload_n 3, 1) := by decide +kernel
theorem dX11_idle_61 : decode cX11_idle 61 = .ok (.invokevirtual 246, 3) := by decide +kernel
theorem wm_1251 : (Jvm.Cond.methodLink "GrownKinds" (246 : Nat) ({ cls := "GrownKinds$Census", name := "everBy", desc := "(II)Z" } : Jvm.MethodName)) ∈ gT := gT_in (List.mem_of_getElem? (i := 1251) (by decide +kernel)) (by decide +kernel)
theorem wm_1252 : (Jvm.Cond.instanceMethod ({ cls := "GrownKinds$Census", name := "everBy", desc := "(II)Z" } : Jvm.MethodName)) ∈ gT := gT_in (List.mem_of_getElem? (i := 1252) (by decide +kernel)) (by decide +kernel)
theorem wm_1253 : (Jvm.Cond.selects "GrownKinds$Census" ({ cls := "GrownKinds$Census", name := "everBy", desc := "(II)Z" } : Jvm.MethodName) ({ cls := "GrownKinds$Census", name := "everBy", desc := "(II)Z" } : Jvm.MethodName)) ∈ gT := gT_in (List.mem_of_getElem? (i := 1253) (by decide +kernel)) (by decide +kernel)
theorem wm_1254 : (Jvm.Cond.code ({ cls := "GrownKinds$Census", name := "everBy", desc := "(II)Z" } : Jvm.MethodName) prog_2_method_8_code (4 : Nat) (Option.some Jvm.ClassFile.FieldType.boolean)) ∈ gT := gT_in (List.mem_of_getElem? (i := 1254) (by decide +kernel)) (by decide +kernel)
theorem dX0_everBy_0 : decode cX0_everBy 0 = .ok (.iconst 0, 1) := by decide +kernel
theorem dX0_everBy_1 : decode cX0_everBy 1 = .ok (.istore_n 3, 1) := by decide +kernel
theorem dX0_everBy_2 : decode cX0_everBy 2 = .ok (.iload_n 3, 1) := by decide +kernel
theorem dX0_everBy_3 : decode cX0_everBy 3 = .ok (.aload_n 0, 1) := by decide +kernel
theorem dX0_everBy_4 : decode cX0_everBy 4 = .ok (.getfield 31, 3) := by decide +kernel
theorem dX0_everBy_7 : decode cX0_everBy 7 = .ok (.getfield 43, 3) := by decide +kernel
theorem dX0_everBy_10 : decode cX0_everBy 10 = .ok (.if_icmp .gt 23, 3) := by decide +kernel
theorem dX0_everBy_13 : decode cX0_everBy 13 = .ok (.aload_n 0, 1) := by decide +kernel
theorem dX0_everBy_14 : decode cX0_everBy 14 = .ok (.iload_n 1, 1) := by decide +kernel
theorem dX0_everBy_15 : decode cX0_everBy 15 = .ok (.iload_n 2, 1) := by decide +kernel
theorem dX0_everBy_16 : decode cX0_everBy 16 = .ok (.iload_n 3, 1) := by decide +kernel
theorem dX0_everBy_17 : decode cX0_everBy 17 = .ok (.invokevirtual 84, 3) := by decide +kernel
theorem wm_1255 : (Jvm.Cond.methodLink "GrownKinds$Census" (84 : Nat) ({ cls := "GrownKinds$Census", name := "byTerm", desc := "(III)J" } : Jvm.MethodName)) ∈ gT := gT_in (List.mem_of_getElem? (i := 1255) (by decide +kernel)) (by decide +kernel)
theorem dX0_everBy_20 : decode cX0_everBy 20 = .ok (.lconst 0, 1) := by decide +kernel
theorem dX0_everBy_21 : decode cX0_everBy 21 = .ok (.lcmp, 1) := by decide +kernel
theorem dX0_everBy_22 : decode cX0_everBy 22 = .ok (.ifCond .le 5, 3) := by decide +kernel
theorem dX0_everBy_27 : decode cX0_everBy 27 = .ok (.iinc 3 1, 3) := by decide +kernel
theorem dX0_everBy_30 : decode cX0_everBy 30 = .ok (.goto (-28), 3) := by decide +kernel
theorem dX0_everBy_25 : decode cX0_everBy 25 = .ok (.iconst 1, 1) := by decide +kernel
theorem dX0_everBy_26 : decode cX0_everBy 26 = .ok (.ireturn, 1) := by decide +kernel
theorem dX0_everBy_33 : decode cX0_everBy 33 = .ok (.iconst 0, 1) := by decide +kernel
theorem dX0_everBy_34 : decode cX0_everBy 34 = .ok (.ireturn, 1) := by decide +kernel
theorem dX11_idle_64 : decode cX11_idle 64 = .ok (.ifCond .ne 6, 3) := by decide +kernel
theorem dX11_idle_67 : decode cX11_idle 67 = .ok (.iinc 1 1, 3) := by decide +kernel
theorem dX11_idle_76 : decode cX11_idle 76 = .ok (.iinc 2 1, 3) := by decide +kernel
theorem dX11_idle_79 : decode cX11_idle 79 = .ok (.goto (-62), 3) := by decide +kernel
theorem dX11_idle_82 : decode cX11_idle 82 = .ok (.iload_n 1, 1) := by decide +kernel
theorem dX11_idle_83 : decode cX11_idle 83 = .ok (.ireturn, 1) := by decide +kernel
theorem dX11_idle_10 : decode cX11_idle 10 = .ok (.bipush (-2), 2) := by decide +kernel
theorem dX11_idle_12 : decode cX11_idle 12 = .ok (.ireturn, 1) := by decide +kernel
theorem dX11_bits_0 : decode cX11_bits 0 = .ok (.aload_n 0, 1) := by decide +kernel
theorem dX11_bits_1 : decode cX11_bits 1 = .ok (.iload_n 1, 1) := by decide +kernel
theorem dX11_bits_2 : decode cX11_bits 2 = .ok (.iload_n 2, 1) := by decide +kernel
theorem dX11_bits_3 : decode cX11_bits 3 = .ok (.iload_n 3, 1) := by decide +kernel
theorem dX11_bits_4 : decode cX11_bits 4 = .ok (.invokevirtual 332, 3) := by decide +kernel
theorem dX11_bits_7 : decode cX11_bits 7 = .ok (.ifCond .ne 6, 3) := by decide +kernel
theorem dX11_bits_13 : decode cX11_bits 13 = .ok (.aload_n 0, 1) := by decide +kernel
theorem dX11_bits_14 : decode cX11_bits 14 = .ok (.getfield 51, 3) := by decide +kernel
theorem dX11_bits_17 : decode cX11_bits 17 = .ok (.iload_n 1, 1) := by decide +kernel
theorem dX11_bits_18 : decode cX11_bits 18 = .ok (.iload_n 2, 1) := by decide +kernel
theorem dX11_bits_19 : decode cX11_bits 19 = .ok (.iload_n 3, 1) := by decide +kernel
theorem dX11_bits_20 : decode cX11_bits 20 = .ok (.invokevirtual 336, 3) := by decide +kernel
theorem dX11_bits_23 : decode cX11_bits 23 = .ok (.lstore 4, 2) := by decide +kernel
theorem dX11_bits_25 : decode cX11_bits 25 = .ok (.lload 4, 2) := by decide +kernel
theorem dX11_bits_27 : decode cX11_bits 27 = .ok (.ldc2_w 339, 3) := by decide +kernel
theorem wm_1589 : (Jvm.Cond.constantLong "GrownKinds" (339 : Nat) (1000000 : Int64)) ∈ gT := gT_in (List.mem_of_getElem? (i := 1589) (by decide +kernel)) (by decide +kernel)
theorem dX11_bits_30 : decode cX11_bits 30 = .ok (.lcmp, 1) := by decide +kernel
theorem dX11_bits_31 : decode cX11_bits 31 = .ok (.ifCond .le 6, 3) := by decide +kernel
theorem dX11_bits_37 : decode cX11_bits 37 = .ok (.lload 4, 2) := by decide +kernel
theorem dX11_bits_39 : decode cX11_bits 39 = .ok (.lconst 0, 1) := by decide +kernel
theorem dX11_bits_40 : decode cX11_bits 40 = .ok (.lcmp, 1) := by decide +kernel
theorem dX11_bits_41 : decode cX11_bits 41 = .ok (.ifCond .ne 7, 3) := by decide +kernel
theorem dX11_bits_48 : decode cX11_bits 48 = .ok (.lload 4, 2) := by decide +kernel
theorem dX11_bits_50 : decode cX11_bits 50 = .ok (.invokestatic 341, 3) := by decide +kernel
theorem wm_1590 : (Jvm.Cond.methodLink "GrownKinds" (341 : Nat) ({ cls := "GrownKinds$Dealer", name := "bitsFor", desc := "(J)I" } : Jvm.MethodName)) ∈ gT := gT_in (List.mem_of_getElem? (i := 1590) (by decide +kernel)) (by decide +kernel)
theorem wm_1591 : (Jvm.Cond.static ({ cls := "GrownKinds$Dealer", name := "bitsFor", desc := "(J)I" } : Jvm.MethodName)) ∈ gT := gT_in (List.mem_of_getElem? (i := 1591) (by decide +kernel)) (by decide +kernel)
theorem wm_1592 : (Jvm.Cond.code ({ cls := "GrownKinds$Dealer", name := "bitsFor", desc := "(J)I" } : Jvm.MethodName) prog_3_method_2_code (3 : Nat) (Option.some Jvm.ClassFile.FieldType.int)) ∈ gT := gT_in (List.mem_of_getElem? (i := 1592) (by decide +kernel)) (by decide +kernel)
theorem dX1_bitsFor_0 : decode cX1_bitsFor 0 = .ok (.iconst 0, 1) := by decide +kernel
theorem dX1_bitsFor_1 : decode cX1_bitsFor 1 = .ok (.istore_n 2, 1) := by decide +kernel
theorem dX1_bitsFor_2 : decode cX1_bitsFor 2 = .ok (.iload_n 2, 1) := by decide +kernel
theorem dX1_bitsFor_3 : decode cX1_bitsFor 3 = .ok (.bipush 30, 2) := by decide +kernel
theorem dX1_bitsFor_5 : decode cX1_bitsFor 5 = .ok (.if_icmp .ge 17, 3) := by decide +kernel
theorem dX1_bitsFor_8 : decode cX1_bitsFor 8 = .ok (.lconst 1, 1) := by decide +kernel
theorem dX1_bitsFor_9 : decode cX1_bitsFor 9 = .ok (.iload_n 2, 1) := by decide +kernel
theorem dX1_bitsFor_10 : decode cX1_bitsFor 10 = .ok (.lshl, 1) := by decide +kernel
theorem dX1_bitsFor_11 : decode cX1_bitsFor 11 = .ok (.lload_n 0, 1) := by decide +kernel
theorem dX1_bitsFor_12 : decode cX1_bitsFor 12 = .ok (.lcmp, 1) := by decide +kernel
theorem dX1_bitsFor_13 : decode cX1_bitsFor 13 = .ok (.ifCond .ge 9, 3) := by decide +kernel
theorem dX1_bitsFor_16 : decode cX1_bitsFor 16 = .ok (.iinc 2 1, 3) := by decide +kernel
theorem dX1_bitsFor_19 : decode cX1_bitsFor 19 = .ok (.goto (-17), 3) := by decide +kernel
theorem dX1_bitsFor_22 : decode cX1_bitsFor 22 = .ok (.iload_n 2, 1) := by decide +kernel
theorem dX1_bitsFor_23 : decode cX1_bitsFor 23 = .ok (.ireturn, 1) := by decide +kernel
theorem dX11_bits_53 : decode cX11_bits 53 = .ok (.ireturn, 1) := by decide +kernel
theorem dX11_bits_44 : decode cX11_bits 44 = .ok (.iconst (-1), 1) := by decide +kernel
theorem dX11_bits_45 : decode cX11_bits 45 = .ok (.goto 8, 3) := by decide +kernel
theorem dX11_bits_34 : decode cX11_bits 34 = .ok (.bipush (-3), 2) := by decide +kernel
theorem dX11_bits_36 : decode cX11_bits 36 = .ok (.ireturn, 1) := by decide +kernel
theorem dX11_bits_10 : decode cX11_bits 10 = .ok (.bipush (-2), 2) := by decide +kernel
theorem dX11_bits_12 : decode cX11_bits 12 = .ok (.ireturn, 1) := by decide +kernel
theorem dX11_drawn_0 : decode cX11_drawn 0 = .ok (.aload_n 0, 1) := by decide +kernel
theorem dX11_drawn_1 : decode cX11_drawn 1 = .ok (.iload_n 1, 1) := by decide +kernel
theorem dX11_drawn_2 : decode cX11_drawn 2 = .ok (.iload_n 2, 1) := by decide +kernel
theorem dX11_drawn_3 : decode cX11_drawn 3 = .ok (.iload_n 3, 1) := by decide +kernel
theorem dX11_drawn_4 : decode cX11_drawn 4 = .ok (.invokevirtual 332, 3) := by decide +kernel
theorem dX11_drawn_7 : decode cX11_drawn 7 = .ok (.ifCond .eq 27, 3) := by decide +kernel
theorem dX11_drawn_34 : decode cX11_drawn 34 = .ok (.bipush (-2), 2) := by decide +kernel
theorem dX11_drawn_36 : decode cX11_drawn 36 = .ok (.ireturn, 1) := by decide +kernel
theorem dX11_drawn_10 : decode cX11_drawn 10 = .ok (.iload 4, 2) := by decide +kernel
theorem dX11_drawn_12 : decode cX11_drawn 12 = .ok (.ifCond .lt 22, 3) := by decide +kernel
theorem dX11_drawn_15 : decode cX11_drawn 15 = .ok (.iload 4, 2) := by decide +kernel
theorem dX11_drawn_17 : decode cX11_drawn 17 = .ok (.ldc_w 345, 3) := by decide +kernel
theorem wm_1597 : (Jvm.Cond.constant "GrownKinds" (345 : Nat) (1073741823 : Int32)) ∈ gT := gT_in (List.mem_of_getElem? (i := 1597) (by decide +kernel)) (by decide +kernel)
theorem dX11_drawn_20 : decode cX11_drawn 20 = .ok (.if_icmp .gt 14, 3) := by decide +kernel
theorem dX11_drawn_23 : decode cX11_drawn 23 = .ok (.iload 5, 2) := by decide +kernel
theorem dX11_drawn_25 : decode cX11_drawn 25 = .ok (.ifCond .lt 9, 3) := by decide +kernel
theorem dX11_drawn_28 : decode cX11_drawn 28 = .ok (.iload 5, 2) := by decide +kernel
theorem dX11_drawn_30 : decode cX11_drawn 30 = .ok (.iconst 1, 1) := by decide +kernel
theorem dX11_drawn_31 : decode cX11_drawn 31 = .ok (.if_icmp .le 6, 3) := by decide +kernel
theorem dX11_drawn_37 : decode cX11_drawn 37 = .ok (.aload_n 0, 1) := by decide +kernel
theorem dX11_drawn_38 : decode cX11_drawn 38 = .ok (.getfield 51, 3) := by decide +kernel
theorem dX11_drawn_41 : decode cX11_drawn 41 = .ok (.iload_n 1, 1) := by decide +kernel
theorem dX11_drawn_42 : decode cX11_drawn 42 = .ok (.iload_n 2, 1) := by decide +kernel
theorem dX11_drawn_43 : decode cX11_drawn 43 = .ok (.iload_n 3, 1) := by decide +kernel
theorem dX11_drawn_44 : decode cX11_drawn 44 = .ok (.invokevirtual 336, 3) := by decide +kernel
theorem dX11_drawn_47 : decode cX11_drawn 47 = .ok (.lstore 6, 2) := by decide +kernel
theorem dX11_drawn_49 : decode cX11_drawn 49 = .ok (.lload 6, 2) := by decide +kernel
theorem dX11_drawn_51 : decode cX11_drawn 51 = .ok (.ldc2_w 339, 3) := by decide +kernel
theorem dX11_drawn_54 : decode cX11_drawn 54 = .ok (.lcmp, 1) := by decide +kernel
theorem dX11_drawn_55 : decode cX11_drawn 55 = .ok (.ifCond .le 6, 3) := by decide +kernel
theorem dX11_drawn_61 : decode cX11_drawn 61 = .ok (.lload 6, 2) := by decide +kernel
theorem dX11_drawn_63 : decode cX11_drawn 63 = .ok (.lconst 0, 1) := by decide +kernel
theorem dX11_drawn_64 : decode cX11_drawn 64 = .ok (.lcmp, 1) := by decide +kernel
theorem dX11_drawn_65 : decode cX11_drawn 65 = .ok (.ifCond .ne 7, 3) := by decide +kernel
theorem dX11_drawn_72 : decode cX11_drawn 72 = .ok (.lload 6, 2) := by decide +kernel
theorem dX11_drawn_74 : decode cX11_drawn 74 = .ok (.l2i, 1) := by decide +kernel
theorem dX11_drawn_75 : decode cX11_drawn 75 = .ok (.iload 4, 2) := by decide +kernel
theorem dX11_drawn_77 : decode cX11_drawn 77 = .ok (.invokestatic 346, 3) := by decide +kernel
theorem wm_1598 : (Jvm.Cond.methodLink "GrownKinds" (346 : Nat) ({ cls := "GrownKinds$Dealer", name := "draw", desc := "(II)I" } : Jvm.MethodName)) ∈ gT := gT_in (List.mem_of_getElem? (i := 1598) (by decide +kernel)) (by decide +kernel)
theorem wm_1599 : (Jvm.Cond.static ({ cls := "GrownKinds$Dealer", name := "draw", desc := "(II)I" } : Jvm.MethodName)) ∈ gT := gT_in (List.mem_of_getElem? (i := 1599) (by decide +kernel)) (by decide +kernel)
theorem wm_1600 : (Jvm.Cond.code ({ cls := "GrownKinds$Dealer", name := "draw", desc := "(II)I" } : Jvm.MethodName) prog_3_method_3_code (5 : Nat) (Option.some Jvm.ClassFile.FieldType.int)) ∈ gT := gT_in (List.mem_of_getElem? (i := 1600) (by decide +kernel)) (by decide +kernel)
theorem dX1_draw_0 : decode cX1_draw 0 = .ok (.iload_n 0, 1) := by decide +kernel
theorem dX1_draw_1 : decode cX1_draw 1 = .ok (.i2l, 1) := by decide +kernel
theorem dX1_draw_2 : decode cX1_draw 2 = .ok (.invokestatic 34, 3) := by decide +kernel
theorem wm_1601 : (Jvm.Cond.methodLink "GrownKinds$Dealer" (34 : Nat) ({ cls := "GrownKinds$Dealer", name := "bitsFor", desc := "(J)I" } : Jvm.MethodName)) ∈ gT := gT_in (List.mem_of_getElem? (i := 1601) (by decide +kernel)) (by decide +kernel)
theorem dX1_draw_5 : decode cX1_draw 5 = .ok (.istore_n 2, 1) := by decide +kernel
theorem dX1_draw_6 : decode cX1_draw 6 = .ok (.iload_n 2, 1) := by decide +kernel
theorem dX1_draw_7 : decode cX1_draw 7 = .ok (.ifCond .ne 5, 3) := by decide +kernel
theorem dX1_draw_12 : decode cX1_draw 12 = .ok (.iconst 0, 1) := by decide +kernel
theorem dX1_draw_13 : decode cX1_draw 13 = .ok (.istore_n 3, 1) := by decide +kernel
theorem dX1_draw_14 : decode cX1_draw 14 = .ok (.iload_n 3, 1) := by decide +kernel
theorem dX1_draw_15 : decode cX1_draw 15 = .ok (.bipush 30, 2) := by decide +kernel
theorem dX1_draw_17 : decode cX1_draw 17 = .ok (.iload_n 2, 1) := by decide +kernel
theorem dX1_draw_18 : decode cX1_draw 18 = .ok (.idiv, 1) := by decide +kernel
theorem dX1_draw_19 : decode cX1_draw 19 = .ok (.if_icmp .ge 31, 3) := by decide +kernel
theorem dX1_draw_22 : decode cX1_draw 22 = .ok (.iload_n 1, 1) := by decide +kernel
theorem dX1_draw_23 : decode cX1_draw 23 = .ok (.iload_n 3, 1) := by decide +kernel
theorem dX1_draw_24 : decode cX1_draw 24 = .ok (.iload_n 2, 1) := by decide +kernel
theorem dX1_draw_25 : decode cX1_draw 25 = .ok (.imul, 1) := by decide +kernel
theorem dX1_draw_26 : decode cX1_draw 26 = .ok (.ishr, 1) := by decide +kernel
theorem dX1_draw_27 : decode cX1_draw 27 = .ok (.iconst 1, 1) := by decide +kernel
theorem dX1_draw_28 : decode cX1_draw 28 = .ok (.iload_n 2, 1) := by decide +kernel
theorem dX1_draw_29 : decode cX1_draw 29 = .ok (.ishl, 1) := by decide +kernel
theorem dX1_draw_30 : decode cX1_draw 30 = .ok (.iconst 1, 1) := by decide +kernel
theorem dX1_draw_31 : decode cX1_draw 31 = .ok (.isub, 1) := by decide +kernel
theorem dX1_draw_32 : decode cX1_draw 32 = .ok (.iand, 1) := by decide +kernel
theorem dX1_draw_33 : decode cX1_draw 33 = .ok (.istore 4, 2) := by decide +kernel
theorem dX1_draw_35 : decode cX1_draw 35 = .ok (.iload 4, 2) := by decide +kernel
theorem dX1_draw_37 : decode cX1_draw 37 = .ok (.iload_n 0, 1) := by decide +kernel
theorem dX1_draw_38 : decode cX1_draw 38 = .ok (.if_icmp .ge 6, 3) := by decide +kernel
theorem dX1_draw_44 : decode cX1_draw 44 = .ok (.iinc 3 1, 3) := by decide +kernel
theorem dX1_draw_47 : decode cX1_draw 47 = .ok (.goto (-33), 3) := by decide +kernel
theorem dX1_draw_41 : decode cX1_draw 41 = .ok (.iload 4, 2) := by decide +kernel
theorem dX1_draw_43 : decode cX1_draw 43 = .ok (.ireturn, 1) := by decide +kernel
theorem dX1_draw_50 : decode cX1_draw 50 = .ok (.iconst (-1), 1) := by decide +kernel
theorem dX1_draw_51 : decode cX1_draw 51 = .ok (.ireturn, 1) := by decide +kernel
theorem dX1_draw_10 : decode cX1_draw 10 = .ok (.iconst 0, 1) := by decide +kernel
theorem dX1_draw_11 : decode cX1_draw 11 = .ok (.ireturn, 1) := by decide +kernel
theorem dX11_drawn_68 : decode cX11_drawn 68 = .ok (.iconst (-1), 1) := by decide +kernel
theorem dX11_drawn_69 : decode cX11_drawn 69 = .ok (.goto 11, 3) := by decide +kernel
theorem dX11_drawn_80 : decode cX11_drawn 80 = .ok (.istore 8, 2) := by decide +kernel
theorem dX11_drawn_82 : decode cX11_drawn 82 = .ok (.iload 8, 2) := by decide +kernel
theorem dX11_drawn_84 : decode cX11_drawn 84 = .ok (.iconst (-1), 1) := by decide +kernel
theorem dX11_drawn_85 : decode cX11_drawn 85 = .ok (.if_icmp .ne 5, 3) := by decide +kernel
theorem dX11_drawn_90 : decode cX11_drawn 90 = .ok (.aload_n 0, 1) := by decide +kernel
theorem dX11_drawn_91 : decode cX11_drawn 91 = .ok (.getfield 51, 3) := by decide +kernel
theorem dX11_drawn_94 : decode cX11_drawn 94 = .ok (.iload_n 1, 1) := by decide +kernel
theorem dX11_drawn_95 : decode cX11_drawn 95 = .ok (.iload_n 2, 1) := by decide +kernel
theorem dX11_drawn_96 : decode cX11_drawn 96 = .ok (.iload 8, 2) := by decide +kernel
theorem dX11_drawn_98 : decode cX11_drawn 98 = .ok (.invokevirtual 349, 3) := by decide +kernel
theorem wm_1602 : (Jvm.Cond.methodLink "GrownKinds" (349 : Nat) ({ cls := "GrownKinds$Census", name := "sizeAt", desc := "(III)I" } : Jvm.MethodName)) ∈ gT := gT_in (List.mem_of_getElem? (i := 1602) (by decide +kernel)) (by decide +kernel)
theorem wm_1603 : (Jvm.Cond.instanceMethod ({ cls := "GrownKinds$Census", name := "sizeAt", desc := "(III)I" } : Jvm.MethodName)) ∈ gT := gT_in (List.mem_of_getElem? (i := 1603) (by decide +kernel)) (by decide +kernel)
theorem wm_1604 : (Jvm.Cond.selects "GrownKinds$Census" ({ cls := "GrownKinds$Census", name := "sizeAt", desc := "(III)I" } : Jvm.MethodName) ({ cls := "GrownKinds$Census", name := "sizeAt", desc := "(III)I" } : Jvm.MethodName)) ∈ gT := gT_in (List.mem_of_getElem? (i := 1604) (by decide +kernel)) (by decide +kernel)
theorem wm_1605 : (Jvm.Cond.code ({ cls := "GrownKinds$Census", name := "sizeAt", desc := "(III)I" } : Jvm.MethodName) prog_2_method_10_code (7 : Nat) (Option.some Jvm.ClassFile.FieldType.int)) ∈ gT := gT_in (List.mem_of_getElem? (i := 1605) (by decide +kernel)) (by decide +kernel)
theorem dX0_sizeAt_0 : decode cX0_sizeAt 0 = .ok (.iload_n 3, 1) := by decide +kernel
theorem dX0_sizeAt_1 : decode cX0_sizeAt 1 = .ok (.i2l, 1) := by decide +kernel
theorem dX0_sizeAt_2 : decode cX0_sizeAt 2 = .ok (.lstore 4, 2) := by decide +kernel
theorem dX0_sizeAt_4 : decode cX0_sizeAt 4 = .ok (.iload_n 2, 1) := by decide +kernel
theorem dX0_sizeAt_5 : decode cX0_sizeAt 5 = .ok (.istore 6, 2) := by decide +kernel
theorem dX0_sizeAt_7 : decode cX0_sizeAt 7 = .ok (.iload 6, 2) := by decide +kernel
theorem dX0_sizeAt_9 : decode cX0_sizeAt 9 = .ok (.aload_n 0, 1) := by decide +kernel
theorem dX0_sizeAt_10 : decode cX0_sizeAt 10 = .ok (.getfield 31, 3) := by decide +kernel
theorem dX0_sizeAt_13 : decode cX0_sizeAt 13 = .ok (.getfield 43, 3) := by decide +kernel
theorem dX0_sizeAt_16 : decode cX0_sizeAt 16 = .ok (.if_icmp .ge 34, 3) := by decide +kernel
theorem dX0_sizeAt_19 : decode cX0_sizeAt 19 = .ok (.lload 4, 2) := by decide +kernel
theorem dX0_sizeAt_21 : decode cX0_sizeAt 21 = .ok (.aload_n 0, 1) := by decide +kernel
theorem dX0_sizeAt_22 : decode cX0_sizeAt 22 = .ok (.iload_n 1, 1) := by decide +kernel
theorem dX0_sizeAt_23 : decode cX0_sizeAt 23 = .ok (.iload 6, 2) := by decide +kernel
theorem dX0_sizeAt_25 : decode cX0_sizeAt 25 = .ok (.invokevirtual 88, 3) := by decide +kernel
theorem dX0_sizeAt_28 : decode cX0_sizeAt 28 = .ok (.lcmp, 1) := by decide +kernel
theorem dX0_sizeAt_29 : decode cX0_sizeAt 29 = .ok (.ifCond .lt 21, 3) := by decide +kernel
theorem dX0_sizeAt_32 : decode cX0_sizeAt 32 = .ok (.lload 4, 2) := by decide +kernel
theorem dX0_sizeAt_34 : decode cX0_sizeAt 34 = .ok (.aload_n 0, 1) := by decide +kernel
theorem dX0_sizeAt_35 : decode cX0_sizeAt 35 = .ok (.iload_n 1, 1) := by decide +kernel
theorem dX0_sizeAt_36 : decode cX0_sizeAt 36 = .ok (.iload 6, 2) := by decide +kernel
theorem dX0_sizeAt_38 : decode cX0_sizeAt 38 = .ok (.invokevirtual 88, 3) := by decide +kernel
theorem dX0_sizeAt_41 : decode cX0_sizeAt 41 = .ok (.lsub, 1) := by decide +kernel
theorem dX0_sizeAt_42 : decode cX0_sizeAt 42 = .ok (.lstore 4, 2) := by decide +kernel
theorem dX0_sizeAt_44 : decode cX0_sizeAt 44 = .ok (.iinc 6 1, 3) := by decide +kernel
theorem dX0_sizeAt_47 : decode cX0_sizeAt 47 = .ok (.goto (-40), 3) := by decide +kernel
theorem dX0_sizeAt_50 : decode cX0_sizeAt 50 = .ok (.iload 6, 2) := by decide +kernel
theorem dX0_sizeAt_52 : decode cX0_sizeAt 52 = .ok (.ireturn, 1) := by decide +kernel
theorem dX11_drawn_101 : decode cX11_drawn 101 = .ok (.istore 9, 2) := by decide +kernel
theorem dX11_drawn_103 : decode cX11_drawn 103 = .ok (.iload 5, 2) := by decide +kernel
theorem dX11_drawn_105 : decode cX11_drawn 105 = .ok (.ifCond .ne 8, 3) := by decide +kernel
theorem dX11_drawn_113 : decode cX11_drawn 113 = .ok (.aload_n 0, 1) := by decide +kernel
theorem dX11_drawn_114 : decode cX11_drawn 114 = .ok (.getfield 51, 3) := by decide +kernel
theorem dX11_drawn_117 : decode cX11_drawn 117 = .ok (.iload_n 1, 1) := by decide +kernel
theorem dX11_drawn_118 : decode cX11_drawn 118 = .ok (.iload_n 2, 1) := by decide +kernel
theorem dX11_drawn_119 : decode cX11_drawn 119 = .ok (.iload 8, 2) := by decide +kernel
theorem dX11_drawn_121 : decode cX11_drawn 121 = .ok (.invokevirtual 352, 3) := by decide +kernel
theorem wm_1606 : (Jvm.Cond.methodLink "GrownKinds" (352 : Nat) ({ cls := "GrownKinds$Census", name := "rankAt", desc := "(III)I" } : Jvm.MethodName)) ∈ gT := gT_in (List.mem_of_getElem? (i := 1606) (by decide +kernel)) (by decide +kernel)
theorem wm_1607 : (Jvm.Cond.instanceMethod ({ cls := "GrownKinds$Census", name := "rankAt", desc := "(III)I" } : Jvm.MethodName)) ∈ gT := gT_in (List.mem_of_getElem? (i := 1607) (by decide +kernel)) (by decide +kernel)
theorem wm_1608 : (Jvm.Cond.selects "GrownKinds$Census" ({ cls := "GrownKinds$Census", name := "rankAt", desc := "(III)I" } : Jvm.MethodName) ({ cls := "GrownKinds$Census", name := "rankAt", desc := "(III)I" } : Jvm.MethodName)) ∈ gT := gT_in (List.mem_of_getElem? (i := 1608) (by decide +kernel)) (by decide +kernel)
theorem wm_1609 : (Jvm.Cond.code ({ cls := "GrownKinds$Census", name := "rankAt", desc := "(III)I" } : Jvm.MethodName) prog_2_method_11_code (5 : Nat) (Option.some Jvm.ClassFile.FieldType.int)) ∈ gT := gT_in (List.mem_of_getElem? (i := 1609) (by decide +kernel)) (by decide +kernel)
theorem dX0_rankAt_0 : decode cX0_rankAt 0 = .ok (.aload_n 0, 1) := by decide +kernel
theorem dX0_rankAt_1 : decode cX0_rankAt 1 = .ok (.iload_n 1, 1) := by decide +kernel
theorem dX0_rankAt_2 : decode cX0_rankAt 2 = .ok (.iload_n 2, 1) := by decide +kernel
theorem dX0_rankAt_3 : decode cX0_rankAt 3 = .ok (.iload_n 3, 1) := by decide +kernel
theorem dX0_rankAt_4 : decode cX0_rankAt 4 = .ok (.invokevirtual 91, 3) := by decide +kernel
theorem wm_1610 : (Jvm.Cond.methodLink "GrownKinds$Census" (91 : Nat) ({ cls := "GrownKinds$Census", name := "sizeAt", desc := "(III)I" } : Jvm.MethodName)) ∈ gT := gT_in (List.mem_of_getElem? (i := 1610) (by decide +kernel)) (by decide +kernel)
theorem dX0_rankAt_7 : decode cX0_rankAt 7 = .ok (.istore 4, 2) := by decide +kernel
theorem dX0_rankAt_9 : decode cX0_rankAt 9 = .ok (.iload 4, 2) := by decide +kernel
theorem dX0_rankAt_11 : decode cX0_rankAt 11 = .ok (.iload_n 2, 1) := by decide +kernel
theorem dX0_rankAt_12 : decode cX0_rankAt 12 = .ok (.if_icmp .le 19, 3) := by decide +kernel
theorem dX0_rankAt_31 : decode cX0_rankAt 31 = .ok (.iload_n 3, 1) := by decide +kernel
theorem dX0_rankAt_32 : decode cX0_rankAt 32 = .ok (.ireturn, 1) := by decide +kernel
theorem dX0_rankAt_15 : decode cX0_rankAt 15 = .ok (.iload_n 3, 1) := by decide +kernel
theorem dX0_rankAt_16 : decode cX0_rankAt 16 = .ok (.aload_n 0, 1) := by decide +kernel
theorem dX0_rankAt_17 : decode cX0_rankAt 17 = .ok (.iload_n 1, 1) := by decide +kernel
theorem dX0_rankAt_18 : decode cX0_rankAt 18 = .ok (.iload_n 2, 1) := by decide +kernel
theorem dX0_rankAt_19 : decode cX0_rankAt 19 = .ok (.iload 4, 2) := by decide +kernel
theorem dX0_rankAt_21 : decode cX0_rankAt 21 = .ok (.iconst 1, 1) := by decide +kernel
theorem dX0_rankAt_22 : decode cX0_rankAt 22 = .ok (.isub, 1) := by decide +kernel
theorem dX0_rankAt_23 : decode cX0_rankAt 23 = .ok (.invokevirtual 95, 3) := by decide +kernel
theorem wm_1611 : (Jvm.Cond.methodLink "GrownKinds$Census" (95 : Nat) ({ cls := "GrownKinds$Census", name := "between", desc := "(III)J" } : Jvm.MethodName)) ∈ gT := gT_in (List.mem_of_getElem? (i := 1611) (by decide +kernel)) (by decide +kernel)
theorem dX0_rankAt_26 : decode cX0_rankAt 26 = .ok (.l2i, 1) := by decide +kernel
theorem dX0_rankAt_27 : decode cX0_rankAt 27 = .ok (.isub, 1) := by decide +kernel
theorem dX0_rankAt_28 : decode cX0_rankAt 28 = .ok (.goto 4, 3) := by decide +kernel
theorem dX11_drawn_124 : decode cX11_drawn 124 = .ok (.ireturn, 1) := by decide +kernel
theorem dX11_drawn_108 : decode cX11_drawn 108 = .ok (.iload 9, 2) := by decide +kernel
theorem dX11_drawn_110 : decode cX11_drawn 110 = .ok (.goto 14, 3) := by decide +kernel
theorem dX11_drawn_88 : decode cX11_drawn 88 = .ok (.iconst (-1), 1) := by decide +kernel
theorem dX11_drawn_89 : decode cX11_drawn 89 = .ok (.ireturn, 1) := by decide +kernel
theorem dX11_drawn_58 : decode cX11_drawn 58 = .ok (.bipush (-3), 2) := by decide +kernel
theorem dX11_drawn_60 : decode cX11_drawn 60 = .ok (.ireturn, 1) := by decide +kernel
theorem dX11_deal_0 : decode cX11_deal 0 = .ok (.aload_n 0, 1) := by decide +kernel
theorem dX11_deal_1 : decode cX11_deal 1 = .ok (.iload_n 1, 1) := by decide +kernel
theorem dX11_deal_2 : decode cX11_deal 2 = .ok (.iload_n 2, 1) := by decide +kernel
theorem dX11_deal_3 : decode cX11_deal 3 = .ok (.iload_n 3, 1) := by decide +kernel
theorem dX11_deal_4 : decode cX11_deal 4 = .ok (.invokevirtual 332, 3) := by decide +kernel
theorem dX11_deal_7 : decode cX11_deal 7 = .ok (.ifCond .eq 16, 3) := by decide +kernel
theorem dX11_deal_23 : decode cX11_deal 23 = .ok (.bipush (-2), 2) := by decide +kernel
theorem dX11_deal_25 : decode cX11_deal 25 = .ok (.ireturn, 1) := by decide +kernel
theorem dX11_deal_10 : decode cX11_deal 10 = .ok (.iload 4, 2) := by decide +kernel
theorem dX11_deal_12 : decode cX11_deal 12 = .ok (.ifCond .lt 11, 3) := by decide +kernel
theorem dX11_deal_15 : decode cX11_deal 15 = .ok (.iload 4, 2) := by decide +kernel
theorem dX11_deal_17 : decode cX11_deal 17 = .ok (.ldc_w 355, 3) := by decide +kernel
theorem wm_1616 : (Jvm.Cond.constant "GrownKinds" (355 : Nat) (2000000000 : Int32)) ∈ gT := gT_in (List.mem_of_getElem? (i := 1616) (by decide +kernel)) (by decide +kernel)
theorem dX11_deal_20 : decode cX11_deal 20 = .ok (.if_icmp .le 6, 3) := by decide +kernel
theorem dX11_deal_26 : decode cX11_deal 26 = .ok (.aload_n 0, 1) := by decide +kernel
theorem dX11_deal_27 : decode cX11_deal 27 = .ok (.getfield 51, 3) := by decide +kernel
theorem dX11_deal_30 : decode cX11_deal 30 = .ok (.iload_n 1, 1) := by decide +kernel
theorem dX11_deal_31 : decode cX11_deal 31 = .ok (.iload_n 2, 1) := by decide +kernel
theorem dX11_deal_32 : decode cX11_deal 32 = .ok (.iload_n 3, 1) := by decide +kernel
theorem dX11_deal_33 : decode cX11_deal 33 = .ok (.invokevirtual 336, 3) := by decide +kernel
theorem dX11_deal_36 : decode cX11_deal 36 = .ok (.lstore 5, 2) := by decide +kernel
theorem dX11_deal_38 : decode cX11_deal 38 = .ok (.lload 5, 2) := by decide +kernel
theorem dX11_deal_40 : decode cX11_deal 40 = .ok (.ldc2_w 356, 3) := by decide +kernel
theorem wm_1617 : (Jvm.Cond.constantLong "GrownKinds" (356 : Nat) (1000 : Int64)) ∈ gT := gT_in (List.mem_of_getElem? (i := 1617) (by decide +kernel)) (by decide +kernel)
theorem dX11_deal_43 : decode cX11_deal 43 = .ok (.lcmp, 1) := by decide +kernel
theorem dX11_deal_44 : decode cX11_deal 44 = .ok (.ifCond .le 6, 3) := by decide +kernel
theorem dX11_deal_50 : decode cX11_deal 50 = .ok (.aload_n 0, 1) := by decide +kernel
theorem dX11_deal_51 : decode cX11_deal 51 = .ok (.getfield 97, 3) := by decide +kernel
theorem dX11_deal_54 : decode cX11_deal 54 = .ok (.iload_n 1, 1) := by decide +kernel
theorem dX11_deal_55 : decode cX11_deal 55 = .ok (.iload_n 2, 1) := by decide +kernel
theorem dX11_deal_56 : decode cX11_deal 56 = .ok (.lload 5, 2) := by decide +kernel
theorem dX11_deal_58 : decode cX11_deal 58 = .ok (.l2i, 1) := by decide +kernel
theorem dX11_deal_59 : decode cX11_deal 59 = .ok (.iload 4, 2) := by decide +kernel
theorem dX11_deal_61 : decode cX11_deal 61 = .ok (.invokevirtual 358, 3) := by decide +kernel
theorem wm_1618 : (Jvm.Cond.methodLink "GrownKinds" (358 : Nat) ({ cls := "GrownKinds$Dealer", name := "begin", desc := "(IIII)V" } : Jvm.MethodName)) ∈ gT := gT_in (List.mem_of_getElem? (i := 1618) (by decide +kernel)) (by decide +kernel)
theorem wm_1619 : (Jvm.Cond.instanceMethod ({ cls := "GrownKinds$Dealer", name := "begin", desc := "(IIII)V" } : Jvm.MethodName)) ∈ gT := gT_in (List.mem_of_getElem? (i := 1619) (by decide +kernel)) (by decide +kernel)
theorem wm_1620 : (Jvm.Cond.selects "GrownKinds$Dealer" ({ cls := "GrownKinds$Dealer", name := "begin", desc := "(IIII)V" } : Jvm.MethodName) ({ cls := "GrownKinds$Dealer", name := "begin", desc := "(IIII)V" } : Jvm.MethodName)) ∈ gT := gT_in (List.mem_of_getElem? (i := 1620) (by decide +kernel)) (by decide +kernel)
theorem wm_1621 : (Jvm.Cond.code ({ cls := "GrownKinds$Dealer", name := "begin", desc := "(IIII)V" } : Jvm.MethodName) prog_3_method_5_code (5 : Nat) (Option.none : Option Jvm.ClassFile.FieldType)) ∈ gT := gT_in (List.mem_of_getElem? (i := 1621) (by decide +kernel)) (by decide +kernel)
theorem dX1_begin_0 : decode cX1_begin 0 = .ok (.aload_n 0, 1) := by decide +kernel
theorem dX1_begin_1 : decode cX1_begin 1 = .ok (.iload_n 1, 1) := by decide +kernel
theorem dX1_begin_2 : decode cX1_begin 2 = .ok (.putfield 15, 3) := by decide +kernel
theorem dX1_begin_5 : decode cX1_begin 5 = .ok (.aload_n 0, 1) := by decide +kernel
theorem dX1_begin_6 : decode cX1_begin 6 = .ok (.iload_n 2, 1) := by decide +kernel
theorem dX1_begin_7 : decode cX1_begin 7 = .ok (.putfield 18, 3) := by decide +kernel
theorem dX1_begin_10 : decode cX1_begin 10 = .ok (.aload_n 0, 1) := by decide +kernel
theorem dX1_begin_11 : decode cX1_begin 11 = .ok (.iload_n 3, 1) := by decide +kernel
theorem dX1_begin_12 : decode cX1_begin 12 = .ok (.putfield 21, 3) := by decide +kernel
theorem dX1_begin_15 : decode cX1_begin 15 = .ok (.aload_n 0, 1) := by decide +kernel
theorem dX1_begin_16 : decode cX1_begin 16 = .ok (.iload_n 3, 1) := by decide +kernel
theorem dX1_begin_17 : decode cX1_begin 17 = .ok (.putfield 9, 3) := by decide +kernel
theorem dX1_begin_20 : decode cX1_begin 20 = .ok (.aload_n 0, 1) := by decide +kernel
theorem dX1_begin_21 : decode cX1_begin 21 = .ok (.iconst 1, 1) := by decide +kernel
theorem dX1_begin_22 : decode cX1_begin 22 = .ok (.iload_n 3, 1) := by decide +kernel
theorem dX1_begin_23 : decode cX1_begin 23 = .ok (.i2l, 1) := by decide +kernel
theorem dX1_begin_24 : decode cX1_begin 24 = .ok (.invokestatic 34, 3) := by decide +kernel
theorem dX1_begin_27 : decode cX1_begin 27 = .ok (.ishl, 1) := by decide +kernel
theorem dX1_begin_28 : decode cX1_begin 28 = .ok (.iconst 1, 1) := by decide +kernel
theorem dX1_begin_29 : decode cX1_begin 29 = .ok (.isub, 1) := by decide +kernel
theorem dX1_begin_30 : decode cX1_begin 30 = .ok (.putfield 24, 3) := by decide +kernel
theorem dX1_begin_33 : decode cX1_begin 33 = .ok (.aload_n 0, 1) := by decide +kernel
theorem dX1_begin_34 : decode cX1_begin 34 = .ok (.iload 4, 2) := by decide +kernel
theorem dX1_begin_36 : decode cX1_begin 36 = .ok (.aload_n 0, 1) := by decide +kernel
theorem dX1_begin_37 : decode cX1_begin 37 = .ok (.getfield 24, 3) := by decide +kernel
theorem dX1_begin_40 : decode cX1_begin 40 = .ok (.iand, 1) := by decide +kernel
theorem dX1_begin_41 : decode cX1_begin 41 = .ok (.putfield 27, 3) := by decide +kernel
theorem dX1_begin_44 : decode cX1_begin 44 = .ok (.return_, 1) := by decide +kernel
theorem dX11_deal_64 : decode cX11_deal 64 = .ok (.lload 5, 2) := by decide +kernel
theorem dX11_deal_66 : decode cX11_deal 66 = .ok (.l2i, 1) := by decide +kernel
theorem dX11_deal_67 : decode cX11_deal 67 = .ok (.ireturn, 1) := by decide +kernel
theorem dX11_deal_47 : decode cX11_deal 47 = .ok (.bipush (-3), 2) := by decide +kernel
theorem dX11_deal_49 : decode cX11_deal 49 = .ok (.ireturn, 1) := by decide +kernel
theorem dX11_dealt_0 : decode cX11_dealt 0 = .ok (.aload_n 0, 1) := by decide +kernel
theorem dX11_dealt_1 : decode cX11_dealt 1 = .ok (.getfield 97, 3) := by decide +kernel
theorem dX11_dealt_4 : decode cX11_dealt 4 = .ok (.invokevirtual 360, 3) := by decide +kernel
theorem wm_1626 : (Jvm.Cond.methodLink "GrownKinds" (360 : Nat) ({ cls := "GrownKinds$Dealer", name := "next", desc := "()I" } : Jvm.MethodName)) ∈ gT := gT_in (List.mem_of_getElem? (i := 1626) (by decide +kernel)) (by decide +kernel)
theorem wm_1627 : (Jvm.Cond.instanceMethod ({ cls := "GrownKinds$Dealer", name := "next", desc := "()I" } : Jvm.MethodName)) ∈ gT := gT_in (List.mem_of_getElem? (i := 1627) (by decide +kernel)) (by decide +kernel)
theorem wm_1628 : (Jvm.Cond.selects "GrownKinds$Dealer" ({ cls := "GrownKinds$Dealer", name := "next", desc := "()I" } : Jvm.MethodName) ({ cls := "GrownKinds$Dealer", name := "next", desc := "()I" } : Jvm.MethodName)) ∈ gT := gT_in (List.mem_of_getElem? (i := 1628) (by decide +kernel)) (by decide +kernel)
theorem wm_1629 : (Jvm.Cond.code ({ cls := "GrownKinds$Dealer", name := "next", desc := "()I" } : Jvm.MethodName) prog_3_method_6_code (2 : Nat) (Option.some Jvm.ClassFile.FieldType.int)) ∈ gT := gT_in (List.mem_of_getElem? (i := 1629) (by decide +kernel)) (by decide +kernel)
theorem dX1_next_0 : decode cX1_next 0 = .ok (.aload_n 0, 1) := by decide +kernel
theorem dX1_next_1 : decode cX1_next 1 = .ok (.getfield 9, 3) := by decide +kernel
theorem dX1_next_4 : decode cX1_next 4 = .ok (.ifCond .ne 5, 3) := by decide +kernel
theorem dX1_next_9 : decode cX1_next 9 = .ok (.iconst 0, 1) := by decide +kernel
theorem dX1_next_10 : decode cX1_next 10 = .ok (.istore_n 1, 1) := by decide +kernel
theorem dX1_next_11 : decode cX1_next 11 = .ok (.iload_n 1, 1) := by decide +kernel
theorem dX1_next_12 : decode cX1_next 12 = .ok (.aload_n 0, 1) := by decide +kernel
theorem dX1_next_13 : decode cX1_next 13 = .ok (.getfield 24, 3) := by decide +kernel
theorem dX1_next_16 : decode cX1_next 16 = .ok (.if_icmp .ge 24, 3) := by decide +kernel
theorem dX1_next_19 : decode cX1_next 19 = .ok (.aload_n 0, 1) := by decide +kernel
theorem dX1_next_20 : decode cX1_next 20 = .ok (.getfield 27, 3) := by decide +kernel
theorem dX1_next_23 : decode cX1_next 23 = .ok (.aload_n 0, 1) := by decide +kernel
theorem dX1_next_24 : decode cX1_next 24 = .ok (.getfield 21, 3) := by decide +kernel
theorem dX1_next_27 : decode cX1_next 27 = .ok (.if_icmp .lt 13, 3) := by decide +kernel
theorem dX1_next_30 : decode cX1_next 30 = .ok (.aload_n 0, 1) := by decide +kernel
theorem dX1_next_31 : decode cX1_next 31 = .ok (.invokevirtual 38, 3) := by decide +kernel
theorem wm_1630 : (Jvm.Cond.methodLink "GrownKinds$Dealer" (38 : Nat) ({ cls := "GrownKinds$Dealer", name := "advance", desc := "()V" } : Jvm.MethodName)) ∈ gT := gT_in (List.mem_of_getElem? (i := 1630) (by decide +kernel)) (by decide +kernel)
theorem wm_1632 : (Jvm.Cond.instanceMethod ({ cls := "GrownKinds$Dealer", name := "advance", desc := "()V" } : Jvm.MethodName)) ∈ gT := gT_in (List.mem_of_getElem? (i := 1632) (by decide +kernel)) (by decide +kernel)
theorem wm_85 : Cond.selects "GrownKinds$Dealer" ⟨"GrownKinds$Dealer", "advance", "()V"⟩ ⟨"GrownKinds$Dealer", "advance", "()V"⟩ ∈ gT := gT_in (List.mem_of_getElem? (i := 85) (by decide +kernel)) (by decide +kernel)
theorem wm_1633 : (Jvm.Cond.code ({ cls := "GrownKinds$Dealer", name := "advance", desc := "()V" } : Jvm.MethodName) prog_3_method_7_code (1 : Nat) (Option.none : Option Jvm.ClassFile.FieldType)) ∈ gT := gT_in (List.mem_of_getElem? (i := 1633) (by decide +kernel)) (by decide +kernel)
theorem dX1_advance_0 : decode cX1_advance 0 = .ok (.aload_n 0, 1) := by decide +kernel
theorem dX1_advance_1 : decode cX1_advance 1 = .ok (.iconst 5, 1) := by decide +kernel
theorem dX1_advance_2 : decode cX1_advance 2 = .ok (.aload_n 0, 1) := by decide +kernel
theorem dX1_advance_3 : decode cX1_advance 3 = .ok (.getfield 27, 3) := by decide +kernel
theorem dX1_advance_6 : decode cX1_advance 6 = .ok (.imul, 1) := by decide +kernel
theorem dX1_advance_7 : decode cX1_advance 7 = .ok (.iconst 3, 1) := by decide +kernel
theorem dX1_advance_8 : decode cX1_advance 8 = .ok (.iadd, 1) := by decide +kernel
theorem dX1_advance_9 : decode cX1_advance 9 = .ok (.aload_n 0, 1) := by decide +kernel
theorem dX1_advance_10 : decode cX1_advance 10 = .ok (.getfield 24, 3) := by decide +kernel
theorem dX1_advance_13 : decode cX1_advance 13 = .ok (.iand, 1) := by decide +kernel
theorem dX1_advance_14 : decode cX1_advance 14 = .ok (.putfield 27, 3) := by decide +kernel
theorem dX1_advance_17 : decode cX1_advance 17 = .ok (.return_, 1) := by decide +kernel
theorem dX1_next_34 : decode cX1_next 34 = .ok (.iinc 1 1, 3) := by decide +kernel
theorem dX1_next_37 : decode cX1_next 37 = .ok (.goto (-26), 3) := by decide +kernel
theorem dX1_next_40 : decode cX1_next 40 = .ok (.aload_n 0, 1) := by decide +kernel
theorem dX1_next_41 : decode cX1_next 41 = .ok (.getfield 27, 3) := by decide +kernel
theorem dX1_next_44 : decode cX1_next 44 = .ok (.istore_n 1, 1) := by decide +kernel
theorem dX1_next_45 : decode cX1_next 45 = .ok (.aload_n 0, 1) := by decide +kernel
theorem dX1_next_46 : decode cX1_next 46 = .ok (.invokevirtual 38, 3) := by decide +kernel
theorem dX1_next_49 : decode cX1_next 49 = .ok (.aload_n 0, 1) := by decide +kernel
theorem dX1_next_50 : decode cX1_next 50 = .ok (.dup, 1) := by decide +kernel
theorem dX1_next_51 : decode cX1_next 51 = .ok (.getfield 9, 3) := by decide +kernel
theorem dX1_next_54 : decode cX1_next 54 = .ok (.iconst 1, 1) := by decide +kernel
theorem dX1_next_55 : decode cX1_next 55 = .ok (.isub, 1) := by decide +kernel
theorem dX1_next_56 : decode cX1_next 56 = .ok (.putfield 9, 3) := by decide +kernel
theorem dX1_next_59 : decode cX1_next 59 = .ok (.sipush 10000, 3) := by decide +kernel
theorem dX1_next_62 : decode cX1_next 62 = .ok (.aload_n 0, 1) := by decide +kernel
theorem dX1_next_63 : decode cX1_next 63 = .ok (.getfield 30, 3) := by decide +kernel
theorem dX1_next_66 : decode cX1_next 66 = .ok (.aload_n 0, 1) := by decide +kernel
theorem dX1_next_67 : decode cX1_next 67 = .ok (.getfield 15, 3) := by decide +kernel
theorem dX1_next_70 : decode cX1_next 70 = .ok (.aload_n 0, 1) := by decide +kernel
theorem dX1_next_71 : decode cX1_next 71 = .ok (.getfield 18, 3) := by decide +kernel
theorem dX1_next_74 : decode cX1_next 74 = .ok (.iload_n 1, 1) := by decide +kernel
theorem dX1_next_75 : decode cX1_next 75 = .ok (.invokevirtual 41, 3) := by decide +kernel
theorem wm_1634 : (Jvm.Cond.methodLink "GrownKinds$Dealer" (41 : Nat) ({ cls := "GrownKinds$Census", name := "sizeAt", desc := "(III)I" } : Jvm.MethodName)) ∈ gT := gT_in (List.mem_of_getElem? (i := 1634) (by decide +kernel)) (by decide +kernel)
theorem dX1_next_78 : decode cX1_next 78 = .ok (.imul, 1) := by decide +kernel
theorem dX1_next_79 : decode cX1_next 79 = .ok (.aload_n 0, 1) := by decide +kernel
theorem dX1_next_80 : decode cX1_next 80 = .ok (.getfield 30, 3) := by decide +kernel
theorem dX1_next_83 : decode cX1_next 83 = .ok (.aload_n 0, 1) := by decide +kernel
theorem dX1_next_84 : decode cX1_next 84 = .ok (.getfield 15, 3) := by decide +kernel
theorem dX1_next_87 : decode cX1_next 87 = .ok (.aload_n 0, 1) := by decide +kernel
theorem dX1_next_88 : decode cX1_next 88 = .ok (.getfield 18, 3) := by decide +kernel
theorem dX1_next_91 : decode cX1_next 91 = .ok (.iload_n 1, 1) := by decide +kernel
theorem dX1_next_92 : decode cX1_next 92 = .ok (.invokevirtual 47, 3) := by decide +kernel
theorem wm_1635 : (Jvm.Cond.methodLink "GrownKinds$Dealer" (47 : Nat) ({ cls := "GrownKinds$Census", name := "rankAt", desc := "(III)I" } : Jvm.MethodName)) ∈ gT := gT_in (List.mem_of_getElem? (i := 1635) (by decide +kernel)) (by decide +kernel)
theorem dX1_next_95 : decode cX1_next 95 = .ok (.iadd, 1) := by decide +kernel
theorem dX1_next_96 : decode cX1_next 96 = .ok (.ireturn, 1) := by decide +kernel
theorem dX1_next_7 : decode cX1_next 7 = .ok (.iconst (-1), 1) := by decide +kernel
theorem dX1_next_8 : decode cX1_next 8 = .ok (.ireturn, 1) := by decide +kernel
theorem dX11_dealt_7 : decode cX11_dealt 7 = .ok (.ireturn, 1) := by decide +kernel
theorem dX11_left_0 : decode cX11_left 0 = .ok (.aload_n 0, 1) := by decide +kernel
theorem dX11_left_1 : decode cX11_left 1 = .ok (.getfield 97, 3) := by decide +kernel
theorem dX11_left_4 : decode cX11_left 4 = .ok (.getfield 364, 3) := by decide +kernel
theorem wm_644 : (Jvm.Cond.fieldLink "GrownKinds" (364 : Nat) "GrownKinds$Dealer" "leftOver" "I") ∈ gT := gT_in (List.mem_of_getElem? (i := 644) (by decide +kernel)) (by decide +kernel)
theorem dX11_left_7 : decode cX11_left 7 = .ok (.ireturn, 1) := by decide +kernel
theorem dX11_takes_0 : decode cX11_takes 0 = .ok (.aload_n 0, 1) := by decide +kernel
theorem dX11_takes_1 : decode cX11_takes 1 = .ok (.iload_n 1, 1) := by decide +kernel
theorem dX11_takes_2 : decode cX11_takes 2 = .ok (.iload_n 2, 1) := by decide +kernel
theorem dX11_takes_3 : decode cX11_takes 3 = .ok (.invokevirtual 228, 3) := by decide +kernel
theorem dX11_takes_6 : decode cX11_takes 6 = .ok (.ifCond .ne 6, 3) := by decide +kernel
theorem dX11_takes_12 : decode cX11_takes 12 = .ok (.aload_n 0, 1) := by decide +kernel
theorem dX11_takes_13 : decode cX11_takes 13 = .ok (.getfield 20, 3) := by decide +kernel
theorem dX11_takes_16 : decode cX11_takes 16 = .ok (.iload_n 1, 1) := by decide +kernel
theorem dX11_takes_17 : decode cX11_takes 17 = .ok (.iload_n 2, 1) := by decide +kernel
theorem dX11_takes_18 : decode cX11_takes 18 = .ok (.invokevirtual 243, 3) := by decide +kernel
theorem dX11_takes_21 : decode cX11_takes 21 = .ok (.ifCond .ne 12, 3) := by decide +kernel
theorem dX11_takes_33 : decode cX11_takes 33 = .ok (.bipush (-5), 2) := by decide +kernel
theorem dX11_takes_35 : decode cX11_takes 35 = .ok (.ireturn, 1) := by decide +kernel
theorem dX11_takes_24 : decode cX11_takes 24 = .ok (.aload_n 0, 1) := by decide +kernel
theorem dX11_takes_25 : decode cX11_takes 25 = .ok (.getfield 108, 3) := by decide +kernel
theorem dX11_takes_28 : decode cX11_takes 28 = .ok (.bipush 10, 2) := by decide +kernel
theorem dX11_takes_30 : decode cX11_takes 30 = .ok (.if_icmp .lt 6, 3) := by decide +kernel
theorem dX11_takes_36 : decode cX11_takes 36 = .ok (.aload_n 0, 1) := by decide +kernel
theorem dX11_takes_37 : decode cX11_takes 37 = .ok (.getfield 104, 3) := by decide +kernel
theorem dX11_takes_40 : decode cX11_takes 40 = .ok (.aload_n 0, 1) := by decide +kernel
theorem dX11_takes_41 : decode cX11_takes 41 = .ok (.getfield 108, 3) := by decide +kernel
theorem dX11_takes_44 : decode cX11_takes 44 = .ok (.iload_n 1, 1) := by decide +kernel
theorem dX11_takes_45 : decode cX11_takes 45 = .ok (.bipush 10, 2) := by decide +kernel
theorem dX11_takes_47 : decode cX11_takes 47 = .ok (.imul, 1) := by decide +kernel
theorem dX11_takes_48 : decode cX11_takes 48 = .ok (.iload_n 2, 1) := by decide +kernel
theorem dX11_takes_49 : decode cX11_takes 49 = .ok (.iadd, 1) := by decide +kernel
theorem dX11_takes_50 : decode cX11_takes 50 = .ok (.iastore, 1) := by decide +kernel
theorem dX11_takes_51 : decode cX11_takes 51 = .ok (.aload_n 0, 1) := by decide +kernel
theorem dX11_takes_52 : decode cX11_takes 52 = .ok (.dup, 1) := by decide +kernel
theorem dX11_takes_53 : decode cX11_takes 53 = .ok (.getfield 108, 3) := by decide +kernel
theorem dX11_takes_56 : decode cX11_takes 56 = .ok (.iconst 1, 1) := by decide +kernel
theorem dX11_takes_57 : decode cX11_takes 57 = .ok (.iadd, 1) := by decide +kernel
theorem dX11_takes_58 : decode cX11_takes 58 = .ok (.putfield 108, 3) := by decide +kernel
theorem dX11_takes_61 : decode cX11_takes 61 = .ok (.aload_n 0, 1) := by decide +kernel
theorem dX11_takes_62 : decode cX11_takes 62 = .ok (.getfield 20, 3) := by decide +kernel
theorem dX11_takes_65 : decode cX11_takes 65 = .ok (.iload_n 1, 1) := by decide +kernel
theorem dX11_takes_66 : decode cX11_takes 66 = .ok (.iload_n 2, 1) := by decide +kernel
theorem dX11_takes_67 : decode cX11_takes 67 = .ok (.invokevirtual 367, 3) := by decide +kernel
theorem wm_1644 : (Jvm.Cond.methodLink "GrownKinds" (367 : Nat) ({ cls := "GrownKinds$Grammar", name := "flip", desc := "(II)V" } : Jvm.MethodName)) ∈ gT := gT_in (List.mem_of_getElem? (i := 1644) (by decide +kernel)) (by decide +kernel)
theorem wm_1239 : (Jvm.Cond.instanceMethod ({ cls := "GrownKinds$Grammar", name := "flip", desc := "(II)V" } : Jvm.MethodName)) ∈ gT := gT_in (List.mem_of_getElem? (i := 1239) (by decide +kernel)) (by decide +kernel)
theorem wm_1240 : (Jvm.Cond.selects "GrownKinds$Grammar" ({ cls := "GrownKinds$Grammar", name := "flip", desc := "(II)V" } : Jvm.MethodName) ({ cls := "GrownKinds$Grammar", name := "flip", desc := "(II)V" } : Jvm.MethodName)) ∈ gT := gT_in (List.mem_of_getElem? (i := 1240) (by decide +kernel)) (by decide +kernel)
theorem wm_1241 : (Jvm.Cond.code ({ cls := "GrownKinds$Grammar", name := "flip", desc := "(II)V" } : Jvm.MethodName) prog_4_method_7_code (3 : Nat) (Option.none : Option Jvm.ClassFile.FieldType)) ∈ gT := gT_in (List.mem_of_getElem? (i := 1241) (by decide +kernel)) (by decide +kernel)
theorem dX2_flip_0 : decode cX2_flip 0 = .ok (.aload_n 0, 1) := by decide +kernel
theorem dX2_flip_1 : decode cX2_flip 1 = .ok (.getfield 49, 3) := by decide +kernel
theorem dX2_flip_4 : decode cX2_flip 4 = .ok (.iload_n 1, 1) := by decide +kernel
theorem dX2_flip_5 : decode cX2_flip 5 = .ok (.dup2, 1) := by decide +kernel
theorem dX2_flip_6 : decode cX2_flip 6 = .ok (.iaload, 1) := by decide +kernel
theorem dX2_flip_7 : decode cX2_flip 7 = .ok (.iconst 1, 1) := by decide +kernel
theorem dX2_flip_8 : decode cX2_flip 8 = .ok (.iload_n 2, 1) := by decide +kernel
theorem dX2_flip_9 : decode cX2_flip 9 = .ok (.ishl, 1) := by decide +kernel
theorem dX2_flip_10 : decode cX2_flip 10 = .ok (.ixor, 1) := by decide +kernel
theorem dX2_flip_11 : decode cX2_flip 11 = .ok (.iastore, 1) := by decide +kernel
theorem dX2_flip_12 : decode cX2_flip 12 = .ok (.return_, 1) := by decide +kernel
theorem dX11_takes_70 : decode cX11_takes 70 = .ok (.aload_n 0, 1) := by decide +kernel
theorem dX11_takes_71 : decode cX11_takes 71 = .ok (.invokevirtual 140, 3) := by decide +kernel
theorem dX11_takes_74 : decode cX11_takes 74 = .ok (.aload_n 0, 1) := by decide +kernel
theorem dX11_takes_75 : decode cX11_takes 75 = .ok (.getfield 20, 3) := by decide +kernel
theorem dX11_takes_78 : decode cX11_takes 78 = .ok (.getfield 172, 3) := by decide +kernel
theorem dX11_takes_81 : decode cX11_takes 81 = .ok (.iload_n 1, 1) := by decide +kernel
theorem dX11_takes_82 : decode cX11_takes 82 = .ok (.iaload, 1) := by decide +kernel
theorem dX11_takes_83 : decode cX11_takes 83 = .ok (.aload_n 0, 1) := by decide +kernel
theorem dX11_takes_84 : decode cX11_takes 84 = .ok (.getfield 20, 3) := by decide +kernel
theorem dX11_takes_87 : decode cX11_takes 87 = .ok (.getfield 179, 3) := by decide +kernel
theorem dX11_takes_90 : decode cX11_takes 90 = .ok (.iload_n 1, 1) := by decide +kernel
theorem dX11_takes_91 : decode cX11_takes 91 = .ok (.iaload, 1) := by decide +kernel
theorem dX11_takes_92 : decode cX11_takes 92 = .ok (.invokestatic 370, 3) := by decide +kernel
theorem wm_1645 : (Jvm.Cond.methodLink "GrownKinds" (370 : Nat) ({ cls := "java/lang/Integer", name := "bitCount", desc := "(I)I" } : Jvm.MethodName)) ∈ gT := gT_in (List.mem_of_getElem? (i := 1645) (by decide +kernel)) (by decide +kernel)
theorem wm_1646 : (Jvm.Cond.static ({ cls := "java/lang/Integer", name := "bitCount", desc := "(I)I" } : Jvm.MethodName)) ∈ gT := gT_in (List.mem_of_getElem? (i := 1646) (by decide +kernel)) (by decide +kernel)
theorem wm_197 : (Jvm.Cond.initialized "java/lang/Integer") ∈ gT := gT_in (List.mem_of_getElem? (i := 197) (by decide +kernel)) (by decide +kernel)
theorem wm_1647 : (Jvm.Cond.code ({ cls := "java/lang/Integer", name := "bitCount", desc := "(I)I" } : Jvm.MethodName) prog_16_method_49_code (1 : Nat) (Option.some Jvm.ClassFile.FieldType.int)) ∈ gT := gT_in (List.mem_of_getElem? (i := 1647) (by decide +kernel)) (by decide +kernel)
theorem dJ6_bitCount_0f7a4_0 : decode cJ6_bitCount_0f7a4 0 = .ok (.iload_n 0, 1) := by decide +kernel
theorem dJ6_bitCount_0f7a4_1 : decode cJ6_bitCount_0f7a4 1 = .ok (.iload_n 0, 1) := by decide +kernel
theorem dJ6_bitCount_0f7a4_2 : decode cJ6_bitCount_0f7a4 2 = .ok (.iconst 1, 1) := by decide +kernel
theorem dJ6_bitCount_0f7a4_3 : decode cJ6_bitCount_0f7a4 3 = .ok (.iushr, 1) := by decide +kernel
theorem dJ6_bitCount_0f7a4_4 : decode cJ6_bitCount_0f7a4 4 = .ok (.ldc_w 265, 3) := by decide +kernel
theorem wm_1648 : (Jvm.Cond.constant "java/lang/Integer" (265 : Nat) (1431655765 : Int32)) ∈ gT := gT_in (List.mem_of_getElem? (i := 1648) (by decide +kernel)) (by decide +kernel)
theorem dJ6_bitCount_0f7a4_7 : decode cJ6_bitCount_0f7a4 7 = .ok (.iand, 1) := by decide +kernel
theorem dJ6_bitCount_0f7a4_8 : decode cJ6_bitCount_0f7a4 8 = .ok (.isub, 1) := by decide +kernel
theorem dJ6_bitCount_0f7a4_9 : decode cJ6_bitCount_0f7a4 9 = .ok (.istore_n 0, 1) := by decide +kernel
theorem dJ6_bitCount_0f7a4_10 : decode cJ6_bitCount_0f7a4 10 = .ok (.iload_n 0, 1) := by decide +kernel
theorem dJ6_bitCount_0f7a4_11 : decode cJ6_bitCount_0f7a4 11 = .ok (.ldc_w 266, 3) := by decide +kernel
theorem wm_1649 : (Jvm.Cond.constant "java/lang/Integer" (266 : Nat) (858993459 : Int32)) ∈ gT := gT_in (List.mem_of_getElem? (i := 1649) (by decide +kernel)) (by decide +kernel)
theorem dJ6_bitCount_0f7a4_14 : decode cJ6_bitCount_0f7a4 14 = .ok (.iand, 1) := by decide +kernel
theorem dJ6_bitCount_0f7a4_15 : decode cJ6_bitCount_0f7a4 15 = .ok (.iload_n 0, 1) := by decide +kernel
theorem dJ6_bitCount_0f7a4_16 : decode cJ6_bitCount_0f7a4 16 = .ok (.iconst 2, 1) := by decide +kernel
theorem dJ6_bitCount_0f7a4_17 : decode cJ6_bitCount_0f7a4 17 = .ok (.iushr, 1) := by decide +kernel
theorem dJ6_bitCount_0f7a4_18 : decode cJ6_bitCount_0f7a4 18 = .ok (.ldc_w 266, 3) := by decide +kernel
theorem dJ6_bitCount_0f7a4_21 : decode cJ6_bitCount_0f7a4 21 = .ok (.iand, 1) := by decide +kernel
theorem dJ6_bitCount_0f7a4_22 : decode cJ6_bitCount_0f7a4 22 = .ok (.iadd, 1) := by decide +kernel
theorem dJ6_bitCount_0f7a4_23 : decode cJ6_bitCount_0f7a4 23 = .ok (.istore_n 0, 1) := by decide +kernel
theorem dJ6_bitCount_0f7a4_24 : decode cJ6_bitCount_0f7a4 24 = .ok (.iload_n 0, 1) := by decide +kernel
theorem dJ6_bitCount_0f7a4_25 : decode cJ6_bitCount_0f7a4 25 = .ok (.iload_n 0, 1) := by decide +kernel
theorem dJ6_bitCount_0f7a4_26 : decode cJ6_bitCount_0f7a4 26 = .ok (.iconst 4, 1) := by decide +kernel
theorem dJ6_bitCount_0f7a4_27 : decode cJ6_bitCount_0f7a4 27 = .ok (.iushr, 1) := by decide +kernel
theorem dJ6_bitCount_0f7a4_28 : decode cJ6_bitCount_0f7a4 28 = .ok (.iadd, 1) := by decide +kernel
theorem dJ6_bitCount_0f7a4_29 : decode cJ6_bitCount_0f7a4 29 = .ok (.ldc_w 267, 3) := by decide +kernel
theorem wm_1650 : (Jvm.Cond.constant "java/lang/Integer" (267 : Nat) (252645135 : Int32)) ∈ gT := gT_in (List.mem_of_getElem? (i := 1650) (by decide +kernel)) (by decide +kernel)
theorem dJ6_bitCount_0f7a4_32 : decode cJ6_bitCount_0f7a4 32 = .ok (.iand, 1) := by decide +kernel
theorem dJ6_bitCount_0f7a4_33 : decode cJ6_bitCount_0f7a4 33 = .ok (.istore_n 0, 1) := by decide +kernel
theorem dJ6_bitCount_0f7a4_34 : decode cJ6_bitCount_0f7a4 34 = .ok (.iload_n 0, 1) := by decide +kernel
theorem dJ6_bitCount_0f7a4_35 : decode cJ6_bitCount_0f7a4 35 = .ok (.iload_n 0, 1) := by decide +kernel
theorem dJ6_bitCount_0f7a4_36 : decode cJ6_bitCount_0f7a4 36 = .ok (.bipush 8, 2) := by decide +kernel
theorem dJ6_bitCount_0f7a4_38 : decode cJ6_bitCount_0f7a4 38 = .ok (.iushr, 1) := by decide +kernel
theorem dJ6_bitCount_0f7a4_39 : decode cJ6_bitCount_0f7a4 39 = .ok (.iadd, 1) := by decide +kernel
theorem dJ6_bitCount_0f7a4_40 : decode cJ6_bitCount_0f7a4 40 = .ok (.istore_n 0, 1) := by decide +kernel
theorem dJ6_bitCount_0f7a4_41 : decode cJ6_bitCount_0f7a4 41 = .ok (.iload_n 0, 1) := by decide +kernel
theorem dJ6_bitCount_0f7a4_42 : decode cJ6_bitCount_0f7a4 42 = .ok (.iload_n 0, 1) := by decide +kernel
theorem dJ6_bitCount_0f7a4_43 : decode cJ6_bitCount_0f7a4 43 = .ok (.bipush 16, 2) := by decide +kernel
theorem dJ6_bitCount_0f7a4_45 : decode cJ6_bitCount_0f7a4 45 = .ok (.iushr, 1) := by decide +kernel
theorem dJ6_bitCount_0f7a4_46 : decode cJ6_bitCount_0f7a4 46 = .ok (.iadd, 1) := by decide +kernel
theorem dJ6_bitCount_0f7a4_47 : decode cJ6_bitCount_0f7a4 47 = .ok (.istore_n 0, 1) := by decide +kernel
theorem dJ6_bitCount_0f7a4_48 : decode cJ6_bitCount_0f7a4 48 = .ok (.iload_n 0, 1) := by decide +kernel
theorem dJ6_bitCount_0f7a4_49 : decode cJ6_bitCount_0f7a4 49 = .ok (.bipush 63, 2) := by decide +kernel
theorem dJ6_bitCount_0f7a4_51 : decode cJ6_bitCount_0f7a4 51 = .ok (.iand, 1) := by decide +kernel
theorem dJ6_bitCount_0f7a4_52 : decode cJ6_bitCount_0f7a4 52 = .ok (.ireturn, 1) := by decide +kernel
theorem dX11_takes_95 : decode cX11_takes 95 = .ok (.isub, 1) := by decide +kernel
theorem dX11_takes_96 : decode cX11_takes 96 = .ok (.ireturn, 1) := by decide +kernel
theorem dX11_takes_9 : decode cX11_takes 9 = .ok (.bipush (-2), 2) := by decide +kernel
theorem dX11_takes_11 : decode cX11_takes 11 = .ok (.ireturn, 1) := by decide +kernel
theorem dX11_takeBack_0 : decode cX11_takeBack 0 = .ok (.aload_n 0, 1) := by decide +kernel
theorem dX11_takeBack_1 : decode cX11_takeBack 1 = .ok (.dup, 1) := by decide +kernel
theorem dX11_takeBack_2 : decode cX11_takeBack 2 = .ok (.getfield 108, 3) := by decide +kernel
theorem dX11_takeBack_5 : decode cX11_takeBack 5 = .ok (.iconst 1, 1) := by decide +kernel
theorem dX11_takeBack_6 : decode cX11_takeBack 6 = .ok (.isub, 1) := by decide +kernel
theorem dX11_takeBack_7 : decode cX11_takeBack 7 = .ok (.putfield 108, 3) := by decide +kernel
theorem dX11_takeBack_10 : decode cX11_takeBack 10 = .ok (.aload_n 0, 1) := by decide +kernel
theorem dX11_takeBack_11 : decode cX11_takeBack 11 = .ok (.getfield 20, 3) := by decide +kernel
theorem dX11_takeBack_14 : decode cX11_takeBack 14 = .ok (.aload_n 0, 1) := by decide +kernel
theorem dX11_takeBack_15 : decode cX11_takeBack 15 = .ok (.getfield 104, 3) := by decide +kernel
theorem dX11_takeBack_18 : decode cX11_takeBack 18 = .ok (.aload_n 0, 1) := by decide +kernel
theorem dX11_takeBack_19 : decode cX11_takeBack 19 = .ok (.getfield 108, 3) := by decide +kernel
theorem dX11_takeBack_22 : decode cX11_takeBack 22 = .ok (.iaload, 1) := by decide +kernel
theorem dX11_takeBack_23 : decode cX11_takeBack 23 = .ok (.bipush 10, 2) := by decide +kernel
theorem dX11_takeBack_25 : decode cX11_takeBack 25 = .ok (.idiv, 1) := by decide +kernel
theorem dX11_takeBack_26 : decode cX11_takeBack 26 = .ok (.aload_n 0, 1) := by decide +kernel
theorem dX11_takeBack_27 : decode cX11_takeBack 27 = .ok (.getfield 104, 3) := by decide +kernel
theorem dX11_takeBack_30 : decode cX11_takeBack 30 = .ok (.aload_n 0, 1) := by decide +kernel
theorem dX11_takeBack_31 : decode cX11_takeBack 31 = .ok (.getfield 108, 3) := by decide +kernel
theorem dX11_takeBack_34 : decode cX11_takeBack 34 = .ok (.iaload, 1) := by decide +kernel
theorem dX11_takeBack_35 : decode cX11_takeBack 35 = .ok (.bipush 10, 2) := by decide +kernel
theorem dX11_takeBack_37 : decode cX11_takeBack 37 = .ok (.irem, 1) := by decide +kernel
theorem dX11_takeBack_38 : decode cX11_takeBack 38 = .ok (.invokevirtual 367, 3) := by decide +kernel
theorem dX11_takeBack_41 : decode cX11_takeBack 41 = .ok (.return_, 1) := by decide +kernel
theorem dX11_undo_0 : decode cX11_undo 0 = .ok (.aload_n 0, 1) := by decide +kernel
theorem dX11_undo_1 : decode cX11_undo 1 = .ok (.getfield 20, 3) := by decide +kernel
theorem dX11_undo_4 : decode cX11_undo 4 = .ok (.getfield 165, 3) := by decide +kernel
theorem dX11_undo_7 : decode cX11_undo 7 = .ok (.ifCond .ne 6, 3) := by decide +kernel
theorem dX11_undo_13 : decode cX11_undo 13 = .ok (.aload_n 0, 1) := by decide +kernel
theorem dX11_undo_14 : decode cX11_undo 14 = .ok (.getfield 108, 3) := by decide +kernel
theorem dX11_undo_17 : decode cX11_undo 17 = .ok (.ifCond .ne 6, 3) := by decide +kernel
theorem dX11_undo_23 : decode cX11_undo 23 = .ok (.aload_n 0, 1) := by decide +kernel
theorem dX11_undo_24 : decode cX11_undo 24 = .ok (.invokevirtual 375, 3) := by decide +kernel
theorem wm_1655 : (Jvm.Cond.methodLink "GrownKinds" (375 : Nat) ({ cls := "GrownKinds", name := "takeBack", desc := "()V" } : Jvm.MethodName)) ∈ gT := gT_in (List.mem_of_getElem? (i := 1655) (by decide +kernel)) (by decide +kernel)
theorem wm_1657 : (Jvm.Cond.instanceMethod ({ cls := "GrownKinds", name := "takeBack", desc := "()V" } : Jvm.MethodName)) ∈ gT := gT_in (List.mem_of_getElem? (i := 1657) (by decide +kernel)) (by decide +kernel)
theorem wm_86 : Cond.selects "GrownKinds" ⟨"GrownKinds", "takeBack", "()V"⟩ ⟨"GrownKinds", "takeBack", "()V"⟩ ∈ gT := gT_in (List.mem_of_getElem? (i := 86) (by decide +kernel)) (by decide +kernel)
theorem wm_1658 : (Jvm.Cond.code ({ cls := "GrownKinds", name := "takeBack", desc := "()V" } : Jvm.MethodName) prog_1_method_61_code (1 : Nat) (Option.none : Option Jvm.ClassFile.FieldType)) ∈ gT := gT_in (List.mem_of_getElem? (i := 1658) (by decide +kernel)) (by decide +kernel)
theorem dX11_undo_27 : decode cX11_undo 27 = .ok (.aload_n 0, 1) := by decide +kernel
theorem dX11_undo_28 : decode cX11_undo 28 = .ok (.invokevirtual 140, 3) := by decide +kernel
theorem dX11_undo_31 : decode cX11_undo 31 = .ok (.aload_n 0, 1) := by decide +kernel
theorem dX11_undo_32 : decode cX11_undo 32 = .ok (.getfield 108, 3) := by decide +kernel
theorem dX11_undo_35 : decode cX11_undo 35 = .ok (.ireturn, 1) := by decide +kernel
theorem dX11_undo_20 : decode cX11_undo 20 = .ok (.bipush (-5), 2) := by decide +kernel
theorem dX11_undo_22 : decode cX11_undo 22 = .ok (.ireturn, 1) := by decide +kernel
theorem dX11_undo_10 : decode cX11_undo 10 = .ok (.bipush (-2), 2) := by decide +kernel
theorem dX11_undo_12 : decode cX11_undo 12 = .ok (.ireturn, 1) := by decide +kernel
theorem dX11_anew_0 : decode cX11_anew 0 = .ok (.aload_n 0, 1) := by decide +kernel
theorem dX11_anew_1 : decode cX11_anew 1 = .ok (.getfield 20, 3) := by decide +kernel
theorem dX11_anew_4 : decode cX11_anew 4 = .ok (.getfield 165, 3) := by decide +kernel
theorem dX11_anew_7 : decode cX11_anew 7 = .ok (.ifCond .ne 6, 3) := by decide +kernel
theorem dX11_anew_13 : decode cX11_anew 13 = .ok (.aload_n 0, 1) := by decide +kernel
theorem dX11_anew_14 : decode cX11_anew 14 = .ok (.getfield 108, 3) := by decide +kernel
theorem dX11_anew_17 : decode cX11_anew 17 = .ok (.istore_n 1, 1) := by decide +kernel
theorem dX11_anew_18 : decode cX11_anew 18 = .ok (.iconst 0, 1) := by decide +kernel
theorem dX11_anew_19 : decode cX11_anew 19 = .ok (.istore_n 2, 1) := by decide +kernel
theorem dX11_anew_20 : decode cX11_anew 20 = .ok (.iload_n 2, 1) := by decide +kernel
theorem dX11_anew_21 : decode cX11_anew 21 = .ok (.iload_n 1, 1) := by decide +kernel
theorem dX11_anew_22 : decode cX11_anew 22 = .ok (.if_icmp .ge 13, 3) := by decide +kernel
theorem dX11_anew_25 : decode cX11_anew 25 = .ok (.aload_n 0, 1) := by decide +kernel
theorem dX11_anew_26 : decode cX11_anew 26 = .ok (.invokevirtual 375, 3) := by decide +kernel
theorem dX11_anew_29 : decode cX11_anew 29 = .ok (.iinc 2 1, 3) := by decide +kernel
theorem dX11_anew_32 : decode cX11_anew 32 = .ok (.goto (-12), 3) := by decide +kernel
theorem dX11_anew_35 : decode cX11_anew 35 = .ok (.iload_n 1, 1) := by decide +kernel
theorem dX11_anew_36 : decode cX11_anew 36 = .ok (.ifCond .le 7, 3) := by decide +kernel
theorem dX11_anew_43 : decode cX11_anew 43 = .ok (.aload_n 0, 1) := by decide +kernel
theorem dX11_anew_44 : decode cX11_anew 44 = .ok (.getfield 97, 3) := by decide +kernel
theorem dX11_anew_47 : decode cX11_anew 47 = .ok (.invokevirtual 143, 3) := by decide +kernel
theorem dX11_anew_50 : decode cX11_anew 50 = .ok (.iload_n 1, 1) := by decide +kernel
theorem dX11_anew_51 : decode cX11_anew 51 = .ok (.ireturn, 1) := by decide +kernel
theorem dX11_anew_39 : decode cX11_anew 39 = .ok (.aload_n 0, 1) := by decide +kernel
theorem dX11_anew_40 : decode cX11_anew 40 = .ok (.invokevirtual 140, 3) := by decide +kernel
theorem dX11_anew_10 : decode cX11_anew 10 = .ok (.bipush (-2), 2) := by decide +kernel
theorem dX11_anew_12 : decode cX11_anew 12 = .ok (.ireturn, 1) := by decide +kernel
theorem dX11_told_0 : decode cX11_told 0 = .ok (.iload_n 1, 1) := by decide +kernel
theorem dX11_told_1 : decode cX11_told 1 = .ok (.ifCond .ne 8, 3) := by decide +kernel
theorem dX11_told_9 : decode cX11_told 9 = .ok (.iload_n 1, 1) := by decide +kernel
theorem dX11_told_10 : decode cX11_told 10 = .ok (.iconst 1, 1) := by decide +kernel
theorem dX11_told_11 : decode cX11_told 11 = .ok (.if_icmp .ne 10, 3) := by decide +kernel
theorem dX11_told_21 : decode cX11_told 21 = .ok (.iconst (-1), 1) := by decide +kernel
theorem dX11_told_22 : decode cX11_told 22 = .ok (.ireturn, 1) := by decide +kernel
theorem dX11_told_14 : decode cX11_told 14 = .ok (.aload_n 0, 1) := by decide +kernel
theorem dX11_told_15 : decode cX11_told 15 = .ok (.getfield 117, 3) := by decide +kernel
theorem dX11_told_18 : decode cX11_told 18 = .ok (.goto 4, 3) := by decide +kernel
theorem dX11_told_4 : decode cX11_told 4 = .ok (.aload_n 0, 1) := by decide +kernel
theorem dX11_told_5 : decode cX11_told 5 = .ok (.getfield 114, 3) := by decide +kernel
theorem dX11_told_8 : decode cX11_told 8 = .ok (.ireturn, 1) := by decide +kernel
theorem dX11_listing_0 : decode cX11_listing 0 = .ok (.aload_n 0, 1) := by decide +kernel
theorem dX11_listing_1 : decode cX11_listing 1 = .ok (.iload_n 1, 1) := by decide +kernel
theorem dX11_listing_2 : decode cX11_listing 2 = .ok (.iload_n 2, 1) := by decide +kernel
theorem dX11_listing_3 : decode cX11_listing 3 = .ok (.invokevirtual 175, 3) := by decide +kernel
theorem dX11_listing_6 : decode cX11_listing 6 = .ok (.ifCond .ne 6, 3) := by decide +kernel
theorem dX11_listing_12 : decode cX11_listing 12 = .ok (.aload_n 0, 1) := by decide +kernel
theorem dX11_listing_13 : decode cX11_listing 13 = .ok (.getfield 51, 3) := by decide +kernel
theorem dX11_listing_16 : decode cX11_listing 16 = .ok (.iload_n 1, 1) := by decide +kernel
theorem dX11_listing_17 : decode cX11_listing 17 = .ok (.iload_n 2, 1) := by decide +kernel
theorem dX11_listing_18 : decode cX11_listing 18 = .ok (.invokevirtual 206, 3) := by decide +kernel
theorem dX11_listing_21 : decode cX11_listing 21 = .ok (.ldc2_w 249, 3) := by decide +kernel
theorem wm_1268 : (Jvm.Cond.constantLong "GrownKinds" (249 : Nat) (200 : Int64)) ∈ gT := gT_in (List.mem_of_getElem? (i := 1268) (by decide +kernel)) (by decide +kernel)
theorem dX11_listing_24 : decode cX11_listing 24 = .ok (.lcmp, 1) := by decide +kernel
theorem dX11_listing_25 : decode cX11_listing 25 = .ok (.ifCond .le 8, 3) := by decide +kernel
theorem dX11_listing_33 : decode cX11_listing 33 = .ok (.iconst 0, 1) := by decide +kernel
theorem dX11_listing_34 : decode cX11_listing 34 = .ok (.ireturn, 1) := by decide +kernel
theorem dX11_listing_28 : decode cX11_listing 28 = .ok (.bipush (-3), 2) := by decide +kernel
theorem dX11_listing_30 : decode cX11_listing 30 = .ok (.goto 4, 3) := by decide +kernel
theorem dX11_listing_9 : decode cX11_listing 9 = .ok (.bipush (-2), 2) := by decide +kernel
theorem dX11_listing_11 : decode cX11_listing 11 = .ok (.ireturn, 1) := by decide +kernel
theorem dX11_chance_0 : decode cX11_chance 0 = .ok (.aload_n 0, 1) := by decide +kernel
theorem dX11_chance_1 : decode cX11_chance 1 = .ok (.iload_n 1, 1) := by decide +kernel
theorem dX11_chance_2 : decode cX11_chance 2 = .ok (.iload_n 3, 1) := by decide +kernel
theorem dX11_chance_3 : decode cX11_chance 3 = .ok (.invokevirtual 228, 3) := by decide +kernel
theorem dX11_chance_6 : decode cX11_chance 6 = .ok (.ifCond .eq 14, 3) := by decide +kernel
theorem dX11_chance_20 : decode cX11_chance 20 = .ok (.bipush (-2), 2) := by decide +kernel
theorem dX11_chance_22 : decode cX11_chance 22 = .ok (.ireturn, 1) := by decide +kernel
theorem dX11_chance_9 : decode cX11_chance 9 = .ok (.iload 4, 2) := by decide +kernel
theorem dX11_chance_11 : decode cX11_chance 11 = .ok (.ifCond .lt 9, 3) := by decide +kernel
theorem dX11_chance_14 : decode cX11_chance 14 = .ok (.iload 4, 2) := by decide +kernel
theorem dX11_chance_16 : decode cX11_chance 16 = .ok (.iconst 1, 1) := by decide +kernel
theorem dX11_chance_17 : decode cX11_chance 17 = .ok (.if_icmp .le 6, 3) := by decide +kernel
theorem dX11_chance_23 : decode cX11_chance 23 = .ok (.aload_n 0, 1) := by decide +kernel
theorem dX11_chance_24 : decode cX11_chance 24 = .ok (.iload_n 1, 1) := by decide +kernel
theorem dX11_chance_25 : decode cX11_chance 25 = .ok (.iload_n 2, 1) := by decide +kernel
theorem dX11_chance_26 : decode cX11_chance 26 = .ok (.invokevirtual 251, 3) := by decide +kernel
theorem wm_1264 : (Jvm.Cond.methodLink "GrownKinds" (251 : Nat) ({ cls := "GrownKinds", name := "listing", desc := "(II)I" } : Jvm.MethodName)) ∈ gT := gT_in (List.mem_of_getElem? (i := 1264) (by decide +kernel)) (by decide +kernel)
theorem wm_1266 : (Jvm.Cond.instanceMethod ({ cls := "GrownKinds", name := "listing", desc := "(II)I" } : Jvm.MethodName)) ∈ gT := gT_in (List.mem_of_getElem? (i := 1266) (by decide +kernel)) (by decide +kernel)
theorem wm_55 : Cond.selects "GrownKinds" ⟨"GrownKinds", "listing", "(II)I"⟩ ⟨"GrownKinds", "listing", "(II)I"⟩ ∈ gT := gT_in (List.mem_of_getElem? (i := 55) (by decide +kernel)) (by decide +kernel)
theorem wm_1267 : (Jvm.Cond.code ({ cls := "GrownKinds", name := "listing", desc := "(II)I" } : Jvm.MethodName) prog_1_method_32_code (3 : Nat) (Option.some Jvm.ClassFile.FieldType.int)) ∈ gT := gT_in (List.mem_of_getElem? (i := 1267) (by decide +kernel)) (by decide +kernel)
theorem dX11_chance_29 : decode cX11_chance 29 = .ok (.istore 5, 2) := by decide +kernel
theorem dX11_chance_31 : decode cX11_chance 31 = .ok (.iload 5, 2) := by decide +kernel
theorem dX11_chance_33 : decode cX11_chance 33 = .ok (.ifCond .eq 6, 3) := by decide +kernel
theorem dX11_chance_39 : decode cX11_chance 39 = .ok (.aload_n 0, 1) := by decide +kernel
theorem dX11_chance_40 : decode cX11_chance 40 = .ok (.getfield 51, 3) := by decide +kernel
theorem dX11_chance_43 : decode cX11_chance 43 = .ok (.iload_n 1, 1) := by decide +kernel
theorem dX11_chance_44 : decode cX11_chance 44 = .ok (.iload_n 3, 1) := by decide +kernel
theorem dX11_chance_45 : decode cX11_chance 45 = .ok (.iload_n 2, 1) := by decide +kernel
theorem dX11_chance_46 : decode cX11_chance 46 = .ok (.invokevirtual 231, 3) := by decide +kernel
theorem dX11_chance_49 : decode cX11_chance 49 = .ok (.l2i, 1) := by decide +kernel
theorem dX11_chance_50 : decode cX11_chance 50 = .ok (.aload_n 0, 1) := by decide +kernel
theorem dX11_chance_51 : decode cX11_chance 51 = .ok (.getfield 51, 3) := by decide +kernel
theorem dX11_chance_54 : decode cX11_chance 54 = .ok (.iload_n 1, 1) := by decide +kernel
theorem dX11_chance_55 : decode cX11_chance 55 = .ok (.iload_n 2, 1) := by decide +kernel
theorem dX11_chance_56 : decode cX11_chance 56 = .ok (.invokevirtual 206, 3) := by decide +kernel
theorem dX11_chance_59 : decode cX11_chance 59 = .ok (.l2i, 1) := by decide +kernel
theorem dX11_chance_60 : decode cX11_chance 60 = .ok (.iload 4, 2) := by decide +kernel
theorem dX11_chance_62 : decode cX11_chance 62 = .ok (.invokestatic 326, 3) := by decide +kernel
theorem wm_1577 : (Jvm.Cond.methodLink "GrownKinds" (326 : Nat) ({ cls := "GrownKinds", name := "lowest", desc := "(III)I" } : Jvm.MethodName)) ∈ gT := gT_in (List.mem_of_getElem? (i := 1577) (by decide +kernel)) (by decide +kernel)
theorem wm_1578 : (Jvm.Cond.static ({ cls := "GrownKinds", name := "lowest", desc := "(III)I" } : Jvm.MethodName)) ∈ gT := gT_in (List.mem_of_getElem? (i := 1578) (by decide +kernel)) (by decide +kernel)
theorem wm_1579 : (Jvm.Cond.code ({ cls := "GrownKinds", name := "lowest", desc := "(III)I" } : Jvm.MethodName) prog_1_method_51_code (7 : Nat) (Option.some Jvm.ClassFile.FieldType.int)) ∈ gT := gT_in (List.mem_of_getElem? (i := 1579) (by decide +kernel)) (by decide +kernel)
theorem dX11_lowest_0 : decode cX11_lowest 0 = .ok (.iload_n 1, 1) := by decide +kernel
theorem dX11_lowest_1 : decode cX11_lowest 1 = .ok (.iconst 1, 1) := by decide +kernel
theorem dX11_lowest_2 : decode cX11_lowest 2 = .ok (.if_icmp .ge 5, 3) := by decide +kernel
theorem dX11_lowest_7 : decode cX11_lowest 7 = .ok (.iload_n 1, 1) := by decide +kernel
theorem dX11_lowest_8 : decode cX11_lowest 8 = .ok (.istore_n 3, 1) := by decide +kernel
theorem dX11_lowest_9 : decode cX11_lowest 9 = .ok (.iload_n 0, 1) := by decide +kernel
theorem dX11_lowest_10 : decode cX11_lowest 10 = .ok (.istore 4, 2) := by decide +kernel
theorem dX11_lowest_12 : decode cX11_lowest 12 = .ok (.iconst 0, 1) := by decide +kernel
theorem dX11_lowest_13 : decode cX11_lowest 13 = .ok (.istore 5, 2) := by decide +kernel
theorem dX11_lowest_15 : decode cX11_lowest 15 = .ok (.iload 5, 2) := by decide +kernel
theorem dX11_lowest_17 : decode cX11_lowest 17 = .ok (.bipush 64, 2) := by decide +kernel
theorem dX11_lowest_19 : decode cX11_lowest 19 = .ok (.if_icmp .ge 27, 3) := by decide +kernel
theorem dX11_lowest_22 : decode cX11_lowest 22 = .ok (.iload 4, 2) := by decide +kernel
theorem dX11_lowest_24 : decode cX11_lowest 24 = .ok (.ifCond .le 22, 3) := by decide +kernel
theorem dX11_lowest_27 : decode cX11_lowest 27 = .ok (.iload_n 3, 1) := by decide +kernel
theorem dX11_lowest_28 : decode cX11_lowest 28 = .ok (.iload 4, 2) := by decide +kernel
theorem dX11_lowest_30 : decode cX11_lowest 30 = .ok (.irem, 1) := by decide +kernel
theorem dX11_lowest_31 : decode cX11_lowest 31 = .ok (.istore 6, 2) := by decide +kernel
theorem dX11_lowest_33 : decode cX11_lowest 33 = .ok (.iload 4, 2) := by decide +kernel
theorem dX11_lowest_35 : decode cX11_lowest 35 = .ok (.istore_n 3, 1) := by decide +kernel
theorem dX11_lowest_36 : decode cX11_lowest 36 = .ok (.iload 6, 2) := by decide +kernel
theorem dX11_lowest_38 : decode cX11_lowest 38 = .ok (.istore 4, 2) := by decide +kernel
theorem dX11_lowest_40 : decode cX11_lowest 40 = .ok (.iinc 5 1, 3) := by decide +kernel
theorem dX11_lowest_43 : decode cX11_lowest 43 = .ok (.goto (-28), 3) := by decide +kernel
theorem dX11_lowest_46 : decode cX11_lowest 46 = .ok (.iload_n 3, 1) := by decide +kernel
theorem dX11_lowest_47 : decode cX11_lowest 47 = .ok (.iconst 1, 1) := by decide +kernel
theorem dX11_lowest_48 : decode cX11_lowest 48 = .ok (.if_icmp .ge 7, 3) := by decide +kernel
theorem dX11_lowest_55 : decode cX11_lowest 55 = .ok (.iload_n 2, 1) := by decide +kernel
theorem dX11_lowest_56 : decode cX11_lowest 56 = .ok (.ifCond .ne 7, 3) := by decide +kernel
theorem dX11_lowest_63 : decode cX11_lowest 63 = .ok (.iload_n 1, 1) := by decide +kernel
theorem dX11_lowest_64 : decode cX11_lowest 64 = .ok (.iload_n 3, 1) := by decide +kernel
theorem dX11_lowest_65 : decode cX11_lowest 65 = .ok (.idiv, 1) := by decide +kernel
theorem dX11_lowest_66 : decode cX11_lowest 66 = .ok (.ireturn, 1) := by decide +kernel
theorem dX11_lowest_59 : decode cX11_lowest 59 = .ok (.iload_n 0, 1) := by decide +kernel
theorem dX11_lowest_60 : decode cX11_lowest 60 = .ok (.goto 4, 3) := by decide +kernel
theorem dX11_lowest_51 : decode cX11_lowest 51 = .ok (.iconst (-1), 1) := by decide +kernel
theorem dX11_lowest_52 : decode cX11_lowest 52 = .ok (.goto 14, 3) := by decide +kernel
theorem dX11_lowest_5 : decode cX11_lowest 5 = .ok (.iconst (-1), 1) := by decide +kernel
theorem dX11_lowest_6 : decode cX11_lowest 6 = .ok (.ireturn, 1) := by decide +kernel
theorem dX11_chance_65 : decode cX11_chance 65 = .ok (.ireturn, 1) := by decide +kernel
theorem dX11_chance_36 : decode cX11_chance 36 = .ok (.iload 5, 2) := by decide +kernel
theorem dX11_chance_38 : decode cX11_chance 38 = .ok (.ireturn, 1) := by decide +kernel
def mX11_putFour_3 (a1 : Int) : Nat → Int → St → Option (St)
  | 0, _, _ => none
  | f + 1, v_1, S_2 => gd (inI v_1) <| if v_1 < 0 then (some (S_2)) else (gd (inI (S_2 0 1)) <| if 400 ≤ (S_2 0 1) then (some (S_2)) else (gd ((0 ≤ (S_2 0 1) ∧ (S_2 0 1) < 400) ∧ (-128 ≤ (s8 (ush a1 v_1)) ∧ (s8 (ush a1 v_1)) ≤ 127)) <| nx (up S_2 1 (S_2 0 1) (s8 (ush a1 v_1))) fun S_14 => nx (up S_14 0 1 ((S_14 0 1) + 1)) fun S_15 => mX11_putFour_3 a1 f (v_1 - 8) S_15))
def mX11_putFour (S0 : St) (a1 : Int) : Option (St) := bd1 (mX11_putFour_3 a1 FU 24 S0) fun S_3 => some (S_3)
set_option maxHeartbeats 4000000 in
set_option maxRecDepth 100000 in
theorem vX11_putFour (l : Launch) {D : va_G} {cy : Nat → ClassId} {b n : Nat} (hn : 102 ≤ n) {X : Nat → va_E} {S0 : St} (a1 : Int) {o1 : St} (hM : mX11_putFour S0 a1 = some o1) : gV l yX11_putFour cX11_putFour 3 0 0 0 D cy b n (enc b cy X S0) [.ref (b + 0), .int (iI a1)] (fun u => u = (n, enc b cy X o1)) := by
  refine gV_of (by decide) (Nat.le_of_ble_eq_true rfl) ?_
  intro p e s m args below meth c S hr hlk hin hsz ls hl hG
  have hx := S.1
  have hb := S.2.1
  have hl : lv_has ls 3 [(0, .ref (b + 0)), (1, .int (iI a1))] := hl
  replace hG : gW D cy b n s s.heap [] (enc b cy X S0) := hG
  obtain ⟨H, eH⟩ : ∃ H, H = s.heap := ⟨_, rfl⟩
  obtain ⟨locs, elocs⟩ : ∃ locs : List Loc, locs = [] := ⟨_, rfl⟩
  rw [← eH, ← elocs] at hG
  rw [← eH, ← elocs]
  clear eH elocs
  unfold mX11_putFour at hM
  refine lv_bipush (v := iI 24) hx hb dX11_putFour_0 (by decide) ?_
  refine lv_istore_n (lv' := [(2, .int (iI 24)), (0, .ref (b + 0)), (1, .int (iI a1))]) hx hb dX11_putFour_2 rfl hl (by decide) rfl (fun ls hl => ?_)
  obtain ⟨S_3, hc_4, hM⟩ := bd1_some hM
  have hK_5 : ∀ (H : Heap) (locs : List Loc) (ls : Array Slot), gW D cy b n s H locs (enc b cy X S_3) → lv_has ls 3 [] → W p l e (gRm 0 0 0) s m args below meth c H locs 0 0 (gQV D cy b s args below 0 0 (fun u => u = (n, enc b cy X o1))) (F0 m 46 ls []) := by
    intro H locs ls hG hl
    cases hM
    exact g_vret S hr hlk hG hsz dX11_putFour_46 ⟨Nat.le_of_ble_eq_true rfl, Nat.le_of_ble_eq_true rfl⟩ rfl
  have loop_6 : ∀ (f : Nat) (v_1 : Int) (S_2 : St) (H : Heap) (locs : List Loc) (ls : Array Slot), mX11_putFour_3 a1 f v_1 S_2 = some S_3 → gW D cy b n s H locs (enc b cy X S_2) → lv_has ls 3 [(2, .int (iI v_1)), (0, .ref (b + 0)), (1, .int (iI a1))] → W p l e (gRm 0 0 0) s m args below meth c H locs 0 0 (gQV D cy b s args below 0 0 (fun u => u = (n, enc b cy X o1))) (F0 m 3 ls []) := by
    clear hM
    intro f
    induction f with
    | zero => intro v_1 S_2 H locs ls hM; rw [mX11_putFour_3] at hM; cases hM
    | succ f_8 ih_7 =>
      intro v_1 S_2 H locs ls hM hG hl
      rw [mX11_putFour_3] at hM
      refine lv_iload_n hx hb dX11_putFour_3 rfl (lv_at hl 0 rfl) ?_
      obtain ⟨hg_9, hM⟩ := gd_some hM
      refine gi_if_lt (tgt := 46) hx hb dX11_putFour_4 (by decide) hg_9 (fun c_10 => ?_) (fun c_10 => ?_)
      · replace hM := ifp hM c_10
        cases hM
        exact hK_5 H locs ls hG (lv_sub hl [] rfl)
      · replace hM := ifn hM c_10
        refine lv_aload_n hx hb dX11_putFour_7 rfl (lv_at hl 1 rfl) ?_
        refine m_get S hG 0 0 1 rfl ec_0 cpX11 wm_666 dX11_putFour_8 rfl (Nat.lt_of_lt_of_le (Nat.le_of_ble_eq_true rfl) hn) (by decide) ?_
        refine lv_sipush (v := iI 400) hx hb dX11_putFour_11 (by decide) ?_
        obtain ⟨hg_11, hM⟩ := gd_some hM
        refine gi_icmp_ge (tgt := 46) hx hb dX11_putFour_14 (by decide) hg_11 (by decide) (fun c_12 => ?_) (fun c_12 => ?_)
        · replace hM := ifp hM c_12
          cases hM
          exact hK_5 H locs ls hG (lv_sub hl [] rfl)
        · replace hM := ifn hM c_12
          refine lv_aload_n hx hb dX11_putFour_17 rfl (lv_at hl 1 rfl) ?_
          refine m_get S hG 0 0 0 rfl ec_0 cpX11 wm_665 dX11_putFour_18 rfl (Nat.lt_of_lt_of_le (Nat.le_of_ble_eq_true rfl) hn) (by decide) ?_
          refine lv_aload_n hx hb dX11_putFour_21 rfl (lv_at hl 1 rfl) ?_
          refine m_get S hG 0 0 1 rfl ec_0 cpX11 wm_666 dX11_putFour_22 rfl (Nat.lt_of_lt_of_le (Nat.le_of_ble_eq_true rfl) hn) (by decide) ?_
          refine lv_iload_n hx hb dX11_putFour_25 rfl (lv_at hl 2 rfl) ?_
          refine lv_iload_n hx hb dX11_putFour_26 rfl (lv_at hl 0 rfl) ?_
          refine gi_ushr hx hb dX11_putFour_27 ?_
          refine gi_i2b hx hb dX11_putFour_28 ?_
          obtain ⟨hg_13, hM⟩ := gd_some hM
          refine mb_ast S hG 1 1 rfl ec_1 (Nat.lt_of_lt_of_le (Nat.le_of_ble_eq_true rfl) hn) dX11_putFour_29 hg_13.1 (by decide) (nar8 hg_13.2) (fun H locs S_14 eS_14 hG => ?_)
          replace hM := nx_at hM eS_14
          clear eS_14
          refine lv_aload_n hx hb dX11_putFour_30 rfl (lv_at hl 1 rfl) ?_
          refine lv_dup hx hb dX11_putFour_31 rfl ?_
          refine m_get S hG 0 0 1 rfl ec_0 cpX11 wm_666 dX11_putFour_32 rfl (Nat.lt_of_lt_of_le (Nat.le_of_ble_eq_true rfl) hn) (by decide) ?_
          refine lv_iconst (v := iI 1) hx hb dX11_putFour_35 (by decide) ?_
          refine gi_add hx hb dX11_putFour_36 ?_
          refine m_put S hG 0 0 1 rfl 1 ((S_14 0 1) + 1) ec_0 cpX11 wm_666 dX11_putFour_37 (pf_0_1) (Nat.lt_of_lt_of_le (Nat.le_of_ble_eq_true rfl) hn) (by decide) (Nat.le_of_ble_eq_true rfl) rfl rfl rfl (fun H locs S_15 eS_15 hG => ?_)
          replace hM := nx_at hM eS_15
          clear eS_15
          refine lv_iinc (v := iI (v_1 - 8)) (lv' := [(2, .int (iI (v_1 - 8))), (0, .ref (b + 0)), (1, .int (iI a1))]) hx hb dX11_putFour_40 hl (k := 0) rfl ((iI_add v_1 (-8)).trans (congrArg iI (by omega))) (by decide) rfl (fun ls hl => ?_)
          refine lv_goto (tgt := 3) hx hb dX11_putFour_43 (by decide) ?_
          exact ih_7 (v_1 - 8) S_15 H locs ls hM hG (lv_sub hl [0, 1, 2] rfl)
  exact loop_6 FU 24 S0 H locs ls hc_4 hG (lv_sub hl [0, 1, 2] rfl)
theorem wV_11_120 : gWV "GrownKinds" 120 yX11_putFour cX11_putFour 3 none := ⟨wm_727, wm_729, wm_0, wm_177, wm_730, by decide +kernel, by decide +kernel⟩
def mX11_feed (S0 : St) (a1 : Int) (a2 : Int) (a3 : Int) (a4 : Int) (a5 : Int) : Option (Int × St) := gd (inI ((S0 0 1) + 20)) <| if ((S0 0 1) + 20) ≤ 400 then (bd1 (mX11_putFour S0 a1) fun S_4 => bd1 (mX11_putFour S_4 a2) fun S_6 => bd1 (mX11_putFour S_6 a3) fun S_8 => bd1 (mX11_putFour S_8 a4) fun S_10 => bd1 (mX11_putFour S_10 a5) fun S_12 => some ((S_12 0 1), S_12)) else (some ((-1), S0))
set_option maxHeartbeats 4000000 in
set_option maxRecDepth 100000 in
theorem vX11_feed (l : Launch) {D : va_G} {cy : Nat → ClassId} {b n : Nat} (hn : 102 ≤ n) {X : Nat → va_E} {S0 : St} (a1 : Int) (a2 : Int) (a3 : Int) (a4 : Int) (a5 : Int) {o1 : Int} {o2 : St} (hM : mX11_feed S0 a1 a2 a3 a4 a5 = some (o1, o2)) : gI l yX11_feed cX11_feed 6 (some .int) 1 0 0 D cy b n (enc b cy X S0) [.ref (b + 0), .int (iI a1), .int (iI a2), .int (iI a3), .int (iI a4), .int (iI a5)] (fun r u => r = iI o1 ∧ u = (n, enc b cy X o2)) := by
  refine gI_of (by decide) (Nat.le_of_ble_eq_true rfl) ?_
  intro p e s m args below meth c S hr hlk hin hsz ls hl hG
  have hx := S.1
  have hb := S.2.1
  have hl : lv_has ls 6 [(0, .ref (b + 0)), (1, .int (iI a1)), (2, .int (iI a2)), (3, .int (iI a3)), (4, .int (iI a4)), (5, .int (iI a5))] := hl
  replace hG : gW D cy b n s s.heap [] (enc b cy X S0) := hG
  obtain ⟨H, eH⟩ : ∃ H, H = s.heap := ⟨_, rfl⟩
  obtain ⟨locs, elocs⟩ : ∃ locs : List Loc, locs = [] := ⟨_, rfl⟩
  rw [← eH, ← elocs] at hG
  rw [← eH, ← elocs]
  clear eH elocs
  unfold mX11_feed at hM
  refine lv_aload_n hx hb dX11_feed_0 rfl (lv_at hl 0 rfl) ?_
  refine m_get S hG 0 0 1 rfl ec_0 cpX11 wm_666 dX11_feed_1 rfl (Nat.lt_of_lt_of_le (Nat.le_of_ble_eq_true rfl) hn) (by decide) ?_
  refine lv_bipush (v := iI 20) hx hb dX11_feed_4 (by decide) ?_
  refine gi_add hx hb dX11_feed_6 ?_
  refine lv_sipush (v := iI 400) hx hb dX11_feed_7 (by decide) ?_
  obtain ⟨hg_1, hM⟩ := gd_some hM
  refine gi_icmp_le (tgt := 15) hx hb dX11_feed_10 (by decide) hg_1 (by decide) (fun c_2 => ?_) (fun c_2 => ?_)
  · replace hM := ifp hM c_2
    refine lv_aload_n hx hb dX11_feed_15 rfl (lv_at hl 0 rfl) ?_
    refine lv_iload_n hx hb dX11_feed_16 rfl (lv_at hl 1 rfl) ?_
    obtain ⟨S_4, hc_3, hM⟩ := bd1_some hM
    refine g_vv (As := [.int (iI a1)]) (rest := []) S hG hsz (vX11_putFour l hn a1 hc_3) wV_11_120 (ec_0 _) cpX11 (Nat.lt_of_lt_of_le (Nat.le_of_ble_eq_true rfl) hn) dX11_feed_17 rfl hl.1 (ar := 1) (by decide +kernel) rfl ⟨Nat.le_of_ble_eq_true rfl, Nat.le_of_ble_eq_true rfl, Nat.le_of_ble_eq_true rfl, Nat.le_of_ble_eq_true rfl⟩ (Nat.le_of_ble_eq_true rfl) (fun uu H locs hp hG => ?_)
    obtain rfl := hp
    replace hG : gW D cy b n s H locs (enc b cy X S_4) := hG
    refine lv_aload_n hx hb dX11_feed_20 rfl (lv_at hl 0 rfl) ?_
    refine lv_iload_n hx hb dX11_feed_21 rfl (lv_at hl 2 rfl) ?_
    obtain ⟨S_6, hc_5, hM⟩ := bd1_some hM
    refine g_vv (As := [.int (iI a2)]) (rest := []) S hG hsz (vX11_putFour l hn a2 hc_5) wV_11_120 (ec_0 _) cpX11 (Nat.lt_of_lt_of_le (Nat.le_of_ble_eq_true rfl) hn) dX11_feed_22 rfl hl.1 (ar := 1) (by decide +kernel) rfl ⟨Nat.le_of_ble_eq_true rfl, Nat.le_of_ble_eq_true rfl, Nat.le_of_ble_eq_true rfl, Nat.le_of_ble_eq_true rfl⟩ (Nat.le_of_ble_eq_true rfl) (fun uu H locs hp hG => ?_)
    obtain rfl := hp
    replace hG : gW D cy b n s H locs (enc b cy X S_6) := hG
    refine lv_aload_n hx hb dX11_feed_25 rfl (lv_at hl 0 rfl) ?_
    refine lv_iload_n hx hb dX11_feed_26 rfl (lv_at hl 3 rfl) ?_
    obtain ⟨S_8, hc_7, hM⟩ := bd1_some hM
    refine g_vv (As := [.int (iI a3)]) (rest := []) S hG hsz (vX11_putFour l hn a3 hc_7) wV_11_120 (ec_0 _) cpX11 (Nat.lt_of_lt_of_le (Nat.le_of_ble_eq_true rfl) hn) dX11_feed_27 rfl hl.1 (ar := 1) (by decide +kernel) rfl ⟨Nat.le_of_ble_eq_true rfl, Nat.le_of_ble_eq_true rfl, Nat.le_of_ble_eq_true rfl, Nat.le_of_ble_eq_true rfl⟩ (Nat.le_of_ble_eq_true rfl) (fun uu H locs hp hG => ?_)
    obtain rfl := hp
    replace hG : gW D cy b n s H locs (enc b cy X S_8) := hG
    refine lv_aload_n hx hb dX11_feed_30 rfl (lv_at hl 0 rfl) ?_
    refine lv_iload hx hb dX11_feed_31 (lv_at hl 4 rfl) ?_
    obtain ⟨S_10, hc_9, hM⟩ := bd1_some hM
    refine g_vv (As := [.int (iI a4)]) (rest := []) S hG hsz (vX11_putFour l hn a4 hc_9) wV_11_120 (ec_0 _) cpX11 (Nat.lt_of_lt_of_le (Nat.le_of_ble_eq_true rfl) hn) dX11_feed_33 rfl hl.1 (ar := 1) (by decide +kernel) rfl ⟨Nat.le_of_ble_eq_true rfl, Nat.le_of_ble_eq_true rfl, Nat.le_of_ble_eq_true rfl, Nat.le_of_ble_eq_true rfl⟩ (Nat.le_of_ble_eq_true rfl) (fun uu H locs hp hG => ?_)
    obtain rfl := hp
    replace hG : gW D cy b n s H locs (enc b cy X S_10) := hG
    refine lv_aload_n hx hb dX11_feed_36 rfl (lv_at hl 0 rfl) ?_
    refine lv_iload hx hb dX11_feed_37 (lv_at hl 5 rfl) ?_
    obtain ⟨S_12, hc_11, hM⟩ := bd1_some hM
    refine g_vv (As := [.int (iI a5)]) (rest := []) S hG hsz (vX11_putFour l hn a5 hc_11) wV_11_120 (ec_0 _) cpX11 (Nat.lt_of_lt_of_le (Nat.le_of_ble_eq_true rfl) hn) dX11_feed_39 rfl hl.1 (ar := 1) (by decide +kernel) rfl ⟨Nat.le_of_ble_eq_true rfl, Nat.le_of_ble_eq_true rfl, Nat.le_of_ble_eq_true rfl, Nat.le_of_ble_eq_true rfl⟩ (Nat.le_of_ble_eq_true rfl) (fun uu H locs hp hG => ?_)
    obtain rfl := hp
    replace hG : gW D cy b n s H locs (enc b cy X S_12) := hG
    refine lv_aload_n hx hb dX11_feed_42 rfl (lv_at hl 0 rfl) ?_
    refine m_get S hG 0 0 1 rfl ec_0 cpX11 wm_666 dX11_feed_43 rfl (Nat.lt_of_lt_of_le (Nat.le_of_ble_eq_true rfl) hn) (by decide) ?_
    cases hM
    exact g_iret S hr hlk hG hsz dX11_feed_46 ⟨Nat.le_of_ble_eq_true rfl, Nat.le_of_ble_eq_true rfl⟩ ⟨rfl, rfl⟩
  · replace hM := ifn hM c_2
    refine lv_iconst (v := iI (-1)) hx hb dX11_feed_13 (by decide) ?_
    cases hM
    exact g_iret S hr hlk hG hsz dX11_feed_14 ⟨Nat.le_of_ble_eq_true rfl, Nat.le_of_ble_eq_true rfl⟩ ⟨rfl, rfl⟩
def mX11_end (S0 : St) (a1 : Int) : Option (Int × St) := gd (inI a1) <| if a1 < 0 then (some ((-1), S0)) else (gd (inI (S0 0 1)) <| if a1 ≤ (S0 0 1) then (nx (up S0 0 1 a1) fun S_5 => some (a1, S_5)) else (some ((-1), S0)))
set_option maxHeartbeats 4000000 in
set_option maxRecDepth 100000 in
theorem vX11_end (l : Launch) {D : va_G} {cy : Nat → ClassId} {b n : Nat} (hn : 102 ≤ n) {X : Nat → va_E} {S0 : St} (a1 : Int) {o1 : Int} {o2 : St} (hM : mX11_end S0 a1 = some (o1, o2)) : gI l yX11_end cX11_end 2 (some .int) 0 0 0 D cy b n (enc b cy X S0) [.ref (b + 0), .int (iI a1)] (fun r u => r = iI o1 ∧ u = (n, enc b cy X o2)) := by
  refine gI_of (by decide) (Nat.le_of_ble_eq_true rfl) ?_
  intro p e s m args below meth c S hr hlk hin hsz ls hl hG
  have hx := S.1
  have hb := S.2.1
  have hl : lv_has ls 2 [(0, .ref (b + 0)), (1, .int (iI a1))] := hl
  replace hG : gW D cy b n s s.heap [] (enc b cy X S0) := hG
  obtain ⟨H, eH⟩ : ∃ H, H = s.heap := ⟨_, rfl⟩
  obtain ⟨locs, elocs⟩ : ∃ locs : List Loc, locs = [] := ⟨_, rfl⟩
  rw [← eH, ← elocs] at hG
  rw [← eH, ← elocs]
  clear eH elocs
  unfold mX11_end at hM
  refine lv_iload_n hx hb dX11_end_0 rfl (lv_at hl 1 rfl) ?_
  obtain ⟨hg_1, hM⟩ := gd_some hM
  refine gi_if_lt (tgt := 12) hx hb dX11_end_1 (by decide) hg_1 (fun c_2 => ?_) (fun c_2 => ?_)
  · replace hM := ifp hM c_2
    refine lv_iconst (v := iI (-1)) hx hb dX11_end_12 (by decide) ?_
    cases hM
    exact g_iret S hr hlk hG hsz dX11_end_13 ⟨Nat.le_of_ble_eq_true rfl, Nat.le_of_ble_eq_true rfl⟩ ⟨rfl, rfl⟩
  · replace hM := ifn hM c_2
    refine lv_iload_n hx hb dX11_end_4 rfl (lv_at hl 1 rfl) ?_
    refine lv_aload_n hx hb dX11_end_5 rfl (lv_at hl 0 rfl) ?_
    refine m_get S hG 0 0 1 rfl ec_0 cpX11 wm_666 dX11_end_6 rfl (Nat.lt_of_lt_of_le (Nat.le_of_ble_eq_true rfl) hn) (by decide) ?_
    obtain ⟨hg_3, hM⟩ := gd_some hM
    refine gi_icmp_le (tgt := 14) hx hb dX11_end_9 (by decide) hg_1 hg_3 (fun c_4 => ?_) (fun c_4 => ?_)
    · replace hM := ifp hM c_4
      refine lv_aload_n hx hb dX11_end_14 rfl (lv_at hl 0 rfl) ?_
      refine lv_iload_n hx hb dX11_end_15 rfl (lv_at hl 1 rfl) ?_
      refine m_put S hG 0 0 1 rfl 1 a1 ec_0 cpX11 wm_666 dX11_end_16 (pf_0_1) (Nat.lt_of_lt_of_le (Nat.le_of_ble_eq_true rfl) hn) (by decide) (Nat.le_of_ble_eq_true rfl) rfl rfl rfl (fun H locs S_5 eS_5 hG => ?_)
      replace hM := nx_at hM eS_5
      clear eS_5
      refine lv_iload_n hx hb dX11_end_19 rfl (lv_at hl 1 rfl) ?_
      cases hM
      exact g_iret S hr hlk hG hsz dX11_end_20 ⟨Nat.le_of_ble_eq_true rfl, Nat.le_of_ble_eq_true rfl⟩ ⟨rfl, rfl⟩
    · replace hM := ifn hM c_4
      refine lv_iconst (v := iI (-1)) hx hb dX11_end_12 (by decide) ?_
      cases hM
      exact g_iret S hr hlk hG hsz dX11_end_13 ⟨Nat.le_of_ble_eq_true rfl, Nat.le_of_ble_eq_true rfl⟩ ⟨rfl, rfl⟩
def mX11_fault (S0 : St) (a1 : Int) : Option (Int) := gd (inI a1) <| if a1 = 0 then (some ((S0 0 4))) else (if a1 = 1 then (some ((S0 0 5))) else (some ((-1))))
set_option maxHeartbeats 4000000 in
set_option maxRecDepth 100000 in
theorem vX11_fault (l : Launch) {D : va_G} {cy : Nat → ClassId} {b n : Nat} (hn : 102 ≤ n) {X : Nat → va_E} {S0 : St} (a1 : Int) {o1 : Int} (hM : mX11_fault S0 a1 = some o1) : gI l yX11_fault cX11_fault 2 (some .int) 0 0 0 D cy b n (enc b cy X S0) [.ref (b + 0), .int (iI a1)] (fun r u => r = iI o1 ∧ u = (n, enc b cy X S0)) := by
  refine gI_of (by decide) (Nat.le_of_ble_eq_true rfl) ?_
  intro p e s m args below meth c S hr hlk hin hsz ls hl hG
  have hx := S.1
  have hb := S.2.1
  have hl : lv_has ls 2 [(0, .ref (b + 0)), (1, .int (iI a1))] := hl
  replace hG : gW D cy b n s s.heap [] (enc b cy X S0) := hG
  obtain ⟨H, eH⟩ : ∃ H, H = s.heap := ⟨_, rfl⟩
  obtain ⟨locs, elocs⟩ : ∃ locs : List Loc, locs = [] := ⟨_, rfl⟩
  rw [← eH, ← elocs] at hG
  rw [← eH, ← elocs]
  clear eH elocs
  unfold mX11_fault at hM
  refine lv_iload_n hx hb dX11_fault_0 rfl (lv_at hl 1 rfl) ?_
  obtain ⟨hg_1, hM⟩ := gd_some hM
  refine gi_if_ne (tgt := 9) hx hb dX11_fault_1 (by decide) hg_1 (fun c_2 => ?_) (fun c_2 => ?_)
  · replace hM := ifn hM c_2
    refine lv_iload_n hx hb dX11_fault_9 rfl (lv_at hl 1 rfl) ?_
    refine lv_iconst (v := iI 1) hx hb dX11_fault_10 (by decide) ?_
    refine gi_icmp_ne (tgt := 21) hx hb dX11_fault_11 (by decide) hg_1 (by decide) (fun c_3 => ?_) (fun c_3 => ?_)
    · replace hM := ifn hM c_3
      refine lv_iconst (v := iI (-1)) hx hb dX11_fault_21 (by decide) ?_
      cases hM
      exact g_iret S hr hlk hG hsz dX11_fault_22 ⟨Nat.le_of_ble_eq_true rfl, Nat.le_of_ble_eq_true rfl⟩ ⟨rfl, rfl⟩
    · replace hM := ifp hM c_3
      refine lv_aload_n hx hb dX11_fault_14 rfl (lv_at hl 0 rfl) ?_
      refine m_get S hG 0 0 5 rfl ec_0 cpX11 wm_670 dX11_fault_15 rfl (Nat.lt_of_lt_of_le (Nat.le_of_ble_eq_true rfl) hn) (by decide) ?_
      refine lv_goto (tgt := 22) hx hb dX11_fault_18 (by decide) ?_
      cases hM
      exact g_iret S hr hlk hG hsz dX11_fault_22 ⟨Nat.le_of_ble_eq_true rfl, Nat.le_of_ble_eq_true rfl⟩ ⟨rfl, rfl⟩
  · replace hM := ifp hM c_2
    refine lv_aload_n hx hb dX11_fault_4 rfl (lv_at hl 0 rfl) ?_
    refine m_get S hG 0 0 4 rfl ec_0 cpX11 wm_669 dX11_fault_5 rfl (Nat.lt_of_lt_of_le (Nat.le_of_ble_eq_true rfl) hn) (by decide) ?_
    cases hM
    exact g_iret S hr hlk hG hsz dX11_fault_8 ⟨Nat.le_of_ble_eq_true rfl, Nat.le_of_ble_eq_true rfl⟩ ⟨rfl, rfl⟩
def mX11_count (S0 : St) (a1 : Int) : Option (Int) := gd (inI a1) <| if a1 = 0 then (some ((S0 2 1))) else (if a1 = 1 then (some ((S0 2 0))) else (if a1 = 2 then (some ((S0 2 3))) else (if a1 = 3 then (some ((S0 2 2))) else (if a1 = 4 then (some ((S0 0 15))) else (if a1 = 5 then (some ((S0 0 1))) else (some ((-1))))))))
set_option maxHeartbeats 4000000 in
set_option maxRecDepth 100000 in
theorem vX11_count (l : Launch) {D : va_G} {cy : Nat → ClassId} {b n : Nat} (hn : 102 ≤ n) {X : Nat → va_E} {S0 : St} (a1 : Int) {o1 : Int} (hM : mX11_count S0 a1 = some o1) : gI l yX11_count cX11_count 2 (some .int) 0 0 0 D cy b n (enc b cy X S0) [.ref (b + 0), .int (iI a1)] (fun r u => r = iI o1 ∧ u = (n, enc b cy X S0)) := by
  refine gI_of (by decide) (Nat.le_of_ble_eq_true rfl) ?_
  intro p e s m args below meth c S hr hlk hin hsz ls hl hG
  have hx := S.1
  have hb := S.2.1
  have hl : lv_has ls 2 [(0, .ref (b + 0)), (1, .int (iI a1))] := hl
  replace hG : gW D cy b n s s.heap [] (enc b cy X S0) := hG
  obtain ⟨H, eH⟩ : ∃ H, H = s.heap := ⟨_, rfl⟩
  obtain ⟨locs, elocs⟩ : ∃ locs : List Loc, locs = [] := ⟨_, rfl⟩
  rw [← eH, ← elocs] at hG
  rw [← eH, ← elocs]
  clear eH elocs
  unfold mX11_count at hM
  refine lv_iload_n hx hb dX11_count_0 rfl (lv_at hl 1 rfl) ?_
  obtain ⟨hg_1, hM⟩ := gd_some hM
  rcases (show a1 = 0 ∨ a1 = 1 ∨ a1 = 2 ∨ a1 = 3 ∨ a1 = 4 ∨ a1 = 5 ∨ (a1 < 0 ∨ 5 < a1) by omega) with hs_2 | hs_2 | hs_2 | hs_2 | hs_2 | hs_2 | hs_2
  · replace hM := ifp hM hs_2
    refine gi_tsI (off := 39) (tgt := 40) hx hb 0 dX11_count_1 hg_1 (by omega) (by omega) (by rfl) (by decide) ?_
    refine lv_aload_n hx hb dX11_count_40 rfl (lv_at hl 0 rfl) ?_
    refine m_get S hG 0 0 2 rfl ec_0 cpX11 wm_667 dX11_count_41 rfl (Nat.lt_of_lt_of_le (Nat.le_of_ble_eq_true rfl) hn) (by decide) ?_
    refine m_get S hG 2 2 1 rfl ec_2 cpX2 wm_222 dX11_count_44 rfl (Nat.lt_of_lt_of_le (Nat.le_of_ble_eq_true rfl) hn) (by decide) ?_
    cases hM
    exact g_iret S hr hlk hG hsz dX11_count_47 ⟨Nat.le_of_ble_eq_true rfl, Nat.le_of_ble_eq_true rfl⟩ ⟨rfl, rfl⟩
  · replace hM := ifn hM (by omega)
    replace hM := ifp hM hs_2
    refine gi_tsI (off := 47) (tgt := 48) hx hb 1 dX11_count_1 hg_1 (by omega) (by omega) (by rfl) (by decide) ?_
    refine lv_aload_n hx hb dX11_count_48 rfl (lv_at hl 0 rfl) ?_
    refine m_get S hG 0 0 2 rfl ec_0 cpX11 wm_667 dX11_count_49 rfl (Nat.lt_of_lt_of_le (Nat.le_of_ble_eq_true rfl) hn) (by decide) ?_
    refine m_get S hG 2 2 0 rfl ec_2 cpX2 wm_215 dX11_count_52 rfl (Nat.lt_of_lt_of_le (Nat.le_of_ble_eq_true rfl) hn) (by decide) ?_
    cases hM
    exact g_iret S hr hlk hG hsz dX11_count_55 ⟨Nat.le_of_ble_eq_true rfl, Nat.le_of_ble_eq_true rfl⟩ ⟨rfl, rfl⟩
  · replace hM := ifn hM (by omega)
    replace hM := ifn hM (by omega)
    replace hM := ifp hM hs_2
    refine gi_tsI (off := 55) (tgt := 56) hx hb 2 dX11_count_1 hg_1 (by omega) (by omega) (by rfl) (by decide) ?_
    refine lv_aload_n hx hb dX11_count_56 rfl (lv_at hl 0 rfl) ?_
    refine m_get S hG 0 0 2 rfl ec_0 cpX11 wm_667 dX11_count_57 rfl (Nat.lt_of_lt_of_le (Nat.le_of_ble_eq_true rfl) hn) (by decide) ?_
    refine m_get S hG 2 2 3 rfl ec_2 cpX2 wm_229 dX11_count_60 rfl (Nat.lt_of_lt_of_le (Nat.le_of_ble_eq_true rfl) hn) (by decide) ?_
    cases hM
    exact g_iret S hr hlk hG hsz dX11_count_63 ⟨Nat.le_of_ble_eq_true rfl, Nat.le_of_ble_eq_true rfl⟩ ⟨rfl, rfl⟩
  · replace hM := ifn hM (by omega)
    replace hM := ifn hM (by omega)
    replace hM := ifn hM (by omega)
    replace hM := ifp hM hs_2
    refine gi_tsI (off := 63) (tgt := 64) hx hb 3 dX11_count_1 hg_1 (by omega) (by omega) (by rfl) (by decide) ?_
    refine lv_aload_n hx hb dX11_count_64 rfl (lv_at hl 0 rfl) ?_
    refine m_get S hG 0 0 2 rfl ec_0 cpX11 wm_667 dX11_count_65 rfl (Nat.lt_of_lt_of_le (Nat.le_of_ble_eq_true rfl) hn) (by decide) ?_
    refine m_get S hG 2 2 2 rfl ec_2 cpX2 wm_225 dX11_count_68 rfl (Nat.lt_of_lt_of_le (Nat.le_of_ble_eq_true rfl) hn) (by decide) ?_
    cases hM
    exact g_iret S hr hlk hG hsz dX11_count_71 ⟨Nat.le_of_ble_eq_true rfl, Nat.le_of_ble_eq_true rfl⟩ ⟨rfl, rfl⟩
  · replace hM := ifn hM (by omega)
    replace hM := ifn hM (by omega)
    replace hM := ifn hM (by omega)
    replace hM := ifn hM (by omega)
    replace hM := ifp hM hs_2
    refine gi_tsI (off := 71) (tgt := 72) hx hb 4 dX11_count_1 hg_1 (by omega) (by omega) (by rfl) (by decide) ?_
    refine lv_aload_n hx hb dX11_count_72 rfl (lv_at hl 0 rfl) ?_
    refine m_get S hG 0 0 15 rfl ec_0 cpX11 wm_680 dX11_count_73 rfl (Nat.lt_of_lt_of_le (Nat.le_of_ble_eq_true rfl) hn) (by decide) ?_
    cases hM
    exact g_iret S hr hlk hG hsz dX11_count_76 ⟨Nat.le_of_ble_eq_true rfl, Nat.le_of_ble_eq_true rfl⟩ ⟨rfl, rfl⟩
  · replace hM := ifn hM (by omega)
    replace hM := ifn hM (by omega)
    replace hM := ifn hM (by omega)
    replace hM := ifn hM (by omega)
    replace hM := ifn hM (by omega)
    replace hM := ifp hM hs_2
    refine gi_tsI (off := 76) (tgt := 77) hx hb 5 dX11_count_1 hg_1 (by omega) (by omega) (by rfl) (by decide) ?_
    refine lv_aload_n hx hb dX11_count_77 rfl (lv_at hl 0 rfl) ?_
    refine m_get S hG 0 0 1 rfl ec_0 cpX11 wm_666 dX11_count_78 rfl (Nat.lt_of_lt_of_le (Nat.le_of_ble_eq_true rfl) hn) (by decide) ?_
    cases hM
    exact g_iret S hr hlk hG hsz dX11_count_81 ⟨Nat.le_of_ble_eq_true rfl, Nat.le_of_ble_eq_true rfl⟩ ⟨rfl, rfl⟩
  · replace hM := ifn hM (by omega)
    replace hM := ifn hM (by omega)
    replace hM := ifn hM (by omega)
    replace hM := ifn hM (by omega)
    replace hM := ifn hM (by omega)
    replace hM := ifn hM (by omega)
    refine gi_tsO (tgt := 82) hx hb dX11_count_1 hg_1 hs_2 (by decide) ?_
    refine lv_iconst (v := iI (-1)) hx hb dX11_count_82 (by decide) ?_
    cases hM
    exact g_iret S hr hlk hG hsz dX11_count_83 ⟨Nat.le_of_ble_eq_true rfl, Nat.le_of_ble_eq_true rfl⟩ ⟨rfl, rfl⟩
def mX11_known (S0 : St) (a1 : Int) : Option (Int) := gd (inI a1) <| if a1 < 0 then (some (0)) else (gd (inI (S0 2 1)) <| if (S0 2 1) ≤ a1 then (some (0)) else (some (1)))
set_option maxHeartbeats 4000000 in
set_option maxRecDepth 100000 in
theorem vX11_known (l : Launch) {D : va_G} {cy : Nat → ClassId} {b n : Nat} (hn : 102 ≤ n) {X : Nat → va_E} {S0 : St} (a1 : Int) {o1 : Int} (hM : mX11_known S0 a1 = some o1) : gI l yX11_known cX11_known 2 (some .boolean) 0 0 0 D cy b n (enc b cy X S0) [.ref (b + 0), .int (iI a1)] (fun r u => r = iI o1 ∧ u = (n, enc b cy X S0)) := by
  refine gI_of (by decide) (Nat.le_of_ble_eq_true rfl) ?_
  intro p e s m args below meth c S hr hlk hin hsz ls hl hG
  have hx := S.1
  have hb := S.2.1
  have hl : lv_has ls 2 [(0, .ref (b + 0)), (1, .int (iI a1))] := hl
  replace hG : gW D cy b n s s.heap [] (enc b cy X S0) := hG
  obtain ⟨H, eH⟩ : ∃ H, H = s.heap := ⟨_, rfl⟩
  obtain ⟨locs, elocs⟩ : ∃ locs : List Loc, locs = [] := ⟨_, rfl⟩
  rw [← eH, ← elocs] at hG
  rw [← eH, ← elocs]
  clear eH elocs
  unfold mX11_known at hM
  refine lv_iload_n hx hb dX11_known_0 rfl (lv_at hl 1 rfl) ?_
  obtain ⟨hg_1, hM⟩ := gd_some hM
  refine gi_if_lt (tgt := 19) hx hb dX11_known_1 (by decide) hg_1 (fun c_2 => ?_) (fun c_2 => ?_)
  · replace hM := ifp hM c_2
    refine lv_iconst (v := iI 0) hx hb dX11_known_19 (by decide) ?_
    cases hM
    exact g_zret S hr hlk hG hsz dX11_known_20 ⟨Nat.le_of_ble_eq_true rfl, Nat.le_of_ble_eq_true rfl⟩ (nar_z (by decide)) ⟨rfl, rfl⟩
  · replace hM := ifn hM c_2
    refine lv_iload_n hx hb dX11_known_4 rfl (lv_at hl 1 rfl) ?_
    refine lv_aload_n hx hb dX11_known_5 rfl (lv_at hl 0 rfl) ?_
    refine m_get S hG 0 0 2 rfl ec_0 cpX11 wm_667 dX11_known_6 rfl (Nat.lt_of_lt_of_le (Nat.le_of_ble_eq_true rfl) hn) (by decide) ?_
    refine m_get S hG 2 2 1 rfl ec_2 cpX2 wm_222 dX11_known_9 rfl (Nat.lt_of_lt_of_le (Nat.le_of_ble_eq_true rfl) hn) (by decide) ?_
    obtain ⟨hg_3, hM⟩ := gd_some hM
    refine gi_icmp_ge (tgt := 19) hx hb dX11_known_12 (by decide) hg_1 hg_3 (fun c_4 => ?_) (fun c_4 => ?_)
    · replace hM := ifp hM c_4
      refine lv_iconst (v := iI 0) hx hb dX11_known_19 (by decide) ?_
      cases hM
      exact g_zret S hr hlk hG hsz dX11_known_20 ⟨Nat.le_of_ble_eq_true rfl, Nat.le_of_ble_eq_true rfl⟩ (nar_z (by decide)) ⟨rfl, rfl⟩
    · replace hM := ifn hM c_4
      refine lv_iconst (v := iI 1) hx hb dX11_known_15 (by decide) ?_
      refine lv_goto (tgt := 20) hx hb dX11_known_16 (by decide) ?_
      cases hM
      exact g_zret S hr hlk hG hsz dX11_known_20 ⟨Nat.le_of_ble_eq_true rfl, Nat.le_of_ble_eq_true rfl⟩ (nar_z (by decide)) ⟨rfl, rfl⟩
theorem wV_11_168 : gWV "GrownKinds" 168 yX11_known cX11_known 2 (some .boolean) := ⟨wm_1101, wm_1103, wm_48, wm_177, wm_1104, by decide +kernel, by decide +kernel⟩
def mX11_sized (S0 : St) (a1 : Int) (a2 : Int) : Option (Int) := bd1 (mX11_known S0 a1) fun r_2 => gd (inI r_2) <| if r_2 = 0 then (some (0)) else (gd (inI a2) <| if a2 < 0 then (some (0)) else (gd (inI (S0 2 0)) <| if (S0 2 0) < a2 then (some (0)) else (some (1))))
set_option maxHeartbeats 4000000 in
set_option maxRecDepth 100000 in
theorem vX11_sized (l : Launch) {D : va_G} {cy : Nat → ClassId} {b n : Nat} (hn : 102 ≤ n) {X : Nat → va_E} {S0 : St} (a1 : Int) (a2 : Int) {o1 : Int} (hM : mX11_sized S0 a1 a2 = some o1) : gI l yX11_sized cX11_sized 3 (some .boolean) 1 0 0 D cy b n (enc b cy X S0) [.ref (b + 0), .int (iI a1), .int (iI a2)] (fun r u => r = iI o1 ∧ u = (n, enc b cy X S0)) := by
  refine gI_of (by decide) (Nat.le_of_ble_eq_true rfl) ?_
  intro p e s m args below meth c S hr hlk hin hsz ls hl hG
  have hx := S.1
  have hb := S.2.1
  have hl : lv_has ls 3 [(0, .ref (b + 0)), (1, .int (iI a1)), (2, .int (iI a2))] := hl
  replace hG : gW D cy b n s s.heap [] (enc b cy X S0) := hG
  obtain ⟨H, eH⟩ : ∃ H, H = s.heap := ⟨_, rfl⟩
  obtain ⟨locs, elocs⟩ : ∃ locs : List Loc, locs = [] := ⟨_, rfl⟩
  rw [← eH, ← elocs] at hG
  rw [← eH, ← elocs]
  clear eH elocs
  unfold mX11_sized at hM
  refine lv_aload_n hx hb dX11_sized_0 rfl (lv_at hl 0 rfl) ?_
  refine lv_iload_n hx hb dX11_sized_1 rfl (lv_at hl 1 rfl) ?_
  obtain ⟨r_2, hc_1, hM⟩ := bd1_some hM
  refine g_vi (As := [.int (iI a1)]) (rest := []) S hG hsz (vX11_known l hn a1 hc_1) wV_11_168 (ec_0 _) cpX11 (Nat.lt_of_lt_of_le (Nat.le_of_ble_eq_true rfl) hn) dX11_sized_2 rfl hl.1 (ar := 1) (by decide +kernel) rfl ⟨Nat.le_of_ble_eq_true rfl, Nat.le_of_ble_eq_true rfl, Nat.le_of_ble_eq_true rfl, Nat.le_of_ble_eq_true rfl⟩ (Nat.le_of_ble_eq_true rfl) (fun rv uu H locs hp hG => ?_)
  obtain ⟨rfl, rfl⟩ := hp
  replace hG : gW D cy b n s H locs (enc b cy X S0) := hG
  obtain ⟨hg_3, hM⟩ := gd_some hM
  refine gi_if_eq (tgt := 27) hx hb dX11_sized_5 (by decide) hg_3 (fun c_4 => ?_) (fun c_4 => ?_)
  · replace hM := ifp hM c_4
    refine lv_iconst (v := iI 0) hx hb dX11_sized_27 (by decide) ?_
    cases hM
    exact g_zret S hr hlk hG hsz dX11_sized_28 ⟨Nat.le_of_ble_eq_true rfl, Nat.le_of_ble_eq_true rfl⟩ (nar_z (by decide)) ⟨rfl, rfl⟩
  · replace hM := ifn hM c_4
    refine lv_iload_n hx hb dX11_sized_8 rfl (lv_at hl 2 rfl) ?_
    obtain ⟨hg_5, hM⟩ := gd_some hM
    refine gi_if_lt (tgt := 27) hx hb dX11_sized_9 (by decide) hg_5 (fun c_6 => ?_) (fun c_6 => ?_)
    · replace hM := ifp hM c_6
      refine lv_iconst (v := iI 0) hx hb dX11_sized_27 (by decide) ?_
      cases hM
      exact g_zret S hr hlk hG hsz dX11_sized_28 ⟨Nat.le_of_ble_eq_true rfl, Nat.le_of_ble_eq_true rfl⟩ (nar_z (by decide)) ⟨rfl, rfl⟩
    · replace hM := ifn hM c_6
      refine lv_iload_n hx hb dX11_sized_12 rfl (lv_at hl 2 rfl) ?_
      refine lv_aload_n hx hb dX11_sized_13 rfl (lv_at hl 0 rfl) ?_
      refine m_get S hG 0 0 2 rfl ec_0 cpX11 wm_667 dX11_sized_14 rfl (Nat.lt_of_lt_of_le (Nat.le_of_ble_eq_true rfl) hn) (by decide) ?_
      refine m_get S hG 2 2 0 rfl ec_2 cpX2 wm_215 dX11_sized_17 rfl (Nat.lt_of_lt_of_le (Nat.le_of_ble_eq_true rfl) hn) (by decide) ?_
      obtain ⟨hg_7, hM⟩ := gd_some hM
      refine gi_icmp_gt (tgt := 27) hx hb dX11_sized_20 (by decide) hg_5 hg_7 (fun c_8 => ?_) (fun c_8 => ?_)
      · replace hM := ifp hM c_8
        refine lv_iconst (v := iI 0) hx hb dX11_sized_27 (by decide) ?_
        cases hM
        exact g_zret S hr hlk hG hsz dX11_sized_28 ⟨Nat.le_of_ble_eq_true rfl, Nat.le_of_ble_eq_true rfl⟩ (nar_z (by decide)) ⟨rfl, rfl⟩
      · replace hM := ifn hM c_8
        refine lv_iconst (v := iI 1) hx hb dX11_sized_23 (by decide) ?_
        refine lv_goto (tgt := 28) hx hb dX11_sized_24 (by decide) ?_
        cases hM
        exact g_zret S hr hlk hG hsz dX11_sized_28 ⟨Nat.le_of_ble_eq_true rfl, Nat.le_of_ble_eq_true rfl⟩ (nar_z (by decide)) ⟨rfl, rfl⟩
def mX11_termed (S0 : St) (a1 : Int) (a2 : Int) : Option (Int) := bd1 (mX11_known S0 a1) fun r_2 => gd (inI r_2) <| if r_2 = 0 then (some (0)) else (gd (inI a2) <| if a2 < 0 then (some (0)) else (gd (0 ≤ a1 ∧ a1 < 30) <| gd (inI (S0 8 a1)) <| if (S0 8 a1) ≤ a2 then (some (0)) else (some (1))))
set_option maxHeartbeats 4000000 in
set_option maxRecDepth 100000 in
theorem vX11_termed (l : Launch) {D : va_G} {cy : Nat → ClassId} {b n : Nat} (hn : 102 ≤ n) {X : Nat → va_E} {S0 : St} (a1 : Int) (a2 : Int) {o1 : Int} (hM : mX11_termed S0 a1 a2 = some o1) : gI l yX11_termed cX11_termed 3 (some .boolean) 1 0 0 D cy b n (enc b cy X S0) [.ref (b + 0), .int (iI a1), .int (iI a2)] (fun r u => r = iI o1 ∧ u = (n, enc b cy X S0)) := by
  refine gI_of (by decide) (Nat.le_of_ble_eq_true rfl) ?_
  intro p e s m args below meth c S hr hlk hin hsz ls hl hG
  have hx := S.1
  have hb := S.2.1
  have hl : lv_has ls 3 [(0, .ref (b + 0)), (1, .int (iI a1)), (2, .int (iI a2))] := hl
  replace hG : gW D cy b n s s.heap [] (enc b cy X S0) := hG
  obtain ⟨H, eH⟩ : ∃ H, H = s.heap := ⟨_, rfl⟩
  obtain ⟨locs, elocs⟩ : ∃ locs : List Loc, locs = [] := ⟨_, rfl⟩
  rw [← eH, ← elocs] at hG
  rw [← eH, ← elocs]
  clear eH elocs
  unfold mX11_termed at hM
  refine lv_aload_n hx hb dX11_termed_0 rfl (lv_at hl 0 rfl) ?_
  refine lv_iload_n hx hb dX11_termed_1 rfl (lv_at hl 1 rfl) ?_
  obtain ⟨r_2, hc_1, hM⟩ := bd1_some hM
  refine g_vi (As := [.int (iI a1)]) (rest := []) S hG hsz (vX11_known l hn a1 hc_1) wV_11_168 (ec_0 _) cpX11 (Nat.lt_of_lt_of_le (Nat.le_of_ble_eq_true rfl) hn) dX11_termed_2 rfl hl.1 (ar := 1) (by decide +kernel) rfl ⟨Nat.le_of_ble_eq_true rfl, Nat.le_of_ble_eq_true rfl, Nat.le_of_ble_eq_true rfl, Nat.le_of_ble_eq_true rfl⟩ (Nat.le_of_ble_eq_true rfl) (fun rv uu H locs hp hG => ?_)
  obtain ⟨rfl, rfl⟩ := hp
  replace hG : gW D cy b n s H locs (enc b cy X S0) := hG
  obtain ⟨hg_3, hM⟩ := gd_some hM
  refine gi_if_eq (tgt := 29) hx hb dX11_termed_5 (by decide) hg_3 (fun c_4 => ?_) (fun c_4 => ?_)
  · replace hM := ifp hM c_4
    refine lv_iconst (v := iI 0) hx hb dX11_termed_29 (by decide) ?_
    cases hM
    exact g_zret S hr hlk hG hsz dX11_termed_30 ⟨Nat.le_of_ble_eq_true rfl, Nat.le_of_ble_eq_true rfl⟩ (nar_z (by decide)) ⟨rfl, rfl⟩
  · replace hM := ifn hM c_4
    refine lv_iload_n hx hb dX11_termed_8 rfl (lv_at hl 2 rfl) ?_
    obtain ⟨hg_5, hM⟩ := gd_some hM
    refine gi_if_lt (tgt := 29) hx hb dX11_termed_9 (by decide) hg_5 (fun c_6 => ?_) (fun c_6 => ?_)
    · replace hM := ifp hM c_6
      refine lv_iconst (v := iI 0) hx hb dX11_termed_29 (by decide) ?_
      cases hM
      exact g_zret S hr hlk hG hsz dX11_termed_30 ⟨Nat.le_of_ble_eq_true rfl, Nat.le_of_ble_eq_true rfl⟩ (nar_z (by decide)) ⟨rfl, rfl⟩
    · replace hM := ifn hM c_6
      refine lv_iload_n hx hb dX11_termed_12 rfl (lv_at hl 2 rfl) ?_
      refine lv_aload_n hx hb dX11_termed_13 rfl (lv_at hl 0 rfl) ?_
      refine m_get S hG 0 0 2 rfl ec_0 cpX11 wm_667 dX11_termed_14 rfl (Nat.lt_of_lt_of_le (Nat.le_of_ble_eq_true rfl) hn) (by decide) ?_
      refine m_get S hG 2 2 10 rfl ec_2 cpX2 wm_266 dX11_termed_17 rfl (Nat.lt_of_lt_of_le (Nat.le_of_ble_eq_true rfl) hn) (by decide) ?_
      refine lv_iload_n hx hb dX11_termed_20 rfl (lv_at hl 1 rfl) ?_
      obtain ⟨hg_7, hM⟩ := gd_some hM
      refine mi_ald S hG 8 8 rfl ec_8 (Nat.lt_of_lt_of_le (Nat.le_of_ble_eq_true rfl) hn) dX11_termed_21 hg_7 (by decide) ?_
      obtain ⟨hg_8, hM⟩ := gd_some hM
      refine gi_icmp_ge (tgt := 29) hx hb dX11_termed_22 (by decide) hg_5 hg_8 (fun c_9 => ?_) (fun c_9 => ?_)
      · replace hM := ifp hM c_9
        refine lv_iconst (v := iI 0) hx hb dX11_termed_29 (by decide) ?_
        cases hM
        exact g_zret S hr hlk hG hsz dX11_termed_30 ⟨Nat.le_of_ble_eq_true rfl, Nat.le_of_ble_eq_true rfl⟩ (nar_z (by decide)) ⟨rfl, rfl⟩
      · replace hM := ifn hM c_9
        refine lv_iconst (v := iI 1) hx hb dX11_termed_25 (by decide) ?_
        refine lv_goto (tgt := 30) hx hb dX11_termed_26 (by decide) ?_
        cases hM
        exact g_zret S hr hlk hG hsz dX11_termed_30 ⟨Nat.le_of_ble_eq_true rfl, Nat.le_of_ble_eq_true rfl⟩ (nar_z (by decide)) ⟨rfl, rfl⟩
def mX11_lettered (a1 : Int) : Option (Int) := gd (inI a1) <| if a1 < 0 then (some (0)) else (if 26 ≤ a1 then (some (0)) else (some (1)))
set_option maxHeartbeats 4000000 in
set_option maxRecDepth 100000 in
theorem vX11_lettered (l : Launch) {D : va_G} {cy : Nat → ClassId} {b n : Nat} (hn : 102 ≤ n) {X : Nat → va_E} {S0 : St} (a1 : Int) {o1 : Int} (hM : mX11_lettered a1 = some o1) : gI l yX11_lettered cX11_lettered 1 (some .boolean) 0 0 0 D cy b n (enc b cy X S0) [.int (iI a1)] (fun r u => r = iI o1 ∧ u = (n, enc b cy X S0)) := by
  refine gI_of (by decide) (Nat.le_of_ble_eq_true rfl) ?_
  intro p e s m args below meth c S hr hlk hin hsz ls hl hG
  have hx := S.1
  have hb := S.2.1
  have hl : lv_has ls 1 [(0, .int (iI a1))] := hl
  replace hG : gW D cy b n s s.heap [] (enc b cy X S0) := hG
  obtain ⟨H, eH⟩ : ∃ H, H = s.heap := ⟨_, rfl⟩
  obtain ⟨locs, elocs⟩ : ∃ locs : List Loc, locs = [] := ⟨_, rfl⟩
  rw [← eH, ← elocs] at hG
  rw [← eH, ← elocs]
  clear eH elocs
  unfold mX11_lettered at hM
  refine lv_iload_n hx hb dX11_lettered_0 rfl (lv_at hl 0 rfl) ?_
  obtain ⟨hg_1, hM⟩ := gd_some hM
  refine gi_if_lt (tgt := 14) hx hb dX11_lettered_1 (by decide) hg_1 (fun c_2 => ?_) (fun c_2 => ?_)
  · replace hM := ifp hM c_2
    refine lv_iconst (v := iI 0) hx hb dX11_lettered_14 (by decide) ?_
    cases hM
    exact g_zret S hr hlk hG hsz dX11_lettered_15 ⟨Nat.le_of_ble_eq_true rfl, Nat.le_of_ble_eq_true rfl⟩ (nar_z (by decide)) ⟨rfl, rfl⟩
  · replace hM := ifn hM c_2
    refine lv_iload_n hx hb dX11_lettered_4 rfl (lv_at hl 0 rfl) ?_
    refine lv_bipush (v := iI 26) hx hb dX11_lettered_5 (by decide) ?_
    refine gi_icmp_ge (tgt := 14) hx hb dX11_lettered_7 (by decide) hg_1 (by decide) (fun c_3 => ?_) (fun c_3 => ?_)
    · replace hM := ifp hM c_3
      refine lv_iconst (v := iI 0) hx hb dX11_lettered_14 (by decide) ?_
      cases hM
      exact g_zret S hr hlk hG hsz dX11_lettered_15 ⟨Nat.le_of_ble_eq_true rfl, Nat.le_of_ble_eq_true rfl⟩ (nar_z (by decide)) ⟨rfl, rfl⟩
    · replace hM := ifn hM c_3
      refine lv_iconst (v := iI 1) hx hb dX11_lettered_10 (by decide) ?_
      refine lv_goto (tgt := 15) hx hb dX11_lettered_11 (by decide) ?_
      cases hM
      exact g_zret S hr hlk hG hsz dX11_lettered_15 ⟨Nat.le_of_ble_eq_true rfl, Nat.le_of_ble_eq_true rfl⟩ (nar_z (by decide)) ⟨rfl, rfl⟩
theorem wV_11_175 : gWV "GrownKinds" 175 yX11_sized cX11_sized 3 (some .boolean) := ⟨wm_1156, wm_1158, wm_49, wm_177, wm_1159, by decide +kernel, by decide +kernel⟩
def mX11_boxy (S0 : St) (a1 : Int) (a2 : Int) (a3 : Int) : Option (Int) := bd1 (mX11_sized S0 a1 a2) fun r_2 => gd (inI r_2) <| if r_2 = 0 then (some (0)) else (bd1 (mX11_sized S0 a1 a3) fun r_6 => gd (inI r_6) <| if r_6 = 0 then (some (0)) else (gd ((inI a2) ∧ (inI a3)) <| if a3 < a2 then (some (0)) else (some (1))))
set_option maxHeartbeats 4000000 in
set_option maxRecDepth 100000 in
theorem vX11_boxy (l : Launch) {D : va_G} {cy : Nat → ClassId} {b n : Nat} (hn : 102 ≤ n) {X : Nat → va_E} {S0 : St} (a1 : Int) (a2 : Int) (a3 : Int) {o1 : Int} (hM : mX11_boxy S0 a1 a2 a3 = some o1) : gI l yX11_boxy cX11_boxy 4 (some .boolean) 2 0 0 D cy b n (enc b cy X S0) [.ref (b + 0), .int (iI a1), .int (iI a2), .int (iI a3)] (fun r u => r = iI o1 ∧ u = (n, enc b cy X S0)) := by
  refine gI_of (by decide) (Nat.le_of_ble_eq_true rfl) ?_
  intro p e s m args below meth c S hr hlk hin hsz ls hl hG
  have hx := S.1
  have hb := S.2.1
  have hl : lv_has ls 4 [(0, .ref (b + 0)), (1, .int (iI a1)), (2, .int (iI a2)), (3, .int (iI a3))] := hl
  replace hG : gW D cy b n s s.heap [] (enc b cy X S0) := hG
  obtain ⟨H, eH⟩ : ∃ H, H = s.heap := ⟨_, rfl⟩
  obtain ⟨locs, elocs⟩ : ∃ locs : List Loc, locs = [] := ⟨_, rfl⟩
  rw [← eH, ← elocs] at hG
  rw [← eH, ← elocs]
  clear eH elocs
  unfold mX11_boxy at hM
  refine lv_aload_n hx hb dX11_boxy_0 rfl (lv_at hl 0 rfl) ?_
  refine lv_iload_n hx hb dX11_boxy_1 rfl (lv_at hl 1 rfl) ?_
  refine lv_iload_n hx hb dX11_boxy_2 rfl (lv_at hl 2 rfl) ?_
  obtain ⟨r_2, hc_1, hM⟩ := bd1_some hM
  refine g_vi (As := [.int (iI a1), .int (iI a2)]) (rest := []) S hG hsz (vX11_sized l hn a1 a2 hc_1) wV_11_175 (ec_0 _) cpX11 (Nat.lt_of_lt_of_le (Nat.le_of_ble_eq_true rfl) hn) dX11_boxy_3 rfl hl.1 (ar := 2) (by decide +kernel) rfl ⟨Nat.le_of_ble_eq_true rfl, Nat.le_of_ble_eq_true rfl, Nat.le_of_ble_eq_true rfl, Nat.le_of_ble_eq_true rfl⟩ (Nat.le_of_ble_eq_true rfl) (fun rv uu H locs hp hG => ?_)
  obtain ⟨rfl, rfl⟩ := hp
  replace hG : gW D cy b n s H locs (enc b cy X S0) := hG
  obtain ⟨hg_3, hM⟩ := gd_some hM
  refine gi_if_eq (tgt := 27) hx hb dX11_boxy_6 (by decide) hg_3 (fun c_4 => ?_) (fun c_4 => ?_)
  · replace hM := ifp hM c_4
    refine lv_iconst (v := iI 0) hx hb dX11_boxy_27 (by decide) ?_
    cases hM
    exact g_zret S hr hlk hG hsz dX11_boxy_28 ⟨Nat.le_of_ble_eq_true rfl, Nat.le_of_ble_eq_true rfl⟩ (nar_z (by decide)) ⟨rfl, rfl⟩
  · replace hM := ifn hM c_4
    refine lv_aload_n hx hb dX11_boxy_9 rfl (lv_at hl 0 rfl) ?_
    refine lv_iload_n hx hb dX11_boxy_10 rfl (lv_at hl 1 rfl) ?_
    refine lv_iload_n hx hb dX11_boxy_11 rfl (lv_at hl 3 rfl) ?_
    obtain ⟨r_6, hc_5, hM⟩ := bd1_some hM
    refine g_vi (As := [.int (iI a1), .int (iI a3)]) (rest := []) S hG hsz (vX11_sized l hn a1 a3 hc_5) wV_11_175 (ec_0 _) cpX11 (Nat.lt_of_lt_of_le (Nat.le_of_ble_eq_true rfl) hn) dX11_boxy_12 rfl hl.1 (ar := 2) (by decide +kernel) rfl ⟨Nat.le_of_ble_eq_true rfl, Nat.le_of_ble_eq_true rfl, Nat.le_of_ble_eq_true rfl, Nat.le_of_ble_eq_true rfl⟩ (Nat.le_of_ble_eq_true rfl) (fun rv uu H locs hp hG => ?_)
    obtain ⟨rfl, rfl⟩ := hp
    replace hG : gW D cy b n s H locs (enc b cy X S0) := hG
    obtain ⟨hg_7, hM⟩ := gd_some hM
    refine gi_if_eq (tgt := 27) hx hb dX11_boxy_15 (by decide) hg_7 (fun c_8 => ?_) (fun c_8 => ?_)
    · replace hM := ifp hM c_8
      refine lv_iconst (v := iI 0) hx hb dX11_boxy_27 (by decide) ?_
      cases hM
      exact g_zret S hr hlk hG hsz dX11_boxy_28 ⟨Nat.le_of_ble_eq_true rfl, Nat.le_of_ble_eq_true rfl⟩ (nar_z (by decide)) ⟨rfl, rfl⟩
    · replace hM := ifn hM c_8
      refine lv_iload_n hx hb dX11_boxy_18 rfl (lv_at hl 2 rfl) ?_
      refine lv_iload_n hx hb dX11_boxy_19 rfl (lv_at hl 3 rfl) ?_
      obtain ⟨hg_9, hM⟩ := gd_some hM
      refine gi_icmp_gt (tgt := 27) hx hb dX11_boxy_20 (by decide) hg_9.1 hg_9.2 (fun c_10 => ?_) (fun c_10 => ?_)
      · replace hM := ifp hM c_10
        refine lv_iconst (v := iI 0) hx hb dX11_boxy_27 (by decide) ?_
        cases hM
        exact g_zret S hr hlk hG hsz dX11_boxy_28 ⟨Nat.le_of_ble_eq_true rfl, Nat.le_of_ble_eq_true rfl⟩ (nar_z (by decide)) ⟨rfl, rfl⟩
      · replace hM := ifn hM c_10
        refine lv_iconst (v := iI 1) hx hb dX11_boxy_23 (by decide) ?_
        refine lv_goto (tgt := 28) hx hb dX11_boxy_24 (by decide) ?_
        cases hM
        exact g_zret S hr hlk hG hsz dX11_boxy_28 ⟨Nat.le_of_ble_eq_true rfl, Nat.le_of_ble_eq_true rfl⟩ (nar_z (by decide)) ⟨rfl, rfl⟩
def mX11_terms (S0 : St) (a1 : Int) : Option (Int) := bd1 (mX11_known S0 a1) fun r_2 => gd (inI r_2) <| if r_2 = 0 then (some ((-2))) else (gd (0 ≤ a1 ∧ a1 < 30) <| some ((S0 8 a1)))
set_option maxHeartbeats 4000000 in
set_option maxRecDepth 100000 in
theorem vX11_terms (l : Launch) {D : va_G} {cy : Nat → ClassId} {b n : Nat} (hn : 102 ≤ n) {X : Nat → va_E} {S0 : St} (a1 : Int) {o1 : Int} (hM : mX11_terms S0 a1 = some o1) : gI l yX11_terms cX11_terms 2 (some .int) 1 0 0 D cy b n (enc b cy X S0) [.ref (b + 0), .int (iI a1)] (fun r u => r = iI o1 ∧ u = (n, enc b cy X S0)) := by
  refine gI_of (by decide) (Nat.le_of_ble_eq_true rfl) ?_
  intro p e s m args below meth c S hr hlk hin hsz ls hl hG
  have hx := S.1
  have hb := S.2.1
  have hl : lv_has ls 2 [(0, .ref (b + 0)), (1, .int (iI a1))] := hl
  replace hG : gW D cy b n s s.heap [] (enc b cy X S0) := hG
  obtain ⟨H, eH⟩ : ∃ H, H = s.heap := ⟨_, rfl⟩
  obtain ⟨locs, elocs⟩ : ∃ locs : List Loc, locs = [] := ⟨_, rfl⟩
  rw [← eH, ← elocs] at hG
  rw [← eH, ← elocs]
  clear eH elocs
  unfold mX11_terms at hM
  refine lv_aload_n hx hb dX11_terms_0 rfl (lv_at hl 0 rfl) ?_
  refine lv_iload_n hx hb dX11_terms_1 rfl (lv_at hl 1 rfl) ?_
  obtain ⟨r_2, hc_1, hM⟩ := bd1_some hM
  refine g_vi (As := [.int (iI a1)]) (rest := []) S hG hsz (vX11_known l hn a1 hc_1) wV_11_168 (ec_0 _) cpX11 (Nat.lt_of_lt_of_le (Nat.le_of_ble_eq_true rfl) hn) dX11_terms_2 rfl hl.1 (ar := 1) (by decide +kernel) rfl ⟨Nat.le_of_ble_eq_true rfl, Nat.le_of_ble_eq_true rfl, Nat.le_of_ble_eq_true rfl, Nat.le_of_ble_eq_true rfl⟩ (Nat.le_of_ble_eq_true rfl) (fun rv uu H locs hp hG => ?_)
  obtain ⟨rfl, rfl⟩ := hp
  replace hG : gW D cy b n s H locs (enc b cy X S0) := hG
  obtain ⟨hg_3, hM⟩ := gd_some hM
  refine gi_if_eq (tgt := 20) hx hb dX11_terms_5 (by decide) hg_3 (fun c_4 => ?_) (fun c_4 => ?_)
  · replace hM := ifp hM c_4
    refine lv_bipush (v := iI (-2)) hx hb dX11_terms_20 (by decide) ?_
    cases hM
    exact g_iret S hr hlk hG hsz dX11_terms_22 ⟨Nat.le_of_ble_eq_true rfl, Nat.le_of_ble_eq_true rfl⟩ ⟨rfl, rfl⟩
  · replace hM := ifn hM c_4
    refine lv_aload_n hx hb dX11_terms_8 rfl (lv_at hl 0 rfl) ?_
    refine m_get S hG 0 0 2 rfl ec_0 cpX11 wm_667 dX11_terms_9 rfl (Nat.lt_of_lt_of_le (Nat.le_of_ble_eq_true rfl) hn) (by decide) ?_
    refine m_get S hG 2 2 10 rfl ec_2 cpX2 wm_266 dX11_terms_12 rfl (Nat.lt_of_lt_of_le (Nat.le_of_ble_eq_true rfl) hn) (by decide) ?_
    refine lv_iload_n hx hb dX11_terms_15 rfl (lv_at hl 1 rfl) ?_
    obtain ⟨hg_5, hM⟩ := gd_some hM
    refine mi_ald S hG 8 8 rfl ec_8 (Nat.lt_of_lt_of_le (Nat.le_of_ble_eq_true rfl) hn) dX11_terms_16 hg_5 (by decide) ?_
    refine lv_goto (tgt := 22) hx hb dX11_terms_17 (by decide) ?_
    cases hM
    exact g_iret S hr hlk hG hsz dX11_terms_22 ⟨Nat.le_of_ble_eq_true rfl, Nat.le_of_ble_eq_true rfl⟩ ⟨rfl, rfl⟩
def mX11_off (S0 : St) (a1 : Int) : Option (Int) := bd1 (mX11_known S0 a1) fun r_2 => gd (inI r_2) <| if r_2 = 0 then (some ((-2))) else (gd (0 ≤ a1 ∧ a1 < 30) <| some ((S0 10 a1)))
set_option maxHeartbeats 4000000 in
set_option maxRecDepth 100000 in
theorem vX11_off (l : Launch) {D : va_G} {cy : Nat → ClassId} {b n : Nat} (hn : 102 ≤ n) {X : Nat → va_E} {S0 : St} (a1 : Int) {o1 : Int} (hM : mX11_off S0 a1 = some o1) : gI l yX11_off cX11_off 2 (some .int) 1 0 0 D cy b n (enc b cy X S0) [.ref (b + 0), .int (iI a1)] (fun r u => r = iI o1 ∧ u = (n, enc b cy X S0)) := by
  refine gI_of (by decide) (Nat.le_of_ble_eq_true rfl) ?_
  intro p e s m args below meth c S hr hlk hin hsz ls hl hG
  have hx := S.1
  have hb := S.2.1
  have hl : lv_has ls 2 [(0, .ref (b + 0)), (1, .int (iI a1))] := hl
  replace hG : gW D cy b n s s.heap [] (enc b cy X S0) := hG
  obtain ⟨H, eH⟩ : ∃ H, H = s.heap := ⟨_, rfl⟩
  obtain ⟨locs, elocs⟩ : ∃ locs : List Loc, locs = [] := ⟨_, rfl⟩
  rw [← eH, ← elocs] at hG
  rw [← eH, ← elocs]
  clear eH elocs
  unfold mX11_off at hM
  refine lv_aload_n hx hb dX11_off_0 rfl (lv_at hl 0 rfl) ?_
  refine lv_iload_n hx hb dX11_off_1 rfl (lv_at hl 1 rfl) ?_
  obtain ⟨r_2, hc_1, hM⟩ := bd1_some hM
  refine g_vi (As := [.int (iI a1)]) (rest := []) S hG hsz (vX11_known l hn a1 hc_1) wV_11_168 (ec_0 _) cpX11 (Nat.lt_of_lt_of_le (Nat.le_of_ble_eq_true rfl) hn) dX11_off_2 rfl hl.1 (ar := 1) (by decide +kernel) rfl ⟨Nat.le_of_ble_eq_true rfl, Nat.le_of_ble_eq_true rfl, Nat.le_of_ble_eq_true rfl, Nat.le_of_ble_eq_true rfl⟩ (Nat.le_of_ble_eq_true rfl) (fun rv uu H locs hp hG => ?_)
  obtain ⟨rfl, rfl⟩ := hp
  replace hG : gW D cy b n s H locs (enc b cy X S0) := hG
  obtain ⟨hg_3, hM⟩ := gd_some hM
  refine gi_if_eq (tgt := 20) hx hb dX11_off_5 (by decide) hg_3 (fun c_4 => ?_) (fun c_4 => ?_)
  · replace hM := ifp hM c_4
    refine lv_bipush (v := iI (-2)) hx hb dX11_off_20 (by decide) ?_
    cases hM
    exact g_iret S hr hlk hG hsz dX11_off_22 ⟨Nat.le_of_ble_eq_true rfl, Nat.le_of_ble_eq_true rfl⟩ ⟨rfl, rfl⟩
  · replace hM := ifn hM c_4
    refine lv_aload_n hx hb dX11_off_8 rfl (lv_at hl 0 rfl) ?_
    refine m_get S hG 0 0 2 rfl ec_0 cpX11 wm_667 dX11_off_9 rfl (Nat.lt_of_lt_of_le (Nat.le_of_ble_eq_true rfl) hn) (by decide) ?_
    refine m_get S hG 2 2 12 rfl ec_2 cpX2 wm_272 dX11_off_12 rfl (Nat.lt_of_lt_of_le (Nat.le_of_ble_eq_true rfl) hn) (by decide) ?_
    refine lv_iload_n hx hb dX11_off_15 rfl (lv_at hl 1 rfl) ?_
    obtain ⟨hg_5, hM⟩ := gd_some hM
    refine mi_ald S hG 10 10 rfl ec_10 (Nat.lt_of_lt_of_le (Nat.le_of_ble_eq_true rfl) hn) dX11_off_16 hg_5 (by decide) ?_
    refine lv_goto (tgt := 22) hx hb dX11_off_17 (by decide) ?_
    cases hM
    exact g_iret S hr hlk hG hsz dX11_off_22 ⟨Nat.le_of_ble_eq_true rfl, Nat.le_of_ble_eq_true rfl⟩ ⟨rfl, rfl⟩
def mX11_letters (S0 : St) (a1 : Int) : Option (Int) := bd1 (mX11_known S0 a1) fun r_2 => gd (inI r_2) <| if r_2 = 0 then (some ((-2))) else (gd (0 ≤ a1 ∧ a1 < 6) <| some ((S0 39 a1)))
set_option maxHeartbeats 4000000 in
set_option maxRecDepth 100000 in
theorem vX11_letters (l : Launch) {D : va_G} {cy : Nat → ClassId} {b n : Nat} (hn : 102 ≤ n) {X : Nat → va_E} {S0 : St} (a1 : Int) {o1 : Int} (hM : mX11_letters S0 a1 = some o1) : gI l yX11_letters cX11_letters 2 (some .int) 1 0 0 D cy b n (enc b cy X S0) [.ref (b + 0), .int (iI a1)] (fun r u => r = iI o1 ∧ u = (n, enc b cy X S0)) := by
  refine gI_of (by decide) (Nat.le_of_ble_eq_true rfl) ?_
  intro p e s m args below meth c S hr hlk hin hsz ls hl hG
  have hx := S.1
  have hb := S.2.1
  have hl : lv_has ls 2 [(0, .ref (b + 0)), (1, .int (iI a1))] := hl
  replace hG : gW D cy b n s s.heap [] (enc b cy X S0) := hG
  obtain ⟨H, eH⟩ : ∃ H, H = s.heap := ⟨_, rfl⟩
  obtain ⟨locs, elocs⟩ : ∃ locs : List Loc, locs = [] := ⟨_, rfl⟩
  rw [← eH, ← elocs] at hG
  rw [← eH, ← elocs]
  clear eH elocs
  unfold mX11_letters at hM
  refine lv_aload_n hx hb dX11_letters_0 rfl (lv_at hl 0 rfl) ?_
  refine lv_iload_n hx hb dX11_letters_1 rfl (lv_at hl 1 rfl) ?_
  obtain ⟨r_2, hc_1, hM⟩ := bd1_some hM
  refine g_vi (As := [.int (iI a1)]) (rest := []) S hG hsz (vX11_known l hn a1 hc_1) wV_11_168 (ec_0 _) cpX11 (Nat.lt_of_lt_of_le (Nat.le_of_ble_eq_true rfl) hn) dX11_letters_2 rfl hl.1 (ar := 1) (by decide +kernel) rfl ⟨Nat.le_of_ble_eq_true rfl, Nat.le_of_ble_eq_true rfl, Nat.le_of_ble_eq_true rfl, Nat.le_of_ble_eq_true rfl⟩ (Nat.le_of_ble_eq_true rfl) (fun rv uu H locs hp hG => ?_)
  obtain ⟨rfl, rfl⟩ := hp
  replace hG : gW D cy b n s H locs (enc b cy X S0) := hG
  obtain ⟨hg_3, hM⟩ := gd_some hM
  refine gi_if_eq (tgt := 20) hx hb dX11_letters_5 (by decide) hg_3 (fun c_4 => ?_) (fun c_4 => ?_)
  · replace hM := ifp hM c_4
    refine lv_bipush (v := iI (-2)) hx hb dX11_letters_20 (by decide) ?_
    cases hM
    exact g_iret S hr hlk hG hsz dX11_letters_22 ⟨Nat.le_of_ble_eq_true rfl, Nat.le_of_ble_eq_true rfl⟩ ⟨rfl, rfl⟩
  · replace hM := ifn hM c_4
    refine lv_aload_n hx hb dX11_letters_8 rfl (lv_at hl 0 rfl) ?_
    refine m_get S hG 0 0 6 rfl ec_0 cpX11 wm_671 dX11_letters_9 rfl (Nat.lt_of_lt_of_le (Nat.le_of_ble_eq_true rfl) hn) (by decide) ?_
    refine m_get S hG 33 33 8 rfl ec_33 cpX3 wm_332 dX11_letters_12 rfl (Nat.lt_of_lt_of_le (Nat.le_of_ble_eq_true rfl) hn) (by decide) ?_
    refine lv_iload_n hx hb dX11_letters_15 rfl (lv_at hl 1 rfl) ?_
    obtain ⟨hg_5, hM⟩ := gd_some hM
    refine mi_ald S hG 39 39 rfl ec_39 (Nat.lt_of_lt_of_le (Nat.le_of_ble_eq_true rfl) hn) dX11_letters_16 hg_5 (by decide) ?_
    refine lv_goto (tgt := 22) hx hb dX11_letters_17 (by decide) ?_
    cases hM
    exact g_iret S hr hlk hG hsz dX11_letters_22 ⟨Nat.le_of_ble_eq_true rfl, Nat.le_of_ble_eq_true rfl⟩ ⟨rfl, rfl⟩
def mX11_uses (S0 : St) (a1 : Int) : Option (Int) := bd1 (mX11_known S0 a1) fun r_2 => gd (inI r_2) <| if r_2 = 0 then (some ((-2))) else (gd (0 ≤ a1 ∧ a1 < 6) <| some ((S0 38 a1)))
set_option maxHeartbeats 4000000 in
set_option maxRecDepth 100000 in
theorem vX11_uses (l : Launch) {D : va_G} {cy : Nat → ClassId} {b n : Nat} (hn : 102 ≤ n) {X : Nat → va_E} {S0 : St} (a1 : Int) {o1 : Int} (hM : mX11_uses S0 a1 = some o1) : gI l yX11_uses cX11_uses 2 (some .int) 1 0 0 D cy b n (enc b cy X S0) [.ref (b + 0), .int (iI a1)] (fun r u => r = iI o1 ∧ u = (n, enc b cy X S0)) := by
  refine gI_of (by decide) (Nat.le_of_ble_eq_true rfl) ?_
  intro p e s m args below meth c S hr hlk hin hsz ls hl hG
  have hx := S.1
  have hb := S.2.1
  have hl : lv_has ls 2 [(0, .ref (b + 0)), (1, .int (iI a1))] := hl
  replace hG : gW D cy b n s s.heap [] (enc b cy X S0) := hG
  obtain ⟨H, eH⟩ : ∃ H, H = s.heap := ⟨_, rfl⟩
  obtain ⟨locs, elocs⟩ : ∃ locs : List Loc, locs = [] := ⟨_, rfl⟩
  rw [← eH, ← elocs] at hG
  rw [← eH, ← elocs]
  clear eH elocs
  unfold mX11_uses at hM
  refine lv_aload_n hx hb dX11_uses_0 rfl (lv_at hl 0 rfl) ?_
  refine lv_iload_n hx hb dX11_uses_1 rfl (lv_at hl 1 rfl) ?_
  obtain ⟨r_2, hc_1, hM⟩ := bd1_some hM
  refine g_vi (As := [.int (iI a1)]) (rest := []) S hG hsz (vX11_known l hn a1 hc_1) wV_11_168 (ec_0 _) cpX11 (Nat.lt_of_lt_of_le (Nat.le_of_ble_eq_true rfl) hn) dX11_uses_2 rfl hl.1 (ar := 1) (by decide +kernel) rfl ⟨Nat.le_of_ble_eq_true rfl, Nat.le_of_ble_eq_true rfl, Nat.le_of_ble_eq_true rfl, Nat.le_of_ble_eq_true rfl⟩ (Nat.le_of_ble_eq_true rfl) (fun rv uu H locs hp hG => ?_)
  obtain ⟨rfl, rfl⟩ := hp
  replace hG : gW D cy b n s H locs (enc b cy X S0) := hG
  obtain ⟨hg_3, hM⟩ := gd_some hM
  refine gi_if_eq (tgt := 20) hx hb dX11_uses_5 (by decide) hg_3 (fun c_4 => ?_) (fun c_4 => ?_)
  · replace hM := ifp hM c_4
    refine lv_bipush (v := iI (-2)) hx hb dX11_uses_20 (by decide) ?_
    cases hM
    exact g_iret S hr hlk hG hsz dX11_uses_22 ⟨Nat.le_of_ble_eq_true rfl, Nat.le_of_ble_eq_true rfl⟩ ⟨rfl, rfl⟩
  · replace hM := ifn hM c_4
    refine lv_aload_n hx hb dX11_uses_8 rfl (lv_at hl 0 rfl) ?_
    refine m_get S hG 0 0 6 rfl ec_0 cpX11 wm_671 dX11_uses_9 rfl (Nat.lt_of_lt_of_le (Nat.le_of_ble_eq_true rfl) hn) (by decide) ?_
    refine m_get S hG 33 33 7 rfl ec_33 cpX3 wm_330 dX11_uses_12 rfl (Nat.lt_of_lt_of_le (Nat.le_of_ble_eq_true rfl) hn) (by decide) ?_
    refine lv_iload_n hx hb dX11_uses_15 rfl (lv_at hl 1 rfl) ?_
    obtain ⟨hg_5, hM⟩ := gd_some hM
    refine mi_ald S hG 38 38 rfl ec_38 (Nat.lt_of_lt_of_le (Nat.le_of_ble_eq_true rfl) hn) dX11_uses_16 hg_5 (by decide) ?_
    refine lv_goto (tgt := 22) hx hb dX11_uses_17 (by decide) ?_
    cases hM
    exact g_iret S hr hlk hG hsz dX11_uses_22 ⟨Nat.le_of_ble_eq_true rfl, Nat.le_of_ble_eq_true rfl⟩ ⟨rfl, rfl⟩
theorem wS_11_188 : gWS "GrownKinds" 188 yX3_closure cX3_closure 5 (some .int) := ⟨wm_1121, wm_938, wm_180, wm_939, by decide +kernel, by decide +kernel⟩
def mX3_closure_38_15 (S0 : St) (v_3 : Int) : Nat → Int → Int → Option (Int)
  | 0, _, _ => none
  | f + 1, v_13, v_14 => gd (inI v_13) <| if 6 ≤ v_13 then (some (v_14)) else (gd (inI (an (shr v_14 v_13) 1)) <| if (an (shr v_14 v_13) 1) = 0 then (mX3_closure_38_15 S0 v_3 f (v_13 + 1) v_14) else (gd (0 ≤ v_13 ∧ v_13 < 6) <| nx (orr v_14 (S0 38 v_13)) fun x_26 => mX3_closure_38_15 S0 v_3 f (v_13 + 1) x_26))
def mX3_closure_38_6 (S0 : St)  : Nat → Int → Int → Option (Int)
  | 0, _, _ => none
  | f + 1, v_3, v_4 => gd (inI v_3) <| if 6 ≤ v_3 then (some (v_4)) else (bd1 (mX3_closure_38_15 S0 v_3 FU 0 v_4) fun y_15 => mX3_closure_38_6 S0 f (v_3 + 1) y_15)
def mX3_closure_38 (S0 : St) (a2 : Int) : Option (Int) := gd (0 ≤ a2 ∧ a2 < 6) <| nx (S0 38 a2) fun x_2 => bd1 (mX3_closure_38_6 S0 FU 0 x_2) fun y_5 => some (y_5)
set_option maxHeartbeats 4000000 in
set_option maxRecDepth 100000 in
theorem vX3_closure_38 (l : Launch) {D : va_G} {cy : Nat → ClassId} {b n : Nat} (hn : 102 ≤ n) {X : Nat → va_E} {S0 : St} (a2 : Int) {o1 : Int} (hM : mX3_closure_38 S0 a2 = some o1) : gI l yX3_closure cX3_closure 5 (some .int) 0 0 0 D cy b n (enc b cy X S0) [.ref (b + 38), .int (iI a2)] (fun r u => r = iI o1 ∧ u = (n, enc b cy X S0)) := by
  refine gI_of (by decide) (Nat.le_of_ble_eq_true rfl) ?_
  intro p e s m args below meth c S hr hlk hin hsz ls hl hG
  have hx := S.1
  have hb := S.2.1
  have hl : lv_has ls 5 [(0, .ref (b + 38)), (1, .int (iI a2))] := hl
  replace hG : gW D cy b n s s.heap [] (enc b cy X S0) := hG
  obtain ⟨H, eH⟩ : ∃ H, H = s.heap := ⟨_, rfl⟩
  obtain ⟨locs, elocs⟩ : ∃ locs : List Loc, locs = [] := ⟨_, rfl⟩
  rw [← eH, ← elocs] at hG
  rw [← eH, ← elocs]
  clear eH elocs
  unfold mX3_closure_38 at hM
  refine lv_aload_n hx hb dX3_closure_0 rfl (lv_at hl 0 rfl) ?_
  refine lv_iload_n hx hb dX3_closure_1 rfl (lv_at hl 1 rfl) ?_
  obtain ⟨hg_1, hM⟩ := gd_some hM
  refine mi_ald S hG 38 38 rfl ec_38 (Nat.lt_of_lt_of_le (Nat.le_of_ble_eq_true rfl) hn) dX3_closure_2 hg_1 (by decide) ?_
  refine gi_nm (fun x_2 ex_2 => ?_)
  replace hM := nx_at hM ex_2
  clear ex_2
  refine lv_istore_n (lv' := [(2, .int (iI x_2)), (0, .ref (b + 38)), (1, .int (iI a2))]) hx hb dX3_closure_3 rfl hl (by decide) rfl (fun ls hl => ?_)
  refine lv_iconst (v := iI 0) hx hb dX3_closure_4 (by decide) ?_
  refine lv_istore_n (lv' := [(3, .int (iI 0)), (2, .int (iI x_2)), (0, .ref (b + 38)), (1, .int (iI a2))]) hx hb dX3_closure_5 rfl hl (by decide) rfl (fun ls hl => ?_)
  obtain ⟨y_5, hc_6, hM⟩ := bd1_some hM
  have hK_7 : ∀ (H : Heap) (locs : List Loc) (ls : Array Slot), gW D cy b n s H locs (enc b cy X S0) → lv_has ls 5 [(2, .int (iI y_5))] → W p l e (gRm 0 0 0) s m args below meth c H locs 0 0 (gQI D cy b s args below 0 0 (fun r u => r = iI o1 ∧ u = (n, enc b cy X S0))) (F0 m 50 ls []) := by
    intro H locs ls hG hl
    refine lv_iload_n hx hb dX3_closure_50 rfl (lv_at hl 0 rfl) ?_
    cases hM
    exact g_iret S hr hlk hG hsz dX3_closure_51 ⟨Nat.le_of_ble_eq_true rfl, Nat.le_of_ble_eq_true rfl⟩ ⟨rfl, rfl⟩
  have loop_8 : ∀ (f : Nat) (v_3 : Int) (v_4 : Int) (H : Heap) (locs : List Loc) (ls : Array Slot), mX3_closure_38_6 S0 f v_3 v_4 = some y_5 → gW D cy b n s H locs (enc b cy X S0) → lv_has ls 5 [(3, .int (iI v_3)), (2, .int (iI v_4)), (0, .ref (b + 38))] → W p l e (gRm 0 0 0) s m args below meth c H locs 0 0 (gQI D cy b s args below 0 0 (fun r u => r = iI o1 ∧ u = (n, enc b cy X S0))) (F0 m 6 ls []) := by
    clear hM
    intro f
    induction f with
    | zero => intro v_3 v_4 H locs ls hM; rw [mX3_closure_38_6] at hM; cases hM
    | succ f_10 ih_9 =>
      intro v_3 v_4 H locs ls hM hG hl
      rw [mX3_closure_38_6] at hM
      refine lv_iload_n hx hb dX3_closure_6 rfl (lv_at hl 0 rfl) ?_
      refine lv_bipush (v := iI 6) hx hb dX3_closure_7 (by decide) ?_
      obtain ⟨hg_11, hM⟩ := gd_some hM
      refine gi_icmp_ge (tgt := 50) hx hb dX3_closure_9 (by decide) hg_11 (by decide) (fun c_12 => ?_) (fun c_12 => ?_)
      · replace hM := ifp hM c_12
        cases hM
        exact hK_7 H locs ls hG (lv_sub hl [1] rfl)
      · replace hM := ifn hM c_12
        refine lv_iconst (v := iI 0) hx hb dX3_closure_12 (by decide) ?_
        refine lv_istore (lv' := [(4, .int (iI 0)), (3, .int (iI v_3)), (2, .int (iI v_4)), (0, .ref (b + 38))]) hx hb dX3_closure_13 hl (by decide) rfl (fun ls hl => ?_)
        obtain ⟨y_15, hc_16, hM⟩ := bd1_some hM
        have hK_17 : ∀ (H : Heap) (locs : List Loc) (ls : Array Slot), gW D cy b n s H locs (enc b cy X S0) → lv_has ls 5 [(3, .int (iI v_3)), (0, .ref (b + 38)), (2, .int (iI y_15))] → W p l e (gRm 0 0 0) s m args below meth c H locs 0 0 (gQI D cy b s args below 0 0 (fun r u => r = iI o1 ∧ u = (n, enc b cy X S0))) (F0 m 44 ls []) := by
          intro H locs ls hG hl
          refine lv_iinc (v := iI (v_3 + 1)) (lv' := [(3, .int (iI (v_3 + 1))), (0, .ref (b + 38)), (2, .int (iI y_15))]) hx hb dX3_closure_44 hl (k := 0) rfl ((iI_add v_3 (1)).trans (congrArg iI (by omega))) (by decide) rfl (fun ls hl => ?_)
          refine lv_goto (tgt := 6) hx hb dX3_closure_47 (by decide) ?_
          exact ih_9 (v_3 + 1) y_15 H locs ls hM hG (lv_sub hl [0, 2, 1] rfl)
        have loop_18 : ∀ (f : Nat) (v_13 : Int) (v_14 : Int) (H : Heap) (locs : List Loc) (ls : Array Slot), mX3_closure_38_15 S0 v_3 f v_13 v_14 = some y_15 → gW D cy b n s H locs (enc b cy X S0) → lv_has ls 5 [(4, .int (iI v_13)), (3, .int (iI v_3)), (2, .int (iI v_14)), (0, .ref (b + 38))] → W p l e (gRm 0 0 0) s m args below meth c H locs 0 0 (gQI D cy b s args below 0 0 (fun r u => r = iI o1 ∧ u = (n, enc b cy X S0))) (F0 m 15 ls []) := by
          clear hM
          intro f
          induction f with
          | zero => intro v_13 v_14 H locs ls hM; rw [mX3_closure_38_15] at hM; cases hM
          | succ f_20 ih_19 =>
            intro v_13 v_14 H locs ls hM hG hl
            rw [mX3_closure_38_15] at hM
            refine lv_iload hx hb dX3_closure_15 (lv_at hl 0 rfl) ?_
            refine lv_bipush (v := iI 6) hx hb dX3_closure_17 (by decide) ?_
            obtain ⟨hg_21, hM⟩ := gd_some hM
            refine gi_icmp_ge (tgt := 44) hx hb dX3_closure_19 (by decide) hg_21 (by decide) (fun c_22 => ?_) (fun c_22 => ?_)
            · replace hM := ifp hM c_22
              cases hM
              exact hK_17 H locs ls hG (lv_sub hl [1, 3, 2] rfl)
            · replace hM := ifn hM c_22
              refine lv_iload_n hx hb dX3_closure_22 rfl (lv_at hl 2 rfl) ?_
              refine lv_iload hx hb dX3_closure_23 (lv_at hl 0 rfl) ?_
              refine gi_shr hx hb dX3_closure_25 ?_
              refine lv_iconst (v := iI 1) hx hb dX3_closure_26 (by decide) ?_
              refine gi_and hx hb dX3_closure_27 ?_
              obtain ⟨hg_23, hM⟩ := gd_some hM
              refine gi_if_eq (tgt := 38) hx hb dX3_closure_28 (by decide) hg_23 (fun c_24 => ?_) (fun c_24 => ?_)
              · replace hM := ifp hM c_24
                refine lv_iinc (v := iI (v_13 + 1)) (lv' := [(4, .int (iI (v_13 + 1))), (3, .int (iI v_3)), (2, .int (iI v_14)), (0, .ref (b + 38))]) hx hb dX3_closure_38 hl (k := 0) rfl ((iI_add v_13 (1)).trans (congrArg iI (by omega))) (by decide) rfl (fun ls hl => ?_)
                refine lv_goto (tgt := 15) hx hb dX3_closure_41 (by decide) ?_
                exact ih_19 (v_13 + 1) v_14 H locs ls hM hG (lv_sub hl [0, 1, 2, 3] rfl)
              · replace hM := ifn hM c_24
                refine lv_iload_n hx hb dX3_closure_31 rfl (lv_at hl 2 rfl) ?_
                refine lv_aload_n hx hb dX3_closure_32 rfl (lv_at hl 3 rfl) ?_
                refine lv_iload hx hb dX3_closure_33 (lv_at hl 0 rfl) ?_
                obtain ⟨hg_25, hM⟩ := gd_some hM
                refine mi_ald S hG 38 38 rfl ec_38 (Nat.lt_of_lt_of_le (Nat.le_of_ble_eq_true rfl) hn) dX3_closure_35 hg_25 (by decide) ?_
                refine gi_or hx hb dX3_closure_36 ?_
                refine gi_nm (fun x_26 ex_26 => ?_)
                replace hM := nx_at hM ex_26
                clear ex_26
                refine lv_istore_n (lv' := [(2, .int (iI x_26)), (4, .int (iI v_13)), (3, .int (iI v_3)), (0, .ref (b + 38))]) hx hb dX3_closure_37 rfl hl (by decide) rfl (fun ls hl => ?_)
                refine lv_iinc (v := iI (v_13 + 1)) (lv' := [(4, .int (iI (v_13 + 1))), (2, .int (iI x_26)), (3, .int (iI v_3)), (0, .ref (b + 38))]) hx hb dX3_closure_38 hl (k := 1) rfl ((iI_add v_13 (1)).trans (congrArg iI (by omega))) (by decide) rfl (fun ls hl => ?_)
                refine lv_goto (tgt := 15) hx hb dX3_closure_41 (by decide) ?_
                exact ih_19 (v_13 + 1) x_26 H locs ls hM hG (lv_sub hl [0, 2, 1, 3] rfl)
        exact loop_18 FU 0 v_4 H locs ls hc_16 hG (lv_sub hl [0, 1, 2, 3] rfl)
  exact loop_8 FU 0 x_2 H locs ls hc_6 hG (lv_sub hl [0, 1, 2] rfl)
def mX11_reaches (S0 : St) (a1 : Int) : Option (Int) := bd1 (mX11_known S0 a1) fun r_2 => gd (inI r_2) <| if r_2 = 0 then (some ((-2))) else (bd1 (mX3_closure_38 S0 a1) fun r_6 => some (r_6))
set_option maxHeartbeats 4000000 in
set_option maxRecDepth 100000 in
theorem vX11_reaches (l : Launch) {D : va_G} {cy : Nat → ClassId} {b n : Nat} (hn : 102 ≤ n) {X : Nat → va_E} {S0 : St} (a1 : Int) {o1 : Int} (hM : mX11_reaches S0 a1 = some o1) : gI l yX11_reaches cX11_reaches 2 (some .int) 1 0 0 D cy b n (enc b cy X S0) [.ref (b + 0), .int (iI a1)] (fun r u => r = iI o1 ∧ u = (n, enc b cy X S0)) := by
  refine gI_of (by decide) (Nat.le_of_ble_eq_true rfl) ?_
  intro p e s m args below meth c S hr hlk hin hsz ls hl hG
  have hx := S.1
  have hb := S.2.1
  have hl : lv_has ls 2 [(0, .ref (b + 0)), (1, .int (iI a1))] := hl
  replace hG : gW D cy b n s s.heap [] (enc b cy X S0) := hG
  obtain ⟨H, eH⟩ : ∃ H, H = s.heap := ⟨_, rfl⟩
  obtain ⟨locs, elocs⟩ : ∃ locs : List Loc, locs = [] := ⟨_, rfl⟩
  rw [← eH, ← elocs] at hG
  rw [← eH, ← elocs]
  clear eH elocs
  unfold mX11_reaches at hM
  refine lv_aload_n hx hb dX11_reaches_0 rfl (lv_at hl 0 rfl) ?_
  refine lv_iload_n hx hb dX11_reaches_1 rfl (lv_at hl 1 rfl) ?_
  obtain ⟨r_2, hc_1, hM⟩ := bd1_some hM
  refine g_vi (As := [.int (iI a1)]) (rest := []) S hG hsz (vX11_known l hn a1 hc_1) wV_11_168 (ec_0 _) cpX11 (Nat.lt_of_lt_of_le (Nat.le_of_ble_eq_true rfl) hn) dX11_reaches_2 rfl hl.1 (ar := 1) (by decide +kernel) rfl ⟨Nat.le_of_ble_eq_true rfl, Nat.le_of_ble_eq_true rfl, Nat.le_of_ble_eq_true rfl, Nat.le_of_ble_eq_true rfl⟩ (Nat.le_of_ble_eq_true rfl) (fun rv uu H locs hp hG => ?_)
  obtain ⟨rfl, rfl⟩ := hp
  replace hG : gW D cy b n s H locs (enc b cy X S0) := hG
  obtain ⟨hg_3, hM⟩ := gd_some hM
  refine gi_if_eq (tgt := 22) hx hb dX11_reaches_5 (by decide) hg_3 (fun c_4 => ?_) (fun c_4 => ?_)
  · replace hM := ifp hM c_4
    refine lv_bipush (v := iI (-2)) hx hb dX11_reaches_22 (by decide) ?_
    cases hM
    exact g_iret S hr hlk hG hsz dX11_reaches_24 ⟨Nat.le_of_ble_eq_true rfl, Nat.le_of_ble_eq_true rfl⟩ ⟨rfl, rfl⟩
  · replace hM := ifn hM c_4
    refine lv_aload_n hx hb dX11_reaches_8 rfl (lv_at hl 0 rfl) ?_
    refine m_get S hG 0 0 6 rfl ec_0 cpX11 wm_671 dX11_reaches_9 rfl (Nat.lt_of_lt_of_le (Nat.le_of_ble_eq_true rfl) hn) (by decide) ?_
    refine m_get S hG 33 33 7 rfl ec_33 cpX3 wm_330 dX11_reaches_12 rfl (Nat.lt_of_lt_of_le (Nat.le_of_ble_eq_true rfl) hn) (by decide) ?_
    refine lv_iload_n hx hb dX11_reaches_15 rfl (lv_at hl 1 rfl) ?_
    obtain ⟨r_6, hc_5, hM⟩ := bd1_some hM
    refine g_si (As := [.ref (b + 38), .int (iI a1)]) (rest := []) S hG hsz (vX3_closure_38 l hn a1 hc_5) wS_11_188 dX11_reaches_16 rfl hl.1 (ar := 2) (by decide +kernel) rfl ⟨Nat.le_of_ble_eq_true rfl, Nat.le_of_ble_eq_true rfl, Nat.le_of_ble_eq_true rfl, Nat.le_of_ble_eq_true rfl⟩ (Nat.le_of_ble_eq_true rfl) (fun rv uu H locs hp hG => ?_)
    obtain ⟨rfl, rfl⟩ := hp
    replace hG : gW D cy b n s H locs (enc b cy X S0) := hG
    refine lv_goto (tgt := 24) hx hb dX11_reaches_19 (by decide) ?_
    cases hM
    exact g_iret S hr hlk hG hsz dX11_reaches_24 ⟨Nat.le_of_ble_eq_true rfl, Nat.le_of_ble_eq_true rfl⟩ ⟨rfl, rfl⟩
def mX11_empty (S0 : St) (a1 : Int) : Option (Int) := bd1 (mX11_known S0 a1) fun r_2 => gd (inI r_2) <| if r_2 = 0 then (some ((-2))) else (some ((an (shr (S0 33 2) a1) 1)))
set_option maxHeartbeats 4000000 in
set_option maxRecDepth 100000 in
theorem vX11_empty (l : Launch) {D : va_G} {cy : Nat → ClassId} {b n : Nat} (hn : 102 ≤ n) {X : Nat → va_E} {S0 : St} (a1 : Int) {o1 : Int} (hM : mX11_empty S0 a1 = some o1) : gI l yX11_empty cX11_empty 2 (some .int) 1 0 0 D cy b n (enc b cy X S0) [.ref (b + 0), .int (iI a1)] (fun r u => r = iI o1 ∧ u = (n, enc b cy X S0)) := by
  refine gI_of (by decide) (Nat.le_of_ble_eq_true rfl) ?_
  intro p e s m args below meth c S hr hlk hin hsz ls hl hG
  have hx := S.1
  have hb := S.2.1
  have hl : lv_has ls 2 [(0, .ref (b + 0)), (1, .int (iI a1))] := hl
  replace hG : gW D cy b n s s.heap [] (enc b cy X S0) := hG
  obtain ⟨H, eH⟩ : ∃ H, H = s.heap := ⟨_, rfl⟩
  obtain ⟨locs, elocs⟩ : ∃ locs : List Loc, locs = [] := ⟨_, rfl⟩
  rw [← eH, ← elocs] at hG
  rw [← eH, ← elocs]
  clear eH elocs
  unfold mX11_empty at hM
  refine lv_aload_n hx hb dX11_empty_0 rfl (lv_at hl 0 rfl) ?_
  refine lv_iload_n hx hb dX11_empty_1 rfl (lv_at hl 1 rfl) ?_
  obtain ⟨r_2, hc_1, hM⟩ := bd1_some hM
  refine g_vi (As := [.int (iI a1)]) (rest := []) S hG hsz (vX11_known l hn a1 hc_1) wV_11_168 (ec_0 _) cpX11 (Nat.lt_of_lt_of_le (Nat.le_of_ble_eq_true rfl) hn) dX11_empty_2 rfl hl.1 (ar := 1) (by decide +kernel) rfl ⟨Nat.le_of_ble_eq_true rfl, Nat.le_of_ble_eq_true rfl, Nat.le_of_ble_eq_true rfl, Nat.le_of_ble_eq_true rfl⟩ (Nat.le_of_ble_eq_true rfl) (fun rv uu H locs hp hG => ?_)
  obtain ⟨rfl, rfl⟩ := hp
  replace hG : gW D cy b n s H locs (enc b cy X S0) := hG
  obtain ⟨hg_3, hM⟩ := gd_some hM
  refine gi_if_eq (tgt := 22) hx hb dX11_empty_5 (by decide) hg_3 (fun c_4 => ?_) (fun c_4 => ?_)
  · replace hM := ifp hM c_4
    refine lv_bipush (v := iI (-2)) hx hb dX11_empty_22 (by decide) ?_
    cases hM
    exact g_iret S hr hlk hG hsz dX11_empty_24 ⟨Nat.le_of_ble_eq_true rfl, Nat.le_of_ble_eq_true rfl⟩ ⟨rfl, rfl⟩
  · replace hM := ifn hM c_4
    refine lv_aload_n hx hb dX11_empty_8 rfl (lv_at hl 0 rfl) ?_
    refine m_get S hG 0 0 6 rfl ec_0 cpX11 wm_671 dX11_empty_9 rfl (Nat.lt_of_lt_of_le (Nat.le_of_ble_eq_true rfl) hn) (by decide) ?_
    refine m_get S hG 33 33 2 rfl ec_33 cpX3 wm_322 dX11_empty_12 rfl (Nat.lt_of_lt_of_le (Nat.le_of_ble_eq_true rfl) hn) (by decide) ?_
    refine lv_iload_n hx hb dX11_empty_15 rfl (lv_at hl 1 rfl) ?_
    refine gi_shr hx hb dX11_empty_16 ?_
    refine lv_iconst (v := iI 1) hx hb dX11_empty_17 (by decide) ?_
    refine gi_and hx hb dX11_empty_18 ?_
    refine lv_goto (tgt := 24) hx hb dX11_empty_19 (by decide) ?_
    cases hM
    exact g_iret S hr hlk hG hsz dX11_empty_24 ⟨Nat.le_of_ble_eq_true rfl, Nat.le_of_ble_eq_true rfl⟩ ⟨rfl, rfl⟩
def mX11_leans (S0 : St) (a1 : Int) : Option (Int) := bd1 (mX11_known S0 a1) fun r_2 => gd (inI r_2) <| if r_2 = 0 then (some ((-2))) else (gd (0 ≤ a1 ∧ a1 < 6) <| some ((S0 37 a1)))
set_option maxHeartbeats 4000000 in
set_option maxRecDepth 100000 in
theorem vX11_leans (l : Launch) {D : va_G} {cy : Nat → ClassId} {b n : Nat} (hn : 102 ≤ n) {X : Nat → va_E} {S0 : St} (a1 : Int) {o1 : Int} (hM : mX11_leans S0 a1 = some o1) : gI l yX11_leans cX11_leans 2 (some .int) 1 0 0 D cy b n (enc b cy X S0) [.ref (b + 0), .int (iI a1)] (fun r u => r = iI o1 ∧ u = (n, enc b cy X S0)) := by
  refine gI_of (by decide) (Nat.le_of_ble_eq_true rfl) ?_
  intro p e s m args below meth c S hr hlk hin hsz ls hl hG
  have hx := S.1
  have hb := S.2.1
  have hl : lv_has ls 2 [(0, .ref (b + 0)), (1, .int (iI a1))] := hl
  replace hG : gW D cy b n s s.heap [] (enc b cy X S0) := hG
  obtain ⟨H, eH⟩ : ∃ H, H = s.heap := ⟨_, rfl⟩
  obtain ⟨locs, elocs⟩ : ∃ locs : List Loc, locs = [] := ⟨_, rfl⟩
  rw [← eH, ← elocs] at hG
  rw [← eH, ← elocs]
  clear eH elocs
  unfold mX11_leans at hM
  refine lv_aload_n hx hb dX11_leans_0 rfl (lv_at hl 0 rfl) ?_
  refine lv_iload_n hx hb dX11_leans_1 rfl (lv_at hl 1 rfl) ?_
  obtain ⟨r_2, hc_1, hM⟩ := bd1_some hM
  refine g_vi (As := [.int (iI a1)]) (rest := []) S hG hsz (vX11_known l hn a1 hc_1) wV_11_168 (ec_0 _) cpX11 (Nat.lt_of_lt_of_le (Nat.le_of_ble_eq_true rfl) hn) dX11_leans_2 rfl hl.1 (ar := 1) (by decide +kernel) rfl ⟨Nat.le_of_ble_eq_true rfl, Nat.le_of_ble_eq_true rfl, Nat.le_of_ble_eq_true rfl, Nat.le_of_ble_eq_true rfl⟩ (Nat.le_of_ble_eq_true rfl) (fun rv uu H locs hp hG => ?_)
  obtain ⟨rfl, rfl⟩ := hp
  replace hG : gW D cy b n s H locs (enc b cy X S0) := hG
  obtain ⟨hg_3, hM⟩ := gd_some hM
  refine gi_if_eq (tgt := 20) hx hb dX11_leans_5 (by decide) hg_3 (fun c_4 => ?_) (fun c_4 => ?_)
  · replace hM := ifp hM c_4
    refine lv_bipush (v := iI (-2)) hx hb dX11_leans_20 (by decide) ?_
    cases hM
    exact g_iret S hr hlk hG hsz dX11_leans_22 ⟨Nat.le_of_ble_eq_true rfl, Nat.le_of_ble_eq_true rfl⟩ ⟨rfl, rfl⟩
  · replace hM := ifn hM c_4
    refine lv_aload_n hx hb dX11_leans_8 rfl (lv_at hl 0 rfl) ?_
    refine m_get S hG 0 0 6 rfl ec_0 cpX11 wm_671 dX11_leans_9 rfl (Nat.lt_of_lt_of_le (Nat.le_of_ble_eq_true rfl) hn) (by decide) ?_
    refine m_get S hG 33 33 6 rfl ec_33 cpX3 wm_328 dX11_leans_12 rfl (Nat.lt_of_lt_of_le (Nat.le_of_ble_eq_true rfl) hn) (by decide) ?_
    refine lv_iload_n hx hb dX11_leans_15 rfl (lv_at hl 1 rfl) ?_
    obtain ⟨hg_5, hM⟩ := gd_some hM
    refine mi_ald S hG 37 37 rfl ec_37 (Nat.lt_of_lt_of_le (Nat.le_of_ble_eq_true rfl) hn) dX11_leans_16 hg_5 (by decide) ?_
    refine lv_goto (tgt := 22) hx hb dX11_leans_17 (by decide) ?_
    cases hM
    exact g_iret S hr hlk hG hsz dX11_leans_22 ⟨Nat.le_of_ble_eq_true rfl, Nat.le_of_ble_eq_true rfl⟩ ⟨rfl, rfl⟩
theorem wV_11_202 : gWV "GrownKinds" 202 yX11_first cX11_first 5 (some .int) := ⟨wm_1138, wm_1139, wm_1140, wm_177, wm_1141, by decide +kernel, by decide +kernel⟩
theorem wV_11_206 : gWV "GrownKinds" 206 yX0_thingsAt cX0_thingsAt 3 (some .long) := ⟨wm_1143, wm_1144, wm_1145, wm_181, wm_1146, by decide +kernel, by decide +kernel⟩
def mX0_thingsAt_40 (S0 : St) (a1 : Int) (a2 : Int) : Option (Int) := gd (0 ≤ ((a1 * 64) + (a2 * 8)) ∧ ((a1 * 64) + (a2 * 8)) < 384) <| gd (inL (S0 43 ((a1 * 64) + (a2 * 8)))) <| some ((min 1000000000000 (S0 43 ((a1 * 64) + (a2 * 8)))))
set_option maxHeartbeats 4000000 in
set_option maxRecDepth 100000 in
theorem vX0_thingsAt_40 (l : Launch) {D : va_G} {cy : Nat → ClassId} {b n : Nat} (hn : 102 ≤ n) {X : Nat → va_E} {S0 : St} (a1 : Int) (a2 : Int) {o1 : Int} (hM : mX0_thingsAt_40 S0 a1 a2 = some o1) : gL l yX0_thingsAt cX0_thingsAt 3 1 0 0 D cy b n (enc b cy X S0) [.ref (b + 40), .int (iI a1), .int (iI a2)] (fun r u => r = jJ o1 ∧ u = (n, enc b cy X S0)) := by
  refine gL_of (by decide) (Nat.le_of_ble_eq_true rfl) ?_
  intro p e s m args below meth c S hr hlk hin hsz ls hl hG
  have hx := S.1
  have hb := S.2.1
  have hl : lv_has ls 3 [(0, .ref (b + 40)), (1, .int (iI a1)), (2, .int (iI a2))] := hl
  replace hG : gW D cy b n s s.heap [] (enc b cy X S0) := hG
  obtain ⟨H, eH⟩ : ∃ H, H = s.heap := ⟨_, rfl⟩
  obtain ⟨locs, elocs⟩ : ∃ locs : List Loc, locs = [] := ⟨_, rfl⟩
  rw [← eH, ← elocs] at hG
  rw [← eH, ← elocs]
  clear eH elocs
  unfold mX0_thingsAt_40 at hM
  refine lv_ldc2 (v := 1000000000000) hx hb S.2.2.2.1 (S.2.2.2.2 _ wm_1147) dX0_thingsAt_0 ?_
  refine gj_as 1000000000000 (by decide) ?_
  refine lv_aload_n hx hb dX0_thingsAt_3 rfl (lv_at hl 0 rfl) ?_
  refine m_get S hG 40 40 4 rfl ec_40 cpX0 wm_407 dX0_thingsAt_4 rfl (Nat.lt_of_lt_of_le (Nat.le_of_ble_eq_true rfl) hn) (by decide) ?_
  refine lv_iload_n hx hb dX0_thingsAt_7 rfl (lv_at hl 1 rfl) ?_
  refine lv_bipush (v := iI 64) hx hb dX0_thingsAt_8 (by decide) ?_
  refine gi_mul hx hb dX0_thingsAt_10 ?_
  refine lv_iload_n hx hb dX0_thingsAt_11 rfl (lv_at hl 2 rfl) ?_
  refine lv_bipush (v := iI 8) hx hb dX0_thingsAt_12 (by decide) ?_
  refine gi_mul hx hb dX0_thingsAt_14 ?_
  refine gi_add hx hb dX0_thingsAt_15 ?_
  obtain ⟨hg_1, hM⟩ := gd_some hM
  refine mj_ald S hG 43 43 rfl ec_43 (Nat.lt_of_lt_of_le (Nat.le_of_ble_eq_true rfl) hn) dX0_thingsAt_16 hg_1 (by decide) ?_
  obtain ⟨hg_2, hM⟩ := gd_some hM
  refine gj_min S wm_1148 wm_1149 wm_190 wm_1150 hl.1 dX0_thingsAt_17 ⟨Nat.le_of_ble_eq_true rfl, Nat.le_of_ble_eq_true rfl, Nat.le_of_ble_eq_true rfl, Nat.le_of_ble_eq_true rfl⟩ (by decide) hg_2 ?_
  cases hM
  exact g_lret S hr hlk hG hsz dX0_thingsAt_20 ⟨Nat.le_of_ble_eq_true rfl, Nat.le_of_ble_eq_true rfl⟩ ⟨rfl, rfl⟩
def mX11_first_28 (S0 : St) (a1 : Int) (a2 : Int) : Nat → Int → Option (Int × Int)
  | 0, _ => none
  | f + 1, v_8 => gd ((inI v_8) ∧ (inI (S0 2 0))) <| if (S0 2 0) < v_8 then (some (1, v_8)) else (bd1 (mX0_thingsAt_40 S0 a1 v_8) fun r_20 => gd (inL r_20) <| if r_20 < a2 then (mX11_first_28 S0 a1 a2 f (v_8 + 1)) else (some (0, v_8)))
def mX11_first (S0 : St) (a1 : Int) (a2 : Int) : Option (Int) := bd1 (mX11_known S0 a1) fun r_2 => gd (inI r_2) <| if r_2 = 0 then (some ((-2))) else (gd (inL a2) <| if a2 < 1 then (some ((-2))) else (if a2 ≤ 1000000000000 then (bd2 (mX11_first_28 S0 a1 a2 FU 0) fun t_9 y_10 => if t_9 = 0 then (some (y_10)) else (some ((-1)))) else (some ((-2)))))
set_option maxHeartbeats 4000000 in
set_option maxRecDepth 100000 in
theorem vX11_first (l : Launch) {D : va_G} {cy : Nat → ClassId} {b n : Nat} (hn : 102 ≤ n) {X : Nat → va_E} {S0 : St} (a1 : Int) (a2 : Int) {o1 : Int} (hM : mX11_first S0 a1 a2 = some o1) : gI l yX11_first cX11_first 5 (some .int) 2 0 0 D cy b n (enc b cy X S0) [.ref (b + 0), .int (iI a1), .long (jJ a2)] (fun r u => r = iI o1 ∧ u = (n, enc b cy X S0)) := by
  refine gI_of (by decide) (Nat.le_of_ble_eq_true rfl) ?_
  intro p e s m args below meth c S hr hlk hin hsz ls hl hG
  have hx := S.1
  have hb := S.2.1
  have hl : lv_has ls 5 [(0, .ref (b + 0)), (1, .int (iI a1)), (2, .long (jJ a2))] := hl
  replace hG : gW D cy b n s s.heap [] (enc b cy X S0) := hG
  obtain ⟨H, eH⟩ : ∃ H, H = s.heap := ⟨_, rfl⟩
  obtain ⟨locs, elocs⟩ : ∃ locs : List Loc, locs = [] := ⟨_, rfl⟩
  rw [← eH, ← elocs] at hG
  rw [← eH, ← elocs]
  clear eH elocs
  unfold mX11_first at hM
  refine lv_aload_n hx hb dX11_first_0 rfl (lv_at hl 0 rfl) ?_
  refine lv_iload_n hx hb dX11_first_1 rfl (lv_at hl 1 rfl) ?_
  obtain ⟨r_2, hc_1, hM⟩ := bd1_some hM
  refine g_vi (As := [.int (iI a1)]) (rest := []) S hG hsz (vX11_known l hn a1 hc_1) wV_11_168 (ec_0 _) cpX11 (Nat.lt_of_lt_of_le (Nat.le_of_ble_eq_true rfl) hn) dX11_first_2 rfl hl.1 (ar := 1) (by decide +kernel) rfl ⟨Nat.le_of_ble_eq_true rfl, Nat.le_of_ble_eq_true rfl, Nat.le_of_ble_eq_true rfl, Nat.le_of_ble_eq_true rfl⟩ (Nat.le_of_ble_eq_true rfl) (fun rv uu H locs hp hG => ?_)
  obtain ⟨rfl, rfl⟩ := hp
  replace hG : gW D cy b n s H locs (enc b cy X S0) := hG
  obtain ⟨hg_3, hM⟩ := gd_some hM
  refine gi_if_eq (tgt := 22) hx hb dX11_first_5 (by decide) hg_3 (fun c_4 => ?_) (fun c_4 => ?_)
  · replace hM := ifp hM c_4
    refine lv_bipush (v := iI (-2)) hx hb dX11_first_22 (by decide) ?_
    cases hM
    exact g_iret S hr hlk hG hsz dX11_first_24 ⟨Nat.le_of_ble_eq_true rfl, Nat.le_of_ble_eq_true rfl⟩ ⟨rfl, rfl⟩
  · replace hM := ifn hM c_4
    refine lv_lload_n hx hb dX11_first_8 rfl (lv_at hl 2 rfl) ?_
    refine lv_lconst (v := jJ 1) hx hb dX11_first_9 (by decide) ?_
    obtain ⟨hg_5, hM⟩ := gd_some hM
    refine gj_cmp_lt (tgt := 22) hx hb dX11_first_10 dX11_first_11 (by decide) hg_5 (by decide) (fun c_6 => ?_) (fun c_6 => ?_)
    · replace hM := ifp hM c_6
      refine lv_bipush (v := iI (-2)) hx hb dX11_first_22 (by decide) ?_
      cases hM
      exact g_iret S hr hlk hG hsz dX11_first_24 ⟨Nat.le_of_ble_eq_true rfl, Nat.le_of_ble_eq_true rfl⟩ ⟨rfl, rfl⟩
    · replace hM := ifn hM c_6
      refine lv_lload_n hx hb dX11_first_14 rfl (lv_at hl 2 rfl) ?_
      refine lv_ldc2 (v := 1000000000000) hx hb S.2.2.2.1 (S.2.2.2.2 _ wm_1142) dX11_first_15 ?_
      refine gj_as 1000000000000 (by decide) ?_
      refine gj_cmp_le (tgt := 25) hx hb dX11_first_18 dX11_first_19 (by decide) hg_5 (by decide) (fun c_7 => ?_) (fun c_7 => ?_)
      · replace hM := ifp hM c_7
        refine lv_iconst (v := iI 0) hx hb dX11_first_25 (by decide) ?_
        refine lv_istore (lv' := [(4, .int (iI 0)), (0, .ref (b + 0)), (1, .int (iI a1)), (2, .long (jJ a2))]) hx hb dX11_first_26 hl (by decide) rfl (fun ls hl => ?_)
        obtain ⟨t_9, y_10, hc_11, hM⟩ := bd2_some hM
        have hK_12 : ∀ (H : Heap) (locs : List Loc) (ls : Array Slot), t_9 = 0 → gW D cy b n s H locs (enc b cy X S0) → lv_has ls 5 [(4, .int (iI y_10))] → W p l e (gRm 2 0 0) s m args below meth c H locs 0 0 (gQI D cy b s args below 0 0 (fun r u => r = iI o1 ∧ u = (n, enc b cy X S0))) (F0 m 55 ls []) := by
          intro H locs ls ht hG hl
          subst ht
          replace hM := ifp hM rfl
          refine lv_iload hx hb dX11_first_55 (lv_at hl 0 rfl) ?_
          cases hM
          exact g_iret S hr hlk hG hsz dX11_first_57 ⟨Nat.le_of_ble_eq_true rfl, Nat.le_of_ble_eq_true rfl⟩ ⟨rfl, rfl⟩
        have hK_13 : ∀ (H : Heap) (locs : List Loc) (ls : Array Slot), t_9 = 1 → gW D cy b n s H locs (enc b cy X S0) → lv_has ls 5 [] → W p l e (gRm 2 0 0) s m args below meth c H locs 0 0 (gQI D cy b s args below 0 0 (fun r u => r = iI o1 ∧ u = (n, enc b cy X S0))) (F0 m 64 ls []) := by
          intro H locs ls ht hG hl
          subst ht
          replace hM := ifn hM (by decide)
          refine lv_iconst (v := iI (-1)) hx hb dX11_first_64 (by decide) ?_
          cases hM
          exact g_iret S hr hlk hG hsz dX11_first_65 ⟨Nat.le_of_ble_eq_true rfl, Nat.le_of_ble_eq_true rfl⟩ ⟨rfl, rfl⟩
        have loop_14 : ∀ (f : Nat) (v_8 : Int) (H : Heap) (locs : List Loc) (ls : Array Slot), mX11_first_28 S0 a1 a2 f v_8 = some (t_9, y_10) → gW D cy b n s H locs (enc b cy X S0) → lv_has ls 5 [(4, .int (iI v_8)), (0, .ref (b + 0)), (1, .int (iI a1)), (2, .long (jJ a2))] → W p l e (gRm 2 0 0) s m args below meth c H locs 0 0 (gQI D cy b s args below 0 0 (fun r u => r = iI o1 ∧ u = (n, enc b cy X S0))) (F0 m 28 ls []) := by
          clear hM
          intro f
          induction f with
          | zero => intro v_8 H locs ls hM; rw [mX11_first_28] at hM; cases hM
          | succ f_16 ih_15 =>
            intro v_8 H locs ls hM hG hl
            rw [mX11_first_28] at hM
            refine lv_iload hx hb dX11_first_28 (lv_at hl 0 rfl) ?_
            refine lv_aload_n hx hb dX11_first_30 rfl (lv_at hl 1 rfl) ?_
            refine m_get S hG 0 0 2 rfl ec_0 cpX11 wm_667 dX11_first_31 rfl (Nat.lt_of_lt_of_le (Nat.le_of_ble_eq_true rfl) hn) (by decide) ?_
            refine m_get S hG 2 2 0 rfl ec_2 cpX2 wm_215 dX11_first_34 rfl (Nat.lt_of_lt_of_le (Nat.le_of_ble_eq_true rfl) hn) (by decide) ?_
            obtain ⟨hg_17, hM⟩ := gd_some hM
            refine gi_icmp_gt (tgt := 64) hx hb dX11_first_37 (by decide) hg_17.1 hg_17.2 (fun c_18 => ?_) (fun c_18 => ?_)
            · replace hM := ifp hM c_18
              cases hM
              exact hK_13 H locs ls rfl hG (lv_sub hl [] rfl)
            · replace hM := ifn hM c_18
              refine lv_aload_n hx hb dX11_first_40 rfl (lv_at hl 1 rfl) ?_
              refine m_get S hG 0 0 7 rfl ec_0 cpX11 wm_672 dX11_first_41 rfl (Nat.lt_of_lt_of_le (Nat.le_of_ble_eq_true rfl) hn) (by decide) ?_
              refine lv_iload_n hx hb dX11_first_44 rfl (lv_at hl 2 rfl) ?_
              refine lv_iload hx hb dX11_first_45 (lv_at hl 0 rfl) ?_
              obtain ⟨r_20, hc_19, hM⟩ := bd1_some hM
              refine g_vl (As := [.int (iI a1), .int (iI v_8)]) (rest := []) S hG hsz (vX0_thingsAt_40 l hn a1 v_8 hc_19) wV_11_206 (ec_40 _) cpX0 (Nat.lt_of_lt_of_le (Nat.le_of_ble_eq_true rfl) hn) dX11_first_47 rfl hl.1 (ar := 2) (by decide +kernel) rfl ⟨Nat.le_of_ble_eq_true rfl, Nat.le_of_ble_eq_true rfl, Nat.le_of_ble_eq_true rfl, Nat.le_of_ble_eq_true rfl⟩ (Nat.le_of_ble_eq_true rfl) (fun rv uu H locs hp hG => ?_)
              obtain ⟨rfl, rfl⟩ := hp
              replace hG : gW D cy b n s H locs (enc b cy X S0) := hG
              refine lv_lload_n hx hb dX11_first_50 rfl (lv_at hl 3 rfl) ?_
              obtain ⟨hg_21, hM⟩ := gd_some hM
              refine gj_cmp_lt (tgt := 58) hx hb dX11_first_51 dX11_first_52 (by decide) hg_21 hg_5 (fun c_22 => ?_) (fun c_22 => ?_)
              · replace hM := ifp hM c_22
                refine lv_iinc (v := iI (v_8 + 1)) (lv' := [(4, .int (iI (v_8 + 1))), (0, .ref (b + 0)), (1, .int (iI a1)), (2, .long (jJ a2))]) hx hb dX11_first_58 hl (k := 0) rfl ((iI_add v_8 (1)).trans (congrArg iI (by omega))) (by decide) rfl (fun ls hl => ?_)
                refine lv_goto (tgt := 28) hx hb dX11_first_61 (by decide) ?_
                exact ih_15 (v_8 + 1) H locs ls hM hG (lv_sub hl [0, 1, 2, 3] rfl)
              · replace hM := ifn hM c_22
                cases hM
                exact hK_12 H locs ls rfl hG (lv_sub hl [0] rfl)
        exact loop_14 FU 0 H locs ls hc_11 hG (lv_sub hl [0, 1, 2, 3] rfl)
      · replace hM := ifn hM c_7
        refine lv_bipush (v := iI (-2)) hx hb dX11_first_22 (by decide) ?_
        cases hM
        exact g_iret S hr hlk hG hsz dX11_first_24 ⟨Nat.le_of_ble_eq_true rfl, Nat.le_of_ble_eq_true rfl⟩ ⟨rfl, rfl⟩
def mX11_least (S0 : St) (a1 : Int) : Option (Int) := bd1 (mX11_first S0 a1 1) fun r_2 => some (r_2)
set_option maxHeartbeats 4000000 in
set_option maxRecDepth 100000 in
theorem vX11_least (l : Launch) {D : va_G} {cy : Nat → ClassId} {b n : Nat} (hn : 102 ≤ n) {X : Nat → va_E} {S0 : St} (a1 : Int) {o1 : Int} (hM : mX11_least S0 a1 = some o1) : gI l yX11_least cX11_least 2 (some .int) 3 0 0 D cy b n (enc b cy X S0) [.ref (b + 0), .int (iI a1)] (fun r u => r = iI o1 ∧ u = (n, enc b cy X S0)) := by
  refine gI_of (by decide) (Nat.le_of_ble_eq_true rfl) ?_
  intro p e s m args below meth c S hr hlk hin hsz ls hl hG
  have hx := S.1
  have hb := S.2.1
  have hl : lv_has ls 2 [(0, .ref (b + 0)), (1, .int (iI a1))] := hl
  replace hG : gW D cy b n s s.heap [] (enc b cy X S0) := hG
  obtain ⟨H, eH⟩ : ∃ H, H = s.heap := ⟨_, rfl⟩
  obtain ⟨locs, elocs⟩ : ∃ locs : List Loc, locs = [] := ⟨_, rfl⟩
  rw [← eH, ← elocs] at hG
  rw [← eH, ← elocs]
  clear eH elocs
  unfold mX11_least at hM
  refine lv_aload_n hx hb dX11_least_0 rfl (lv_at hl 0 rfl) ?_
  refine lv_iload_n hx hb dX11_least_1 rfl (lv_at hl 1 rfl) ?_
  refine lv_lconst (v := jJ 1) hx hb dX11_least_2 (by decide) ?_
  obtain ⟨r_2, hc_1, hM⟩ := bd1_some hM
  refine g_vi (As := [.int (iI a1), .long (jJ 1)]) (rest := []) S hG hsz (vX11_first l hn a1 1 hc_1) wV_11_202 (ec_0 _) cpX11 (Nat.lt_of_lt_of_le (Nat.le_of_ble_eq_true rfl) hn) dX11_least_3 rfl hl.1 (ar := 2) (by decide +kernel) rfl ⟨Nat.le_of_ble_eq_true rfl, Nat.le_of_ble_eq_true rfl, Nat.le_of_ble_eq_true rfl, Nat.le_of_ble_eq_true rfl⟩ (Nat.le_of_ble_eq_true rfl) (fun rv uu H locs hp hG => ?_)
  obtain ⟨rfl, rfl⟩ := hp
  replace hG : gW D cy b n s H locs (enc b cy X S0) := hG
  cases hM
  exact g_iret S hr hlk hG hsz dX11_least_6 ⟨Nat.le_of_ble_eq_true rfl, Nat.le_of_ble_eq_true rfl⟩ ⟨rfl, rfl⟩
theorem wV_11_198 : gWV "GrownKinds" 198 yX11_least cX11_least 2 (some .int) := ⟨wm_1134, wm_1135, wm_1136, wm_177, wm_1137, by decide +kernel, by decide +kernel⟩
def mX11_blank_17 (S0 : St)  : Nat → Int → Int → Option (Int)
  | 0, _, _ => none
  | f + 1, v_3, v_4 => gd ((inI v_3) ∧ (inI (S0 2 1))) <| if (S0 2 1) ≤ v_3 then (some (v_4)) else (bd1 (mX11_least S0 v_3) fun r_14 => gd (inI r_14) <| if r_14 = (-1) then (nx (orr v_4 (shl 1 v_3)) fun x_17 => mX11_blank_17 S0 f (v_3 + 1) x_17) else (mX11_blank_17 S0 f (v_3 + 1) v_4))
def mX11_blank (S0 : St)  : Option (Int) := gd (inI (S0 2 2)) <| if (S0 2 2) = 0 then (some ((-2))) else (bd1 (mX11_blank_17 S0 FU 0 0) fun y_5 => some (y_5))
set_option maxHeartbeats 4000000 in
set_option maxRecDepth 100000 in
theorem vX11_blank (l : Launch) {D : va_G} {cy : Nat → ClassId} {b n : Nat} (hn : 102 ≤ n) {X : Nat → va_E} {S0 : St}  {o1 : Int} (hM : mX11_blank S0  = some o1) : gI l yX11_blank cX11_blank 3 (some .int) 4 0 0 D cy b n (enc b cy X S0) [.ref (b + 0)] (fun r u => r = iI o1 ∧ u = (n, enc b cy X S0)) := by
  refine gI_of (by decide) (Nat.le_of_ble_eq_true rfl) ?_
  intro p e s m args below meth c S hr hlk hin hsz ls hl hG
  have hx := S.1
  have hb := S.2.1
  have hl : lv_has ls 3 [(0, .ref (b + 0))] := hl
  replace hG : gW D cy b n s s.heap [] (enc b cy X S0) := hG
  obtain ⟨H, eH⟩ : ∃ H, H = s.heap := ⟨_, rfl⟩
  obtain ⟨locs, elocs⟩ : ∃ locs : List Loc, locs = [] := ⟨_, rfl⟩
  rw [← eH, ← elocs] at hG
  rw [← eH, ← elocs]
  clear eH elocs
  unfold mX11_blank at hM
  refine lv_aload_n hx hb dX11_blank_0 rfl (lv_at hl 0 rfl) ?_
  refine m_get S hG 0 0 2 rfl ec_0 cpX11 wm_667 dX11_blank_1 rfl (Nat.lt_of_lt_of_le (Nat.le_of_ble_eq_true rfl) hn) (by decide) ?_
  refine m_get S hG 2 2 2 rfl ec_2 cpX2 wm_225 dX11_blank_4 rfl (Nat.lt_of_lt_of_le (Nat.le_of_ble_eq_true rfl) hn) (by decide) ?_
  obtain ⟨hg_1, hM⟩ := gd_some hM
  refine gi_if_ne (tgt := 13) hx hb dX11_blank_7 (by decide) hg_1 (fun c_2 => ?_) (fun c_2 => ?_)
  · replace hM := ifn hM c_2
    refine lv_iconst (v := iI 0) hx hb dX11_blank_13 (by decide) ?_
    refine lv_istore_n (lv' := [(1, .int (iI 0)), (0, .ref (b + 0))]) hx hb dX11_blank_14 rfl hl (by decide) rfl (fun ls hl => ?_)
    refine lv_iconst (v := iI 0) hx hb dX11_blank_15 (by decide) ?_
    refine lv_istore_n (lv' := [(2, .int (iI 0)), (1, .int (iI 0)), (0, .ref (b + 0))]) hx hb dX11_blank_16 rfl hl (by decide) rfl (fun ls hl => ?_)
    obtain ⟨y_5, hc_6, hM⟩ := bd1_some hM
    have hK_7 : ∀ (H : Heap) (locs : List Loc) (ls : Array Slot), gW D cy b n s H locs (enc b cy X S0) → lv_has ls 3 [(1, .int (iI y_5))] → W p l e (gRm 4 0 0) s m args below meth c H locs 0 0 (gQI D cy b s args below 0 0 (fun r u => r = iI o1 ∧ u = (n, enc b cy X S0))) (F0 m 49 ls []) := by
      intro H locs ls hG hl
      refine lv_iload_n hx hb dX11_blank_49 rfl (lv_at hl 0 rfl) ?_
      cases hM
      exact g_iret S hr hlk hG hsz dX11_blank_50 ⟨Nat.le_of_ble_eq_true rfl, Nat.le_of_ble_eq_true rfl⟩ ⟨rfl, rfl⟩
    have loop_8 : ∀ (f : Nat) (v_3 : Int) (v_4 : Int) (H : Heap) (locs : List Loc) (ls : Array Slot), mX11_blank_17 S0 f v_3 v_4 = some y_5 → gW D cy b n s H locs (enc b cy X S0) → lv_has ls 3 [(2, .int (iI v_3)), (1, .int (iI v_4)), (0, .ref (b + 0))] → W p l e (gRm 4 0 0) s m args below meth c H locs 0 0 (gQI D cy b s args below 0 0 (fun r u => r = iI o1 ∧ u = (n, enc b cy X S0))) (F0 m 17 ls []) := by
      clear hM
      intro f
      induction f with
      | zero => intro v_3 v_4 H locs ls hM; rw [mX11_blank_17] at hM; cases hM
      | succ f_10 ih_9 =>
        intro v_3 v_4 H locs ls hM hG hl
        rw [mX11_blank_17] at hM
        refine lv_iload_n hx hb dX11_blank_17 rfl (lv_at hl 0 rfl) ?_
        refine lv_aload_n hx hb dX11_blank_18 rfl (lv_at hl 2 rfl) ?_
        refine m_get S hG 0 0 2 rfl ec_0 cpX11 wm_667 dX11_blank_19 rfl (Nat.lt_of_lt_of_le (Nat.le_of_ble_eq_true rfl) hn) (by decide) ?_
        refine m_get S hG 2 2 1 rfl ec_2 cpX2 wm_222 dX11_blank_22 rfl (Nat.lt_of_lt_of_le (Nat.le_of_ble_eq_true rfl) hn) (by decide) ?_
        obtain ⟨hg_11, hM⟩ := gd_some hM
        refine gi_icmp_ge (tgt := 49) hx hb dX11_blank_25 (by decide) hg_11.1 hg_11.2 (fun c_12 => ?_) (fun c_12 => ?_)
        · replace hM := ifp hM c_12
          cases hM
          exact hK_7 H locs ls hG (lv_sub hl [1] rfl)
        · replace hM := ifn hM c_12
          refine lv_aload_n hx hb dX11_blank_28 rfl (lv_at hl 2 rfl) ?_
          refine lv_iload_n hx hb dX11_blank_29 rfl (lv_at hl 0 rfl) ?_
          obtain ⟨r_14, hc_13, hM⟩ := bd1_some hM
          refine g_vi (As := [.int (iI v_3)]) (rest := []) S hG hsz (vX11_least l hn v_3 hc_13) wV_11_198 (ec_0 _) cpX11 (Nat.lt_of_lt_of_le (Nat.le_of_ble_eq_true rfl) hn) dX11_blank_30 rfl hl.1 (ar := 1) (by decide +kernel) rfl ⟨Nat.le_of_ble_eq_true rfl, Nat.le_of_ble_eq_true rfl, Nat.le_of_ble_eq_true rfl, Nat.le_of_ble_eq_true rfl⟩ (Nat.le_of_ble_eq_true rfl) (fun rv uu H locs hp hG => ?_)
          obtain ⟨rfl, rfl⟩ := hp
          replace hG : gW D cy b n s H locs (enc b cy X S0) := hG
          refine lv_iconst (v := iI (-1)) hx hb dX11_blank_33 (by decide) ?_
          obtain ⟨hg_15, hM⟩ := gd_some hM
          refine gi_icmp_ne (tgt := 43) hx hb dX11_blank_34 (by decide) hg_15 (by decide) (fun c_16 => ?_) (fun c_16 => ?_)
          · replace hM := ifn hM c_16
            refine lv_iinc (v := iI (v_3 + 1)) (lv' := [(2, .int (iI (v_3 + 1))), (1, .int (iI v_4)), (0, .ref (b + 0))]) hx hb dX11_blank_43 hl (k := 0) rfl ((iI_add v_3 (1)).trans (congrArg iI (by omega))) (by decide) rfl (fun ls hl => ?_)
            refine lv_goto (tgt := 17) hx hb dX11_blank_46 (by decide) ?_
            exact ih_9 (v_3 + 1) v_4 H locs ls hM hG (lv_sub hl [0, 1, 2] rfl)
          · replace hM := ifp hM c_16
            refine lv_iload_n hx hb dX11_blank_37 rfl (lv_at hl 1 rfl) ?_
            refine lv_iconst (v := iI 1) hx hb dX11_blank_38 (by decide) ?_
            refine lv_iload_n hx hb dX11_blank_39 rfl (lv_at hl 0 rfl) ?_
            refine gi_shl hx hb dX11_blank_40 ?_
            refine gi_or hx hb dX11_blank_41 ?_
            refine gi_nm (fun x_17 ex_17 => ?_)
            replace hM := nx_at hM ex_17
            clear ex_17
            refine lv_istore_n (lv' := [(1, .int (iI x_17)), (2, .int (iI v_3)), (0, .ref (b + 0))]) hx hb dX11_blank_42 rfl hl (by decide) rfl (fun ls hl => ?_)
            refine lv_iinc (v := iI (v_3 + 1)) (lv' := [(2, .int (iI (v_3 + 1))), (1, .int (iI x_17)), (0, .ref (b + 0))]) hx hb dX11_blank_43 hl (k := 1) rfl ((iI_add v_3 (1)).trans (congrArg iI (by omega))) (by decide) rfl (fun ls hl => ?_)
            refine lv_goto (tgt := 17) hx hb dX11_blank_46 (by decide) ?_
            exact ih_9 (v_3 + 1) x_17 H locs ls hM hG (lv_sub hl [0, 1, 2] rfl)
    exact loop_8 FU 0 0 H locs ls hc_6 hG (lv_sub hl [0, 1, 2] rfl)
  · replace hM := ifp hM c_2
    refine lv_bipush (v := iI (-2)) hx hb dX11_blank_10 (by decide) ?_
    cases hM
    exact g_iret S hr hlk hG hsz dX11_blank_12 ⟨Nat.le_of_ble_eq_true rfl, Nat.le_of_ble_eq_true rfl⟩ ⟨rfl, rfl⟩
def mX11_things (S0 : St) (a1 : Int) (a2 : Int) : Option (Int) := bd1 (mX11_sized S0 a1 a2) fun r_2 => gd (inI r_2) <| if r_2 = 0 then (some ((-2))) else (bd1 (mX0_thingsAt_40 S0 a1 a2) fun r_6 => some (r_6))
set_option maxHeartbeats 4000000 in
set_option maxRecDepth 100000 in
theorem vX11_things (l : Launch) {D : va_G} {cy : Nat → ClassId} {b n : Nat} (hn : 102 ≤ n) {X : Nat → va_E} {S0 : St} (a1 : Int) (a2 : Int) {o1 : Int} (hM : mX11_things S0 a1 a2 = some o1) : gL l yX11_things cX11_things 3 2 0 0 D cy b n (enc b cy X S0) [.ref (b + 0), .int (iI a1), .int (iI a2)] (fun r u => r = jJ o1 ∧ u = (n, enc b cy X S0)) := by
  refine gL_of (by decide) (Nat.le_of_ble_eq_true rfl) ?_
  intro p e s m args below meth c S hr hlk hin hsz ls hl hG
  have hx := S.1
  have hb := S.2.1
  have hl : lv_has ls 3 [(0, .ref (b + 0)), (1, .int (iI a1)), (2, .int (iI a2))] := hl
  replace hG : gW D cy b n s s.heap [] (enc b cy X S0) := hG
  obtain ⟨H, eH⟩ : ∃ H, H = s.heap := ⟨_, rfl⟩
  obtain ⟨locs, elocs⟩ : ∃ locs : List Loc, locs = [] := ⟨_, rfl⟩
  rw [← eH, ← elocs] at hG
  rw [← eH, ← elocs]
  clear eH elocs
  unfold mX11_things at hM
  refine lv_aload_n hx hb dX11_things_0 rfl (lv_at hl 0 rfl) ?_
  refine lv_iload_n hx hb dX11_things_1 rfl (lv_at hl 1 rfl) ?_
  refine lv_iload_n hx hb dX11_things_2 rfl (lv_at hl 2 rfl) ?_
  obtain ⟨r_2, hc_1, hM⟩ := bd1_some hM
  refine g_vi (As := [.int (iI a1), .int (iI a2)]) (rest := []) S hG hsz (vX11_sized l hn a1 a2 hc_1) wV_11_175 (ec_0 _) cpX11 (Nat.lt_of_lt_of_le (Nat.le_of_ble_eq_true rfl) hn) dX11_things_3 rfl hl.1 (ar := 2) (by decide +kernel) rfl ⟨Nat.le_of_ble_eq_true rfl, Nat.le_of_ble_eq_true rfl, Nat.le_of_ble_eq_true rfl, Nat.le_of_ble_eq_true rfl⟩ (Nat.le_of_ble_eq_true rfl) (fun rv uu H locs hp hG => ?_)
  obtain ⟨rfl, rfl⟩ := hp
  replace hG : gW D cy b n s H locs (enc b cy X S0) := hG
  obtain ⟨hg_3, hM⟩ := gd_some hM
  refine gi_if_eq (tgt := 21) hx hb dX11_things_6 (by decide) hg_3 (fun c_4 => ?_) (fun c_4 => ?_)
  · replace hM := ifp hM c_4
    refine lv_ldc2 (v := -2) hx hb S.2.2.2.1 (S.2.2.2.2 _ wm_1160) dX11_things_21 ?_
    refine gj_as (-2) (by decide) ?_
    cases hM
    exact g_lret S hr hlk hG hsz dX11_things_24 ⟨Nat.le_of_ble_eq_true rfl, Nat.le_of_ble_eq_true rfl⟩ ⟨rfl, rfl⟩
  · replace hM := ifn hM c_4
    refine lv_aload_n hx hb dX11_things_9 rfl (lv_at hl 0 rfl) ?_
    refine m_get S hG 0 0 7 rfl ec_0 cpX11 wm_672 dX11_things_10 rfl (Nat.lt_of_lt_of_le (Nat.le_of_ble_eq_true rfl) hn) (by decide) ?_
    refine lv_iload_n hx hb dX11_things_13 rfl (lv_at hl 1 rfl) ?_
    refine lv_iload_n hx hb dX11_things_14 rfl (lv_at hl 2 rfl) ?_
    obtain ⟨r_6, hc_5, hM⟩ := bd1_some hM
    refine g_vl (As := [.int (iI a1), .int (iI a2)]) (rest := []) S hG hsz (vX0_thingsAt_40 l hn a1 a2 hc_5) wV_11_206 (ec_40 _) cpX0 (Nat.lt_of_lt_of_le (Nat.le_of_ble_eq_true rfl) hn) dX11_things_15 rfl hl.1 (ar := 2) (by decide +kernel) rfl ⟨Nat.le_of_ble_eq_true rfl, Nat.le_of_ble_eq_true rfl, Nat.le_of_ble_eq_true rfl, Nat.le_of_ble_eq_true rfl⟩ (Nat.le_of_ble_eq_true rfl) (fun rv uu H locs hp hG => ?_)
    obtain ⟨rfl, rfl⟩ := hp
    replace hG : gW D cy b n s H locs (enc b cy X S0) := hG
    refine lv_goto (tgt := 24) hx hb dX11_things_18 (by decide) ?_
    cases hM
    exact g_lret S hr hlk hG hsz dX11_things_24 ⟨Nat.le_of_ble_eq_true rfl, Nat.le_of_ble_eq_true rfl⟩ ⟨rfl, rfl⟩
theorem wV_11_212 : gWV "GrownKinds" 212 yX11_boxed cX11_boxed 4 (some .long) := ⟨wm_1165, wm_1166, wm_1167, wm_177, wm_1168, by decide +kernel, by decide +kernel⟩
theorem wV_11_332 : gWV "GrownKinds" 332 yX11_boxy cX11_boxy 4 (some .boolean) := ⟨wm_1169, wm_1171, wm_50, wm_177, wm_1172, by decide +kernel, by decide +kernel⟩
theorem wV_11_336 : gWV "GrownKinds" 336 yX0_between cX0_between 7 (some .long) := ⟨wm_1173, wm_1174, wm_1175, wm_181, wm_1176, by decide +kernel, by decide +kernel⟩
theorem wV_0_88 : gWV "GrownKinds$Census" 88 yX0_thingsAt cX0_thingsAt 3 (some .long) := ⟨wm_1177, wm_1144, wm_1145, wm_181, wm_1146, by decide +kernel, by decide +kernel⟩
def mX0_between_40_6 (S0 : St) (a1 : Int) (a3 : Int) : Nat → Int → Int → Option (Int)
  | 0, _, _ => none
  | f + 1, v_1, v_2 => gd ((inI v_1) ∧ (inI a3)) <| if a3 < v_1 then (some (v_2)) else (bd1 (mX0_thingsAt_40 S0 a1 v_1) fun r_12 => gd (inL (v_2 + r_12)) <| nx (min 1000000000000 (v_2 + r_12)) fun x_14 => mX0_between_40_6 S0 a1 a3 f (v_1 + 1) x_14)
def mX0_between_40 (S0 : St) (a1 : Int) (a2 : Int) (a3 : Int) : Option (Int) := bd1 (mX0_between_40_6 S0 a1 a3 FU a2 0) fun y_3 => some (y_3)
set_option maxHeartbeats 4000000 in
set_option maxRecDepth 100000 in
theorem vX0_between_40 (l : Launch) {D : va_G} {cy : Nat → ClassId} {b n : Nat} (hn : 102 ≤ n) {X : Nat → va_E} {S0 : St} (a1 : Int) (a2 : Int) (a3 : Int) {o1 : Int} (hM : mX0_between_40 S0 a1 a2 a3 = some o1) : gL l yX0_between cX0_between 7 2 0 0 D cy b n (enc b cy X S0) [.ref (b + 40), .int (iI a1), .int (iI a2), .int (iI a3)] (fun r u => r = jJ o1 ∧ u = (n, enc b cy X S0)) := by
  refine gL_of (by decide) (Nat.le_of_ble_eq_true rfl) ?_
  intro p e s m args below meth c S hr hlk hin hsz ls hl hG
  have hx := S.1
  have hb := S.2.1
  have hl : lv_has ls 7 [(0, .ref (b + 40)), (1, .int (iI a1)), (2, .int (iI a2)), (3, .int (iI a3))] := hl
  replace hG : gW D cy b n s s.heap [] (enc b cy X S0) := hG
  obtain ⟨H, eH⟩ : ∃ H, H = s.heap := ⟨_, rfl⟩
  obtain ⟨locs, elocs⟩ : ∃ locs : List Loc, locs = [] := ⟨_, rfl⟩
  rw [← eH, ← elocs] at hG
  rw [← eH, ← elocs]
  clear eH elocs
  unfold mX0_between_40 at hM
  refine lv_lconst (v := jJ 0) hx hb dX0_between_0 (by decide) ?_
  refine lv_lstore (lv' := [(4, .long (jJ 0)), (0, .ref (b + 40)), (1, .int (iI a1)), (2, .int (iI a2)), (3, .int (iI a3))]) hx hb dX0_between_1 hl (by decide) rfl (fun ls hl => ?_)
  refine lv_iload_n hx hb dX0_between_3 rfl (lv_at hl 3 rfl) ?_
  refine lv_istore (lv' := [(6, .int (iI a2)), (4, .long (jJ 0)), (0, .ref (b + 40)), (1, .int (iI a1)), (2, .int (iI a2)), (3, .int (iI a3))]) hx hb dX0_between_4 hl (by decide) rfl (fun ls hl => ?_)
  obtain ⟨y_3, hc_4, hM⟩ := bd1_some hM
  have hK_5 : ∀ (H : Heap) (locs : List Loc) (ls : Array Slot), gW D cy b n s H locs (enc b cy X S0) → lv_has ls 7 [(4, .long (jJ y_3))] → W p l e (gRm 2 0 0) s m args below meth c H locs 0 0 (gQL D cy b s args below 0 0 (fun r u => r = jJ o1 ∧ u = (n, enc b cy X S0))) (F0 m 36 ls []) := by
    intro H locs ls hG hl
    refine lv_lload hx hb dX0_between_36 (lv_at hl 0 rfl) ?_
    cases hM
    exact g_lret S hr hlk hG hsz dX0_between_38 ⟨Nat.le_of_ble_eq_true rfl, Nat.le_of_ble_eq_true rfl⟩ ⟨rfl, rfl⟩
  have loop_6 : ∀ (f : Nat) (v_1 : Int) (v_2 : Int) (H : Heap) (locs : List Loc) (ls : Array Slot), mX0_between_40_6 S0 a1 a3 f v_1 v_2 = some y_3 → gW D cy b n s H locs (enc b cy X S0) → lv_has ls 7 [(6, .int (iI v_1)), (4, .long (jJ v_2)), (0, .ref (b + 40)), (1, .int (iI a1)), (3, .int (iI a3))] → W p l e (gRm 2 0 0) s m args below meth c H locs 0 0 (gQL D cy b s args below 0 0 (fun r u => r = jJ o1 ∧ u = (n, enc b cy X S0))) (F0 m 6 ls []) := by
    clear hM
    intro f
    induction f with
    | zero => intro v_1 v_2 H locs ls hM; rw [mX0_between_40_6] at hM; cases hM
    | succ f_8 ih_7 =>
      intro v_1 v_2 H locs ls hM hG hl
      rw [mX0_between_40_6] at hM
      refine lv_iload hx hb dX0_between_6 (lv_at hl 0 rfl) ?_
      refine lv_iload_n hx hb dX0_between_8 rfl (lv_at hl 4 rfl) ?_
      obtain ⟨hg_9, hM⟩ := gd_some hM
      refine gi_icmp_gt (tgt := 36) hx hb dX0_between_9 (by decide) hg_9.1 hg_9.2 (fun c_10 => ?_) (fun c_10 => ?_)
      · replace hM := ifp hM c_10
        cases hM
        exact hK_5 H locs ls hG (lv_sub hl [1] rfl)
      · replace hM := ifn hM c_10
        refine lv_ldc2 (v := 1000000000000) hx hb S.2.2.2.1 (S.2.2.2.2 _ wm_1147) dX0_between_12 ?_
        refine gj_as 1000000000000 (by decide) ?_
        refine lv_lload hx hb dX0_between_15 (lv_at hl 1 rfl) ?_
        refine lv_aload_n hx hb dX0_between_17 rfl (lv_at hl 2 rfl) ?_
        refine lv_iload_n hx hb dX0_between_18 rfl (lv_at hl 3 rfl) ?_
        refine lv_iload hx hb dX0_between_19 (lv_at hl 0 rfl) ?_
        obtain ⟨r_12, hc_11, hM⟩ := bd1_some hM
        refine g_vl (As := [.int (iI a1), .int (iI v_1)]) (rest := [.long (jJ v_2), .long (jJ 1000000000000)]) S hG hsz (vX0_thingsAt_40 l hn a1 v_1 hc_11) wV_0_88 (ec_40 _) cpX0 (Nat.lt_of_lt_of_le (Nat.le_of_ble_eq_true rfl) hn) dX0_between_21 rfl hl.1 (ar := 2) (by decide +kernel) rfl ⟨Nat.le_of_ble_eq_true rfl, Nat.le_of_ble_eq_true rfl, Nat.le_of_ble_eq_true rfl, Nat.le_of_ble_eq_true rfl⟩ (Nat.le_of_ble_eq_true rfl) (fun rv uu H locs hp hG => ?_)
        obtain ⟨rfl, rfl⟩ := hp
        replace hG : gW D cy b n s H locs (enc b cy X S0) := hG
        refine gj_add hx hb dX0_between_24 ?_
        obtain ⟨hg_13, hM⟩ := gd_some hM
        refine gj_min S wm_1148 wm_1149 wm_190 wm_1150 hl.1 dX0_between_25 ⟨Nat.le_of_ble_eq_true rfl, Nat.le_of_ble_eq_true rfl, Nat.le_of_ble_eq_true rfl, Nat.le_of_ble_eq_true rfl⟩ (by decide) hg_13 ?_
        refine gj_nm (fun x_14 ex_14 => ?_)
        replace hM := nx_at hM ex_14
        clear ex_14
        refine lv_lstore (lv' := [(4, .long (jJ x_14)), (6, .int (iI v_1)), (0, .ref (b + 40)), (1, .int (iI a1)), (3, .int (iI a3))]) hx hb dX0_between_28 hl (by decide) rfl (fun ls hl => ?_)
        refine lv_iinc (v := iI (v_1 + 1)) (lv' := [(6, .int (iI (v_1 + 1))), (4, .long (jJ x_14)), (0, .ref (b + 40)), (1, .int (iI a1)), (3, .int (iI a3))]) hx hb dX0_between_30 hl (k := 1) rfl ((iI_add v_1 (1)).trans (congrArg iI (by omega))) (by decide) rfl (fun ls hl => ?_)
        refine lv_goto (tgt := 6) hx hb dX0_between_33 (by decide) ?_
        exact ih_7 (v_1 + 1) x_14 H locs ls hM hG (lv_sub hl [0, 1, 2, 3, 4] rfl)
  exact loop_6 FU a2 0 H locs ls hc_4 hG (lv_sub hl [0, 1, 2, 3, 5] rfl)
def mX11_boxed (S0 : St) (a1 : Int) (a2 : Int) (a3 : Int) : Option (Int) := bd1 (mX11_boxy S0 a1 a2 a3) fun r_2 => gd (inI r_2) <| if r_2 = 0 then (some ((-2))) else (bd1 (mX0_between_40 S0 a1 a2 a3) fun r_6 => some (r_6))
set_option maxHeartbeats 4000000 in
set_option maxRecDepth 100000 in
theorem vX11_boxed (l : Launch) {D : va_G} {cy : Nat → ClassId} {b n : Nat} (hn : 102 ≤ n) {X : Nat → va_E} {S0 : St} (a1 : Int) (a2 : Int) (a3 : Int) {o1 : Int} (hM : mX11_boxed S0 a1 a2 a3 = some o1) : gL l yX11_boxed cX11_boxed 4 3 0 0 D cy b n (enc b cy X S0) [.ref (b + 0), .int (iI a1), .int (iI a2), .int (iI a3)] (fun r u => r = jJ o1 ∧ u = (n, enc b cy X S0)) := by
  refine gL_of (by decide) (Nat.le_of_ble_eq_true rfl) ?_
  intro p e s m args below meth c S hr hlk hin hsz ls hl hG
  have hx := S.1
  have hb := S.2.1
  have hl : lv_has ls 4 [(0, .ref (b + 0)), (1, .int (iI a1)), (2, .int (iI a2)), (3, .int (iI a3))] := hl
  replace hG : gW D cy b n s s.heap [] (enc b cy X S0) := hG
  obtain ⟨H, eH⟩ : ∃ H, H = s.heap := ⟨_, rfl⟩
  obtain ⟨locs, elocs⟩ : ∃ locs : List Loc, locs = [] := ⟨_, rfl⟩
  rw [← eH, ← elocs] at hG
  rw [← eH, ← elocs]
  clear eH elocs
  unfold mX11_boxed at hM
  refine lv_aload_n hx hb dX11_boxed_0 rfl (lv_at hl 0 rfl) ?_
  refine lv_iload_n hx hb dX11_boxed_1 rfl (lv_at hl 1 rfl) ?_
  refine lv_iload_n hx hb dX11_boxed_2 rfl (lv_at hl 2 rfl) ?_
  refine lv_iload_n hx hb dX11_boxed_3 rfl (lv_at hl 3 rfl) ?_
  obtain ⟨r_2, hc_1, hM⟩ := bd1_some hM
  refine g_vi (As := [.int (iI a1), .int (iI a2), .int (iI a3)]) (rest := []) S hG hsz (vX11_boxy l hn a1 a2 a3 hc_1) wV_11_332 (ec_0 _) cpX11 (Nat.lt_of_lt_of_le (Nat.le_of_ble_eq_true rfl) hn) dX11_boxed_4 rfl hl.1 (ar := 3) (by decide +kernel) rfl ⟨Nat.le_of_ble_eq_true rfl, Nat.le_of_ble_eq_true rfl, Nat.le_of_ble_eq_true rfl, Nat.le_of_ble_eq_true rfl⟩ (Nat.le_of_ble_eq_true rfl) (fun rv uu H locs hp hG => ?_)
  obtain ⟨rfl, rfl⟩ := hp
  replace hG : gW D cy b n s H locs (enc b cy X S0) := hG
  obtain ⟨hg_3, hM⟩ := gd_some hM
  refine gi_if_eq (tgt := 23) hx hb dX11_boxed_7 (by decide) hg_3 (fun c_4 => ?_) (fun c_4 => ?_)
  · replace hM := ifp hM c_4
    refine lv_ldc2 (v := -2) hx hb S.2.2.2.1 (S.2.2.2.2 _ wm_1160) dX11_boxed_23 ?_
    refine gj_as (-2) (by decide) ?_
    cases hM
    exact g_lret S hr hlk hG hsz dX11_boxed_26 ⟨Nat.le_of_ble_eq_true rfl, Nat.le_of_ble_eq_true rfl⟩ ⟨rfl, rfl⟩
  · replace hM := ifn hM c_4
    refine lv_aload_n hx hb dX11_boxed_10 rfl (lv_at hl 0 rfl) ?_
    refine m_get S hG 0 0 7 rfl ec_0 cpX11 wm_672 dX11_boxed_11 rfl (Nat.lt_of_lt_of_le (Nat.le_of_ble_eq_true rfl) hn) (by decide) ?_
    refine lv_iload_n hx hb dX11_boxed_14 rfl (lv_at hl 1 rfl) ?_
    refine lv_iload_n hx hb dX11_boxed_15 rfl (lv_at hl 2 rfl) ?_
    refine lv_iload_n hx hb dX11_boxed_16 rfl (lv_at hl 3 rfl) ?_
    obtain ⟨r_6, hc_5, hM⟩ := bd1_some hM
    refine g_vl (As := [.int (iI a1), .int (iI a2), .int (iI a3)]) (rest := []) S hG hsz (vX0_between_40 l hn a1 a2 a3 hc_5) wV_11_336 (ec_40 _) cpX0 (Nat.lt_of_lt_of_le (Nat.le_of_ble_eq_true rfl) hn) dX11_boxed_17 rfl hl.1 (ar := 3) (by decide +kernel) rfl ⟨Nat.le_of_ble_eq_true rfl, Nat.le_of_ble_eq_true rfl, Nat.le_of_ble_eq_true rfl, Nat.le_of_ble_eq_true rfl⟩ (Nat.le_of_ble_eq_true rfl) (fun rv uu H locs hp hG => ?_)
    obtain ⟨rfl, rfl⟩ := hp
    replace hG : gW D cy b n s H locs (enc b cy X S0) := hG
    refine lv_goto (tgt := 26) hx hb dX11_boxed_20 (by decide) ?_
    cases hM
    exact g_lret S hr hlk hG hsz dX11_boxed_26 ⟨Nat.le_of_ble_eq_true rfl, Nat.le_of_ble_eq_true rfl⟩ ⟨rfl, rfl⟩
def mX11_upto (S0 : St) (a1 : Int) (a2 : Int) : Option (Int) := bd1 (mX11_boxed S0 a1 0 a2) fun r_2 => some (r_2)
set_option maxHeartbeats 4000000 in
set_option maxRecDepth 100000 in
theorem vX11_upto (l : Launch) {D : va_G} {cy : Nat → ClassId} {b n : Nat} (hn : 102 ≤ n) {X : Nat → va_E} {S0 : St} (a1 : Int) (a2 : Int) {o1 : Int} (hM : mX11_upto S0 a1 a2 = some o1) : gL l yX11_upto cX11_upto 3 4 0 0 D cy b n (enc b cy X S0) [.ref (b + 0), .int (iI a1), .int (iI a2)] (fun r u => r = jJ o1 ∧ u = (n, enc b cy X S0)) := by
  refine gL_of (by decide) (Nat.le_of_ble_eq_true rfl) ?_
  intro p e s m args below meth c S hr hlk hin hsz ls hl hG
  have hx := S.1
  have hb := S.2.1
  have hl : lv_has ls 3 [(0, .ref (b + 0)), (1, .int (iI a1)), (2, .int (iI a2))] := hl
  replace hG : gW D cy b n s s.heap [] (enc b cy X S0) := hG
  obtain ⟨H, eH⟩ : ∃ H, H = s.heap := ⟨_, rfl⟩
  obtain ⟨locs, elocs⟩ : ∃ locs : List Loc, locs = [] := ⟨_, rfl⟩
  rw [← eH, ← elocs] at hG
  rw [← eH, ← elocs]
  clear eH elocs
  unfold mX11_upto at hM
  refine lv_aload_n hx hb dX11_upto_0 rfl (lv_at hl 0 rfl) ?_
  refine lv_iload_n hx hb dX11_upto_1 rfl (lv_at hl 1 rfl) ?_
  refine lv_iconst (v := iI 0) hx hb dX11_upto_2 (by decide) ?_
  refine lv_iload_n hx hb dX11_upto_3 rfl (lv_at hl 2 rfl) ?_
  obtain ⟨r_2, hc_1, hM⟩ := bd1_some hM
  refine g_vl (As := [.int (iI a1), .int (iI 0), .int (iI a2)]) (rest := []) S hG hsz (vX11_boxed l hn a1 0 a2 hc_1) wV_11_212 (ec_0 _) cpX11 (Nat.lt_of_lt_of_le (Nat.le_of_ble_eq_true rfl) hn) dX11_upto_4 rfl hl.1 (ar := 3) (by decide +kernel) rfl ⟨Nat.le_of_ble_eq_true rfl, Nat.le_of_ble_eq_true rfl, Nat.le_of_ble_eq_true rfl, Nat.le_of_ble_eq_true rfl⟩ (Nat.le_of_ble_eq_true rfl) (fun rv uu H locs hp hG => ?_)
  obtain ⟨rfl, rfl⟩ := hp
  replace hG : gW D cy b n s H locs (enc b cy X S0) := hG
  cases hM
  exact g_lret S hr hlk hG hsz dX11_upto_7 ⟨Nat.le_of_ble_eq_true rfl, Nat.le_of_ble_eq_true rfl⟩ ⟨rfl, rfl⟩
theorem wV_11_228 : gWV "GrownKinds" 228 yX11_termed cX11_termed 3 (some .boolean) := ⟨wm_1216, wm_1218, wm_53, wm_177, wm_1219, by decide +kernel, by decide +kernel⟩
theorem wV_11_231 : gWV "GrownKinds" 231 yX0_byTerm cX0_byTerm 4 (some .long) := ⟨wm_1220, wm_1221, wm_1222, wm_181, wm_1223, by decide +kernel, by decide +kernel⟩
theorem wV_0_80 : gWV "GrownKinds$Census" 80 yX0_from cX0_from 3 (some .long) := ⟨wm_1224, wm_1225, wm_1226, wm_181, wm_1227, by decide +kernel, by decide +kernel⟩
def mX0_from_40 (S0 : St) (a1 : Int) (a2 : Int) : Option (Int) := gd (inI a1) <| if a1 = (-1) then (gd (inI a2) <| if a2 = 0 then (some (1)) else (some (0))) else (gd (0 ≤ ((a1 * 64) + (a2 * 8)) ∧ ((a1 * 64) + (a2 * 8)) < 1536) <| some ((S0 42 ((a1 * 64) + (a2 * 8)))))
set_option maxHeartbeats 4000000 in
set_option maxRecDepth 100000 in
theorem vX0_from_40 (l : Launch) {D : va_G} {cy : Nat → ClassId} {b n : Nat} (hn : 102 ≤ n) {X : Nat → va_E} {S0 : St} (a1 : Int) (a2 : Int) {o1 : Int} (hM : mX0_from_40 S0 a1 a2 = some o1) : gL l yX0_from cX0_from 3 0 0 0 D cy b n (enc b cy X S0) [.ref (b + 40), .int (iI a1), .int (iI a2)] (fun r u => r = jJ o1 ∧ u = (n, enc b cy X S0)) := by
  refine gL_of (by decide) (Nat.le_of_ble_eq_true rfl) ?_
  intro p e s m args below meth c S hr hlk hin hsz ls hl hG
  have hx := S.1
  have hb := S.2.1
  have hl : lv_has ls 3 [(0, .ref (b + 40)), (1, .int (iI a1)), (2, .int (iI a2))] := hl
  replace hG : gW D cy b n s s.heap [] (enc b cy X S0) := hG
  obtain ⟨H, eH⟩ : ∃ H, H = s.heap := ⟨_, rfl⟩
  obtain ⟨locs, elocs⟩ : ∃ locs : List Loc, locs = [] := ⟨_, rfl⟩
  rw [← eH, ← elocs] at hG
  rw [← eH, ← elocs]
  clear eH elocs
  unfold mX0_from_40 at hM
  refine lv_iload_n hx hb dX0_from_0 rfl (lv_at hl 1 rfl) ?_
  refine lv_iconst (v := iI (-1)) hx hb dX0_from_1 (by decide) ?_
  obtain ⟨hg_1, hM⟩ := gd_some hM
  refine gi_icmp_ne (tgt := 15) hx hb dX0_from_2 (by decide) hg_1 (by decide) (fun c_2 => ?_) (fun c_2 => ?_)
  · replace hM := ifn hM c_2
    refine lv_aload_n hx hb dX0_from_15 rfl (lv_at hl 0 rfl) ?_
    refine m_get S hG 40 40 3 rfl ec_40 cpX0 wm_406 dX0_from_16 rfl (Nat.lt_of_lt_of_le (Nat.le_of_ble_eq_true rfl) hn) (by decide) ?_
    refine lv_iload_n hx hb dX0_from_19 rfl (lv_at hl 1 rfl) ?_
    refine lv_bipush (v := iI 64) hx hb dX0_from_20 (by decide) ?_
    refine gi_mul hx hb dX0_from_22 ?_
    refine lv_iload_n hx hb dX0_from_23 rfl (lv_at hl 2 rfl) ?_
    refine lv_bipush (v := iI 8) hx hb dX0_from_24 (by decide) ?_
    refine gi_mul hx hb dX0_from_26 ?_
    refine gi_add hx hb dX0_from_27 ?_
    obtain ⟨hg_3, hM⟩ := gd_some hM
    refine mj_ald S hG 42 42 rfl ec_42 (Nat.lt_of_lt_of_le (Nat.le_of_ble_eq_true rfl) hn) dX0_from_28 hg_3 (by decide) ?_
    cases hM
    exact g_lret S hr hlk hG hsz dX0_from_29 ⟨Nat.le_of_ble_eq_true rfl, Nat.le_of_ble_eq_true rfl⟩ ⟨rfl, rfl⟩
  · replace hM := ifp hM c_2
    refine lv_iload_n hx hb dX0_from_5 rfl (lv_at hl 2 rfl) ?_
    obtain ⟨hg_4, hM⟩ := gd_some hM
    refine gi_if_ne (tgt := 13) hx hb dX0_from_6 (by decide) hg_4 (fun c_5 => ?_) (fun c_5 => ?_)
    · replace hM := ifn hM c_5
      refine lv_lconst (v := jJ 0) hx hb dX0_from_13 (by decide) ?_
      cases hM
      exact g_lret S hr hlk hG hsz dX0_from_14 ⟨Nat.le_of_ble_eq_true rfl, Nat.le_of_ble_eq_true rfl⟩ ⟨rfl, rfl⟩
    · replace hM := ifp hM c_5
      refine lv_lconst (v := jJ 1) hx hb dX0_from_9 (by decide) ?_
      refine lv_goto (tgt := 14) hx hb dX0_from_10 (by decide) ?_
      cases hM
      exact g_lret S hr hlk hG hsz dX0_from_14 ⟨Nat.le_of_ble_eq_true rfl, Nat.le_of_ble_eq_true rfl⟩ ⟨rfl, rfl⟩
def mX0_byTerm_40 (S0 : St) (a1 : Int) (a2 : Int) (a3 : Int) : Option (Int) := bd1 (mX2_isOff_2 S0 a1 a2) fun r_2 => gd (inI r_2) <| if r_2 = 0 then (bd1 (mX2_start_2 S0 a1 a2) fun r_6 => bd1 (mX0_from_40 S0 r_6 a3) fun r_8 => some (r_8)) else (some (0))
set_option maxHeartbeats 4000000 in
set_option maxRecDepth 100000 in
theorem vX0_byTerm_40 (l : Launch) {D : va_G} {cy : Nat → ClassId} {b n : Nat} (hn : 102 ≤ n) {X : Nat → va_E} {S0 : St} (a1 : Int) (a2 : Int) (a3 : Int) {o1 : Int} (hM : mX0_byTerm_40 S0 a1 a2 a3 = some o1) : gL l yX0_byTerm cX0_byTerm 4 1 0 0 D cy b n (enc b cy X S0) [.ref (b + 40), .int (iI a1), .int (iI a2), .int (iI a3)] (fun r u => r = jJ o1 ∧ u = (n, enc b cy X S0)) := by
  refine gL_of (by decide) (Nat.le_of_ble_eq_true rfl) ?_
  intro p e s m args below meth c S hr hlk hin hsz ls hl hG
  have hx := S.1
  have hb := S.2.1
  have hl : lv_has ls 4 [(0, .ref (b + 40)), (1, .int (iI a1)), (2, .int (iI a2)), (3, .int (iI a3))] := hl
  replace hG : gW D cy b n s s.heap [] (enc b cy X S0) := hG
  obtain ⟨H, eH⟩ : ∃ H, H = s.heap := ⟨_, rfl⟩
  obtain ⟨locs, elocs⟩ : ∃ locs : List Loc, locs = [] := ⟨_, rfl⟩
  rw [← eH, ← elocs] at hG
  rw [← eH, ← elocs]
  clear eH elocs
  unfold mX0_byTerm_40 at hM
  refine lv_aload_n hx hb dX0_byTerm_0 rfl (lv_at hl 0 rfl) ?_
  refine m_get S hG 40 40 0 rfl ec_40 cpX0 wm_403 dX0_byTerm_1 rfl (Nat.lt_of_lt_of_le (Nat.le_of_ble_eq_true rfl) hn) (by decide) ?_
  refine lv_iload_n hx hb dX0_byTerm_4 rfl (lv_at hl 1 rfl) ?_
  refine lv_iload_n hx hb dX0_byTerm_5 rfl (lv_at hl 2 rfl) ?_
  obtain ⟨r_2, hc_1, hM⟩ := bd1_some hM
  refine g_vi (As := [.int (iI a1), .int (iI a2)]) (rest := []) S hG hsz (vX2_isOff_2 l hn a1 a2 hc_1) wV_0_72 (ec_2 _) cpX2 (Nat.lt_of_lt_of_le (Nat.le_of_ble_eq_true rfl) hn) dX0_byTerm_6 rfl hl.1 (ar := 2) (by decide +kernel) rfl ⟨Nat.le_of_ble_eq_true rfl, Nat.le_of_ble_eq_true rfl, Nat.le_of_ble_eq_true rfl, Nat.le_of_ble_eq_true rfl⟩ (Nat.le_of_ble_eq_true rfl) (fun rv uu H locs hp hG => ?_)
  obtain ⟨rfl, rfl⟩ := hp
  replace hG : gW D cy b n s H locs (enc b cy X S0) := hG
  obtain ⟨hg_3, hM⟩ := gd_some hM
  refine gi_if_eq (tgt := 16) hx hb dX0_byTerm_9 (by decide) hg_3 (fun c_4 => ?_) (fun c_4 => ?_)
  · replace hM := ifp hM c_4
    refine lv_aload_n hx hb dX0_byTerm_16 rfl (lv_at hl 0 rfl) ?_
    refine lv_aload_n hx hb dX0_byTerm_17 rfl (lv_at hl 0 rfl) ?_
    refine m_get S hG 40 40 0 rfl ec_40 cpX0 wm_403 dX0_byTerm_18 rfl (Nat.lt_of_lt_of_le (Nat.le_of_ble_eq_true rfl) hn) (by decide) ?_
    refine lv_iload_n hx hb dX0_byTerm_21 rfl (lv_at hl 1 rfl) ?_
    refine lv_iload_n hx hb dX0_byTerm_22 rfl (lv_at hl 2 rfl) ?_
    obtain ⟨r_6, hc_5, hM⟩ := bd1_some hM
    refine g_vi (As := [.int (iI a1), .int (iI a2)]) (rest := [.ref (b + 40)]) S hG hsz (vX2_start_2 l hn a1 a2 hc_5) wV_0_76 (ec_2 _) cpX2 (Nat.lt_of_lt_of_le (Nat.le_of_ble_eq_true rfl) hn) dX0_byTerm_23 rfl hl.1 (ar := 2) (by decide +kernel) rfl ⟨Nat.le_of_ble_eq_true rfl, Nat.le_of_ble_eq_true rfl, Nat.le_of_ble_eq_true rfl, Nat.le_of_ble_eq_true rfl⟩ (Nat.le_of_ble_eq_true rfl) (fun rv uu H locs hp hG => ?_)
    obtain ⟨rfl, rfl⟩ := hp
    replace hG : gW D cy b n s H locs (enc b cy X S0) := hG
    refine lv_iload_n hx hb dX0_byTerm_26 rfl (lv_at hl 3 rfl) ?_
    obtain ⟨r_8, hc_7, hM⟩ := bd1_some hM
    refine g_vl (As := [.int (iI r_6), .int (iI a3)]) (rest := []) S hG hsz (vX0_from_40 l hn r_6 a3 hc_7) wV_0_80 (ec_40 _) cpX0 (Nat.lt_of_lt_of_le (Nat.le_of_ble_eq_true rfl) hn) dX0_byTerm_27 rfl hl.1 (ar := 2) (by decide +kernel) rfl ⟨Nat.le_of_ble_eq_true rfl, Nat.le_of_ble_eq_true rfl, Nat.le_of_ble_eq_true rfl, Nat.le_of_ble_eq_true rfl⟩ (Nat.le_of_ble_eq_true rfl) (fun rv uu H locs hp hG => ?_)
    obtain ⟨rfl, rfl⟩ := hp
    replace hG : gW D cy b n s H locs (enc b cy X S0) := hG
    cases hM
    exact g_lret S hr hlk hG hsz dX0_byTerm_30 ⟨Nat.le_of_ble_eq_true rfl, Nat.le_of_ble_eq_true rfl⟩ ⟨rfl, rfl⟩
  · replace hM := ifn hM c_4
    refine lv_lconst (v := jJ 0) hx hb dX0_byTerm_12 (by decide) ?_
    refine lv_goto (tgt := 30) hx hb dX0_byTerm_13 (by decide) ?_
    cases hM
    exact g_lret S hr hlk hG hsz dX0_byTerm_30 ⟨Nat.le_of_ble_eq_true rfl, Nat.le_of_ble_eq_true rfl⟩ ⟨rfl, rfl⟩
def mX11_by (S0 : St) (a1 : Int) (a2 : Int) (a3 : Int) : Option (Int) := bd1 (mX11_sized S0 a1 a2) fun r_2 => gd (inI r_2) <| if r_2 = 0 then (some ((-2))) else (bd1 (mX11_termed S0 a1 a3) fun r_6 => gd (inI r_6) <| if r_6 = 0 then (some ((-2))) else (bd1 (mX0_byTerm_40 S0 a1 a3 a2) fun r_10 => gd (inL r_10) <| some ((min 1000000000000 r_10))))
set_option maxHeartbeats 4000000 in
set_option maxRecDepth 100000 in
theorem vX11_by (l : Launch) {D : va_G} {cy : Nat → ClassId} {b n : Nat} (hn : 102 ≤ n) {X : Nat → va_E} {S0 : St} (a1 : Int) (a2 : Int) (a3 : Int) {o1 : Int} (hM : mX11_by S0 a1 a2 a3 = some o1) : gL l yX11_by cX11_by 4 2 0 0 D cy b n (enc b cy X S0) [.ref (b + 0), .int (iI a1), .int (iI a2), .int (iI a3)] (fun r u => r = jJ o1 ∧ u = (n, enc b cy X S0)) := by
  refine gL_of (by decide) (Nat.le_of_ble_eq_true rfl) ?_
  intro p e s m args below meth c S hr hlk hin hsz ls hl hG
  have hx := S.1
  have hb := S.2.1
  have hl : lv_has ls 4 [(0, .ref (b + 0)), (1, .int (iI a1)), (2, .int (iI a2)), (3, .int (iI a3))] := hl
  replace hG : gW D cy b n s s.heap [] (enc b cy X S0) := hG
  obtain ⟨H, eH⟩ : ∃ H, H = s.heap := ⟨_, rfl⟩
  obtain ⟨locs, elocs⟩ : ∃ locs : List Loc, locs = [] := ⟨_, rfl⟩
  rw [← eH, ← elocs] at hG
  rw [← eH, ← elocs]
  clear eH elocs
  unfold mX11_by at hM
  refine lv_aload_n hx hb dX11_by_0 rfl (lv_at hl 0 rfl) ?_
  refine lv_iload_n hx hb dX11_by_1 rfl (lv_at hl 1 rfl) ?_
  refine lv_iload_n hx hb dX11_by_2 rfl (lv_at hl 2 rfl) ?_
  obtain ⟨r_2, hc_1, hM⟩ := bd1_some hM
  refine g_vi (As := [.int (iI a1), .int (iI a2)]) (rest := []) S hG hsz (vX11_sized l hn a1 a2 hc_1) wV_11_175 (ec_0 _) cpX11 (Nat.lt_of_lt_of_le (Nat.le_of_ble_eq_true rfl) hn) dX11_by_3 rfl hl.1 (ar := 2) (by decide +kernel) rfl ⟨Nat.le_of_ble_eq_true rfl, Nat.le_of_ble_eq_true rfl, Nat.le_of_ble_eq_true rfl, Nat.le_of_ble_eq_true rfl⟩ (Nat.le_of_ble_eq_true rfl) (fun rv uu H locs hp hG => ?_)
  obtain ⟨rfl, rfl⟩ := hp
  replace hG : gW D cy b n s H locs (enc b cy X S0) := hG
  obtain ⟨hg_3, hM⟩ := gd_some hM
  refine gi_if_eq (tgt := 18) hx hb dX11_by_6 (by decide) hg_3 (fun c_4 => ?_) (fun c_4 => ?_)
  · replace hM := ifp hM c_4
    refine lv_ldc2 (v := -2) hx hb S.2.2.2.1 (S.2.2.2.2 _ wm_1160) dX11_by_18 ?_
    refine gj_as (-2) (by decide) ?_
    cases hM
    exact g_lret S hr hlk hG hsz dX11_by_21 ⟨Nat.le_of_ble_eq_true rfl, Nat.le_of_ble_eq_true rfl⟩ ⟨rfl, rfl⟩
  · replace hM := ifn hM c_4
    refine lv_aload_n hx hb dX11_by_9 rfl (lv_at hl 0 rfl) ?_
    refine lv_iload_n hx hb dX11_by_10 rfl (lv_at hl 1 rfl) ?_
    refine lv_iload_n hx hb dX11_by_11 rfl (lv_at hl 3 rfl) ?_
    obtain ⟨r_6, hc_5, hM⟩ := bd1_some hM
    refine g_vi (As := [.int (iI a1), .int (iI a3)]) (rest := []) S hG hsz (vX11_termed l hn a1 a3 hc_5) wV_11_228 (ec_0 _) cpX11 (Nat.lt_of_lt_of_le (Nat.le_of_ble_eq_true rfl) hn) dX11_by_12 rfl hl.1 (ar := 2) (by decide +kernel) rfl ⟨Nat.le_of_ble_eq_true rfl, Nat.le_of_ble_eq_true rfl, Nat.le_of_ble_eq_true rfl, Nat.le_of_ble_eq_true rfl⟩ (Nat.le_of_ble_eq_true rfl) (fun rv uu H locs hp hG => ?_)
    obtain ⟨rfl, rfl⟩ := hp
    replace hG : gW D cy b n s H locs (enc b cy X S0) := hG
    obtain ⟨hg_7, hM⟩ := gd_some hM
    refine gi_if_ne (tgt := 22) hx hb dX11_by_15 (by decide) hg_7 (fun c_8 => ?_) (fun c_8 => ?_)
    · replace hM := ifn hM c_8
      refine lv_ldc2 (v := 1000000000000) hx hb S.2.2.2.1 (S.2.2.2.2 _ wm_1142) dX11_by_22 ?_
      refine gj_as 1000000000000 (by decide) ?_
      refine lv_aload_n hx hb dX11_by_25 rfl (lv_at hl 0 rfl) ?_
      refine m_get S hG 0 0 7 rfl ec_0 cpX11 wm_672 dX11_by_26 rfl (Nat.lt_of_lt_of_le (Nat.le_of_ble_eq_true rfl) hn) (by decide) ?_
      refine lv_iload_n hx hb dX11_by_29 rfl (lv_at hl 1 rfl) ?_
      refine lv_iload_n hx hb dX11_by_30 rfl (lv_at hl 3 rfl) ?_
      refine lv_iload_n hx hb dX11_by_31 rfl (lv_at hl 2 rfl) ?_
      obtain ⟨r_10, hc_9, hM⟩ := bd1_some hM
      refine g_vl (As := [.int (iI a1), .int (iI a3), .int (iI a2)]) (rest := [.long (jJ 1000000000000)]) S hG hsz (vX0_byTerm_40 l hn a1 a3 a2 hc_9) wV_11_231 (ec_40 _) cpX0 (Nat.lt_of_lt_of_le (Nat.le_of_ble_eq_true rfl) hn) dX11_by_32 rfl hl.1 (ar := 3) (by decide +kernel) rfl ⟨Nat.le_of_ble_eq_true rfl, Nat.le_of_ble_eq_true rfl, Nat.le_of_ble_eq_true rfl, Nat.le_of_ble_eq_true rfl⟩ (Nat.le_of_ble_eq_true rfl) (fun rv uu H locs hp hG => ?_)
      obtain ⟨rfl, rfl⟩ := hp
      replace hG : gW D cy b n s H locs (enc b cy X S0) := hG
      obtain ⟨hg_11, hM⟩ := gd_some hM
      refine gj_min S wm_1228 wm_1149 wm_190 wm_1150 hl.1 dX11_by_35 ⟨Nat.le_of_ble_eq_true rfl, Nat.le_of_ble_eq_true rfl, Nat.le_of_ble_eq_true rfl, Nat.le_of_ble_eq_true rfl⟩ (by decide) hg_11 ?_
      cases hM
      exact g_lret S hr hlk hG hsz dX11_by_38 ⟨Nat.le_of_ble_eq_true rfl, Nat.le_of_ble_eq_true rfl⟩ ⟨rfl, rfl⟩
    · replace hM := ifp hM c_8
      refine lv_ldc2 (v := -2) hx hb S.2.2.2.1 (S.2.2.2.2 _ wm_1160) dX11_by_18 ?_
      refine gj_as (-2) (by decide) ?_
      cases hM
      exact g_lret S hr hlk hG hsz dX11_by_21 ⟨Nat.le_of_ble_eq_true rfl, Nat.le_of_ble_eq_true rfl⟩ ⟨rfl, rfl⟩
theorem wV_11_243 : gWV "GrownKinds" 243 yX2_isOff cX2_isOff 3 (some .boolean) := ⟨wm_1246, wm_906, wm_907, wm_178, wm_908, by decide +kernel, by decide +kernel⟩
theorem wV_11_246 : gWV "GrownKinds" 246 yX0_everBy cX0_everBy 4 (some .boolean) := ⟨wm_1251, wm_1252, wm_1253, wm_181, wm_1254, by decide +kernel, by decide +kernel⟩
theorem wV_0_84 : gWV "GrownKinds$Census" 84 yX0_byTerm cX0_byTerm 4 (some .long) := ⟨wm_1255, wm_1221, wm_1222, wm_181, wm_1223, by decide +kernel, by decide +kernel⟩
def mX0_everBy_40_2 (S0 : St) (a1 : Int) (a2 : Int) : Nat → Int → Option (Int)
  | 0, _ => none
  | f + 1, v_1 => gd ((inI v_1) ∧ (inI (S0 2 0))) <| if (S0 2 0) < v_1 then (some (1)) else (bd1 (mX0_byTerm_40 S0 a1 a2 v_1) fun r_12 => gd (inL r_12) <| if r_12 ≤ 0 then (mX0_everBy_40_2 S0 a1 a2 f (v_1 + 1)) else (some (0)))
def mX0_everBy_40 (S0 : St) (a1 : Int) (a2 : Int) : Option (Int) := bd1 (mX0_everBy_40_2 S0 a1 a2 FU 0) fun t_2 => if t_2 = 0 then (some (1)) else (some (0))
set_option maxHeartbeats 4000000 in
set_option maxRecDepth 100000 in
theorem vX0_everBy_40 (l : Launch) {D : va_G} {cy : Nat → ClassId} {b n : Nat} (hn : 102 ≤ n) {X : Nat → va_E} {S0 : St} (a1 : Int) (a2 : Int) {o1 : Int} (hM : mX0_everBy_40 S0 a1 a2 = some o1) : gI l yX0_everBy cX0_everBy 4 (some .boolean) 2 0 0 D cy b n (enc b cy X S0) [.ref (b + 40), .int (iI a1), .int (iI a2)] (fun r u => r = iI o1 ∧ u = (n, enc b cy X S0)) := by
  refine gI_of (by decide) (Nat.le_of_ble_eq_true rfl) ?_
  intro p e s m args below meth c S hr hlk hin hsz ls hl hG
  have hx := S.1
  have hb := S.2.1
  have hl : lv_has ls 4 [(0, .ref (b + 40)), (1, .int (iI a1)), (2, .int (iI a2))] := hl
  replace hG : gW D cy b n s s.heap [] (enc b cy X S0) := hG
  obtain ⟨H, eH⟩ : ∃ H, H = s.heap := ⟨_, rfl⟩
  obtain ⟨locs, elocs⟩ : ∃ locs : List Loc, locs = [] := ⟨_, rfl⟩
  rw [← eH, ← elocs] at hG
  rw [← eH, ← elocs]
  clear eH elocs
  unfold mX0_everBy_40 at hM
  refine lv_iconst (v := iI 0) hx hb dX0_everBy_0 (by decide) ?_
  refine lv_istore_n (lv' := [(3, .int (iI 0)), (0, .ref (b + 40)), (1, .int (iI a1)), (2, .int (iI a2))]) hx hb dX0_everBy_1 rfl hl (by decide) rfl (fun ls hl => ?_)
  obtain ⟨t_2, hc_3, hM⟩ := bd1_some hM
  have hK_4 : ∀ (H : Heap) (locs : List Loc) (ls : Array Slot), t_2 = 0 → gW D cy b n s H locs (enc b cy X S0) → lv_has ls 4 [] → W p l e (gRm 2 0 0) s m args below meth c H locs 0 0 (gQI D cy b s args below 0 0 (fun r u => r = iI o1 ∧ u = (n, enc b cy X S0))) (F0 m 25 ls []) := by
    intro H locs ls ht hG hl
    subst ht
    replace hM := ifp hM rfl
    refine lv_iconst (v := iI 1) hx hb dX0_everBy_25 (by decide) ?_
    cases hM
    exact g_zret S hr hlk hG hsz dX0_everBy_26 ⟨Nat.le_of_ble_eq_true rfl, Nat.le_of_ble_eq_true rfl⟩ (nar_z (by decide)) ⟨rfl, rfl⟩
  have hK_5 : ∀ (H : Heap) (locs : List Loc) (ls : Array Slot), t_2 = 1 → gW D cy b n s H locs (enc b cy X S0) → lv_has ls 4 [] → W p l e (gRm 2 0 0) s m args below meth c H locs 0 0 (gQI D cy b s args below 0 0 (fun r u => r = iI o1 ∧ u = (n, enc b cy X S0))) (F0 m 33 ls []) := by
    intro H locs ls ht hG hl
    subst ht
    replace hM := ifn hM (by decide)
    refine lv_iconst (v := iI 0) hx hb dX0_everBy_33 (by decide) ?_
    cases hM
    exact g_zret S hr hlk hG hsz dX0_everBy_34 ⟨Nat.le_of_ble_eq_true rfl, Nat.le_of_ble_eq_true rfl⟩ (nar_z (by decide)) ⟨rfl, rfl⟩
  have loop_6 : ∀ (f : Nat) (v_1 : Int) (H : Heap) (locs : List Loc) (ls : Array Slot), mX0_everBy_40_2 S0 a1 a2 f v_1 = some t_2 → gW D cy b n s H locs (enc b cy X S0) → lv_has ls 4 [(3, .int (iI v_1)), (0, .ref (b + 40)), (1, .int (iI a1)), (2, .int (iI a2))] → W p l e (gRm 2 0 0) s m args below meth c H locs 0 0 (gQI D cy b s args below 0 0 (fun r u => r = iI o1 ∧ u = (n, enc b cy X S0))) (F0 m 2 ls []) := by
    clear hM
    intro f
    induction f with
    | zero => intro v_1 H locs ls hM; rw [mX0_everBy_40_2] at hM; cases hM
    | succ f_8 ih_7 =>
      intro v_1 H locs ls hM hG hl
      rw [mX0_everBy_40_2] at hM
      refine lv_iload_n hx hb dX0_everBy_2 rfl (lv_at hl 0 rfl) ?_
      refine lv_aload_n hx hb dX0_everBy_3 rfl (lv_at hl 1 rfl) ?_
      refine m_get S hG 40 40 0 rfl ec_40 cpX0 wm_403 dX0_everBy_4 rfl (Nat.lt_of_lt_of_le (Nat.le_of_ble_eq_true rfl) hn) (by decide) ?_
      refine m_get S hG 2 2 0 rfl ec_2 cpX2 wm_213 dX0_everBy_7 rfl (Nat.lt_of_lt_of_le (Nat.le_of_ble_eq_true rfl) hn) (by decide) ?_
      obtain ⟨hg_9, hM⟩ := gd_some hM
      refine gi_icmp_gt (tgt := 33) hx hb dX0_everBy_10 (by decide) hg_9.1 hg_9.2 (fun c_10 => ?_) (fun c_10 => ?_)
      · replace hM := ifp hM c_10
        cases hM
        exact hK_5 H locs ls rfl hG (lv_sub hl [] rfl)
      · replace hM := ifn hM c_10
        refine lv_aload_n hx hb dX0_everBy_13 rfl (lv_at hl 1 rfl) ?_
        refine lv_iload_n hx hb dX0_everBy_14 rfl (lv_at hl 2 rfl) ?_
        refine lv_iload_n hx hb dX0_everBy_15 rfl (lv_at hl 3 rfl) ?_
        refine lv_iload_n hx hb dX0_everBy_16 rfl (lv_at hl 0 rfl) ?_
        obtain ⟨r_12, hc_11, hM⟩ := bd1_some hM
        refine g_vl (As := [.int (iI a1), .int (iI a2), .int (iI v_1)]) (rest := []) S hG hsz (vX0_byTerm_40 l hn a1 a2 v_1 hc_11) wV_0_84 (ec_40 _) cpX0 (Nat.lt_of_lt_of_le (Nat.le_of_ble_eq_true rfl) hn) dX0_everBy_17 rfl hl.1 (ar := 3) (by decide +kernel) rfl ⟨Nat.le_of_ble_eq_true rfl, Nat.le_of_ble_eq_true rfl, Nat.le_of_ble_eq_true rfl, Nat.le_of_ble_eq_true rfl⟩ (Nat.le_of_ble_eq_true rfl) (fun rv uu H locs hp hG => ?_)
        obtain ⟨rfl, rfl⟩ := hp
        replace hG : gW D cy b n s H locs (enc b cy X S0) := hG
        refine lv_lconst (v := jJ 0) hx hb dX0_everBy_20 (by decide) ?_
        obtain ⟨hg_13, hM⟩ := gd_some hM
        refine gj_cmp_le (tgt := 27) hx hb dX0_everBy_21 dX0_everBy_22 (by decide) hg_13 (by decide) (fun c_14 => ?_) (fun c_14 => ?_)
        · replace hM := ifp hM c_14
          refine lv_iinc (v := iI (v_1 + 1)) (lv' := [(3, .int (iI (v_1 + 1))), (0, .ref (b + 40)), (1, .int (iI a1)), (2, .int (iI a2))]) hx hb dX0_everBy_27 hl (k := 0) rfl ((iI_add v_1 (1)).trans (congrArg iI (by omega))) (by decide) rfl (fun ls hl => ?_)
          refine lv_goto (tgt := 2) hx hb dX0_everBy_30 (by decide) ?_
          exact ih_7 (v_1 + 1) H locs ls hM hG (lv_sub hl [0, 1, 2, 3] rfl)
        · replace hM := ifn hM c_14
          cases hM
          exact hK_4 H locs ls rfl hG (lv_sub hl [] rfl)
  exact loop_6 FU 0 H locs ls hc_3 hG (lv_sub hl [0, 1, 2, 3] rfl)
def mX11_idle_30 (S0 : St) (v_3 : Int) : Nat → Int → Int → Option (Int)
  | 0, _, _ => none
  | f + 1, v_13, v_14 => gd (0 ≤ v_3 ∧ v_3 < 30) <| gd ((inI v_13) ∧ (inI (S0 8 v_3))) <| if (S0 8 v_3) ≤ v_13 then (some (v_14)) else (bd1 (mX2_isOff_2 S0 v_3 v_13) fun r_25 => gd (inI r_25) <| if r_25 = 0 then (bd1 (mX0_everBy_40 S0 v_3 v_13) fun r_29 => gd (inI r_29) <| if r_29 = 0 then (mX11_idle_30 S0 v_3 f (v_13 + 1) (v_14 + 1)) else (mX11_idle_30 S0 v_3 f (v_13 + 1) v_14)) else (mX11_idle_30 S0 v_3 f (v_13 + 1) v_14))
def mX11_idle_17 (S0 : St)  : Nat → Int → Int → Option (Int)
  | 0, _, _ => none
  | f + 1, v_3, v_4 => gd ((inI v_3) ∧ (inI (S0 2 1))) <| if (S0 2 1) ≤ v_3 then (some (v_4)) else (bd1 (mX11_idle_30 S0 v_3 FU 0 v_4) fun y_15 => mX11_idle_17 S0 f (v_3 + 1) y_15)
def mX11_idle (S0 : St)  : Option (Int) := gd (inI (S0 2 2)) <| if (S0 2 2) = 0 then (some ((-2))) else (bd1 (mX11_idle_17 S0 FU 0 0) fun y_5 => some (y_5))
set_option maxHeartbeats 4000000 in
set_option maxRecDepth 100000 in
theorem vX11_idle (l : Launch) {D : va_G} {cy : Nat → ClassId} {b n : Nat} (hn : 102 ≤ n) {X : Nat → va_E} {S0 : St}  {o1 : Int} (hM : mX11_idle S0  = some o1) : gI l yX11_idle cX11_idle 4 (some .int) 3 0 0 D cy b n (enc b cy X S0) [.ref (b + 0)] (fun r u => r = iI o1 ∧ u = (n, enc b cy X S0)) := by
  refine gI_of (by decide) (Nat.le_of_ble_eq_true rfl) ?_
  intro p e s m args below meth c S hr hlk hin hsz ls hl hG
  have hx := S.1
  have hb := S.2.1
  have hl : lv_has ls 4 [(0, .ref (b + 0))] := hl
  replace hG : gW D cy b n s s.heap [] (enc b cy X S0) := hG
  obtain ⟨H, eH⟩ : ∃ H, H = s.heap := ⟨_, rfl⟩
  obtain ⟨locs, elocs⟩ : ∃ locs : List Loc, locs = [] := ⟨_, rfl⟩
  rw [← eH, ← elocs] at hG
  rw [← eH, ← elocs]
  clear eH elocs
  unfold mX11_idle at hM
  refine lv_aload_n hx hb dX11_idle_0 rfl (lv_at hl 0 rfl) ?_
  refine m_get S hG 0 0 2 rfl ec_0 cpX11 wm_667 dX11_idle_1 rfl (Nat.lt_of_lt_of_le (Nat.le_of_ble_eq_true rfl) hn) (by decide) ?_
  refine m_get S hG 2 2 2 rfl ec_2 cpX2 wm_225 dX11_idle_4 rfl (Nat.lt_of_lt_of_le (Nat.le_of_ble_eq_true rfl) hn) (by decide) ?_
  obtain ⟨hg_1, hM⟩ := gd_some hM
  refine gi_if_ne (tgt := 13) hx hb dX11_idle_7 (by decide) hg_1 (fun c_2 => ?_) (fun c_2 => ?_)
  · replace hM := ifn hM c_2
    refine lv_iconst (v := iI 0) hx hb dX11_idle_13 (by decide) ?_
    refine lv_istore_n (lv' := [(1, .int (iI 0)), (0, .ref (b + 0))]) hx hb dX11_idle_14 rfl hl (by decide) rfl (fun ls hl => ?_)
    refine lv_iconst (v := iI 0) hx hb dX11_idle_15 (by decide) ?_
    refine lv_istore_n (lv' := [(2, .int (iI 0)), (1, .int (iI 0)), (0, .ref (b + 0))]) hx hb dX11_idle_16 rfl hl (by decide) rfl (fun ls hl => ?_)
    obtain ⟨y_5, hc_6, hM⟩ := bd1_some hM
    have hK_7 : ∀ (H : Heap) (locs : List Loc) (ls : Array Slot), gW D cy b n s H locs (enc b cy X S0) → lv_has ls 4 [(1, .int (iI y_5))] → W p l e (gRm 3 0 0) s m args below meth c H locs 0 0 (gQI D cy b s args below 0 0 (fun r u => r = iI o1 ∧ u = (n, enc b cy X S0))) (F0 m 82 ls []) := by
      intro H locs ls hG hl
      refine lv_iload_n hx hb dX11_idle_82 rfl (lv_at hl 0 rfl) ?_
      cases hM
      exact g_iret S hr hlk hG hsz dX11_idle_83 ⟨Nat.le_of_ble_eq_true rfl, Nat.le_of_ble_eq_true rfl⟩ ⟨rfl, rfl⟩
    have loop_8 : ∀ (f : Nat) (v_3 : Int) (v_4 : Int) (H : Heap) (locs : List Loc) (ls : Array Slot), mX11_idle_17 S0 f v_3 v_4 = some y_5 → gW D cy b n s H locs (enc b cy X S0) → lv_has ls 4 [(2, .int (iI v_3)), (1, .int (iI v_4)), (0, .ref (b + 0))] → W p l e (gRm 3 0 0) s m args below meth c H locs 0 0 (gQI D cy b s args below 0 0 (fun r u => r = iI o1 ∧ u = (n, enc b cy X S0))) (F0 m 17 ls []) := by
      clear hM
      intro f
      induction f with
      | zero => intro v_3 v_4 H locs ls hM; rw [mX11_idle_17] at hM; cases hM
      | succ f_10 ih_9 =>
        intro v_3 v_4 H locs ls hM hG hl
        rw [mX11_idle_17] at hM
        refine lv_iload_n hx hb dX11_idle_17 rfl (lv_at hl 0 rfl) ?_
        refine lv_aload_n hx hb dX11_idle_18 rfl (lv_at hl 2 rfl) ?_
        refine m_get S hG 0 0 2 rfl ec_0 cpX11 wm_667 dX11_idle_19 rfl (Nat.lt_of_lt_of_le (Nat.le_of_ble_eq_true rfl) hn) (by decide) ?_
        refine m_get S hG 2 2 1 rfl ec_2 cpX2 wm_222 dX11_idle_22 rfl (Nat.lt_of_lt_of_le (Nat.le_of_ble_eq_true rfl) hn) (by decide) ?_
        obtain ⟨hg_11, hM⟩ := gd_some hM
        refine gi_icmp_ge (tgt := 82) hx hb dX11_idle_25 (by decide) hg_11.1 hg_11.2 (fun c_12 => ?_) (fun c_12 => ?_)
        · replace hM := ifp hM c_12
          cases hM
          exact hK_7 H locs ls hG (lv_sub hl [1] rfl)
        · replace hM := ifn hM c_12
          refine lv_iconst (v := iI 0) hx hb dX11_idle_28 (by decide) ?_
          refine lv_istore_n (lv' := [(3, .int (iI 0)), (2, .int (iI v_3)), (1, .int (iI v_4)), (0, .ref (b + 0))]) hx hb dX11_idle_29 rfl hl (by decide) rfl (fun ls hl => ?_)
          obtain ⟨y_15, hc_16, hM⟩ := bd1_some hM
          have hK_17 : ∀ (H : Heap) (locs : List Loc) (ls : Array Slot), gW D cy b n s H locs (enc b cy X S0) → lv_has ls 4 [(2, .int (iI v_3)), (0, .ref (b + 0)), (1, .int (iI y_15))] → W p l e (gRm 3 0 0) s m args below meth c H locs 0 0 (gQI D cy b s args below 0 0 (fun r u => r = iI o1 ∧ u = (n, enc b cy X S0))) (F0 m 76 ls []) := by
            intro H locs ls hG hl
            refine lv_iinc (v := iI (v_3 + 1)) (lv' := [(2, .int (iI (v_3 + 1))), (0, .ref (b + 0)), (1, .int (iI y_15))]) hx hb dX11_idle_76 hl (k := 0) rfl ((iI_add v_3 (1)).trans (congrArg iI (by omega))) (by decide) rfl (fun ls hl => ?_)
            refine lv_goto (tgt := 17) hx hb dX11_idle_79 (by decide) ?_
            exact ih_9 (v_3 + 1) y_15 H locs ls hM hG (lv_sub hl [0, 2, 1] rfl)
          have loop_18 : ∀ (f : Nat) (v_13 : Int) (v_14 : Int) (H : Heap) (locs : List Loc) (ls : Array Slot), mX11_idle_30 S0 v_3 f v_13 v_14 = some y_15 → gW D cy b n s H locs (enc b cy X S0) → lv_has ls 4 [(3, .int (iI v_13)), (2, .int (iI v_3)), (1, .int (iI v_14)), (0, .ref (b + 0))] → W p l e (gRm 3 0 0) s m args below meth c H locs 0 0 (gQI D cy b s args below 0 0 (fun r u => r = iI o1 ∧ u = (n, enc b cy X S0))) (F0 m 30 ls []) := by
            clear hM
            intro f
            induction f with
            | zero => intro v_13 v_14 H locs ls hM; rw [mX11_idle_30] at hM; cases hM
            | succ f_20 ih_19 =>
              intro v_13 v_14 H locs ls hM hG hl
              rw [mX11_idle_30] at hM
              refine lv_iload_n hx hb dX11_idle_30 rfl (lv_at hl 0 rfl) ?_
              refine lv_aload_n hx hb dX11_idle_31 rfl (lv_at hl 3 rfl) ?_
              refine m_get S hG 0 0 2 rfl ec_0 cpX11 wm_667 dX11_idle_32 rfl (Nat.lt_of_lt_of_le (Nat.le_of_ble_eq_true rfl) hn) (by decide) ?_
              refine m_get S hG 2 2 10 rfl ec_2 cpX2 wm_266 dX11_idle_35 rfl (Nat.lt_of_lt_of_le (Nat.le_of_ble_eq_true rfl) hn) (by decide) ?_
              refine lv_iload_n hx hb dX11_idle_38 rfl (lv_at hl 1 rfl) ?_
              obtain ⟨hg_21, hM⟩ := gd_some hM
              refine mi_ald S hG 8 8 rfl ec_8 (Nat.lt_of_lt_of_le (Nat.le_of_ble_eq_true rfl) hn) dX11_idle_39 hg_21 (by decide) ?_
              obtain ⟨hg_22, hM⟩ := gd_some hM
              refine gi_icmp_ge (tgt := 76) hx hb dX11_idle_40 (by decide) hg_22.1 hg_22.2 (fun c_23 => ?_) (fun c_23 => ?_)
              · replace hM := ifp hM c_23
                cases hM
                exact hK_17 H locs ls hG (lv_sub hl [1, 3, 2] rfl)
              · replace hM := ifn hM c_23
                refine lv_aload_n hx hb dX11_idle_43 rfl (lv_at hl 3 rfl) ?_
                refine m_get S hG 0 0 2 rfl ec_0 cpX11 wm_667 dX11_idle_44 rfl (Nat.lt_of_lt_of_le (Nat.le_of_ble_eq_true rfl) hn) (by decide) ?_
                refine lv_iload_n hx hb dX11_idle_47 rfl (lv_at hl 1 rfl) ?_
                refine lv_iload_n hx hb dX11_idle_48 rfl (lv_at hl 0 rfl) ?_
                obtain ⟨r_25, hc_24, hM⟩ := bd1_some hM
                refine g_vi (As := [.int (iI v_3), .int (iI v_13)]) (rest := []) S hG hsz (vX2_isOff_2 l hn v_3 v_13 hc_24) wV_11_243 (ec_2 _) cpX2 (Nat.lt_of_lt_of_le (Nat.le_of_ble_eq_true rfl) hn) dX11_idle_49 rfl hl.1 (ar := 2) (by decide +kernel) rfl ⟨Nat.le_of_ble_eq_true rfl, Nat.le_of_ble_eq_true rfl, Nat.le_of_ble_eq_true rfl, Nat.le_of_ble_eq_true rfl⟩ (Nat.le_of_ble_eq_true rfl) (fun rv uu H locs hp hG => ?_)
                obtain ⟨rfl, rfl⟩ := hp
                replace hG : gW D cy b n s H locs (enc b cy X S0) := hG
                obtain ⟨hg_26, hM⟩ := gd_some hM
                refine gi_if_ne (tgt := 70) hx hb dX11_idle_52 (by decide) hg_26 (fun c_27 => ?_) (fun c_27 => ?_)
                · replace hM := ifn hM c_27
                  refine lv_iinc (v := iI (v_13 + 1)) (lv' := [(3, .int (iI (v_13 + 1))), (2, .int (iI v_3)), (1, .int (iI v_14)), (0, .ref (b + 0))]) hx hb dX11_idle_70 hl (k := 0) rfl ((iI_add v_13 (1)).trans (congrArg iI (by omega))) (by decide) rfl (fun ls hl => ?_)
                  refine lv_goto (tgt := 30) hx hb dX11_idle_73 (by decide) ?_
                  exact ih_19 (v_13 + 1) v_14 H locs ls hM hG (lv_sub hl [0, 1, 2, 3] rfl)
                · replace hM := ifp hM c_27
                  refine lv_aload_n hx hb dX11_idle_55 rfl (lv_at hl 3 rfl) ?_
                  refine m_get S hG 0 0 7 rfl ec_0 cpX11 wm_672 dX11_idle_56 rfl (Nat.lt_of_lt_of_le (Nat.le_of_ble_eq_true rfl) hn) (by decide) ?_
                  refine lv_iload_n hx hb dX11_idle_59 rfl (lv_at hl 1 rfl) ?_
                  refine lv_iload_n hx hb dX11_idle_60 rfl (lv_at hl 0 rfl) ?_
                  obtain ⟨r_29, hc_28, hM⟩ := bd1_some hM
                  refine g_vi (As := [.int (iI v_3), .int (iI v_13)]) (rest := []) S hG hsz (vX0_everBy_40 l hn v_3 v_13 hc_28) wV_11_246 (ec_40 _) cpX0 (Nat.lt_of_lt_of_le (Nat.le_of_ble_eq_true rfl) hn) dX11_idle_61 rfl hl.1 (ar := 2) (by decide +kernel) rfl ⟨Nat.le_of_ble_eq_true rfl, Nat.le_of_ble_eq_true rfl, Nat.le_of_ble_eq_true rfl, Nat.le_of_ble_eq_true rfl⟩ (Nat.le_of_ble_eq_true rfl) (fun rv uu H locs hp hG => ?_)
                  obtain ⟨rfl, rfl⟩ := hp
                  replace hG : gW D cy b n s H locs (enc b cy X S0) := hG
                  obtain ⟨hg_30, hM⟩ := gd_some hM
                  refine gi_if_ne (tgt := 70) hx hb dX11_idle_64 (by decide) hg_30 (fun c_31 => ?_) (fun c_31 => ?_)
                  · replace hM := ifn hM c_31
                    refine lv_iinc (v := iI (v_13 + 1)) (lv' := [(3, .int (iI (v_13 + 1))), (2, .int (iI v_3)), (1, .int (iI v_14)), (0, .ref (b + 0))]) hx hb dX11_idle_70 hl (k := 0) rfl ((iI_add v_13 (1)).trans (congrArg iI (by omega))) (by decide) rfl (fun ls hl => ?_)
                    refine lv_goto (tgt := 30) hx hb dX11_idle_73 (by decide) ?_
                    exact ih_19 (v_13 + 1) v_14 H locs ls hM hG (lv_sub hl [0, 1, 2, 3] rfl)
                  · replace hM := ifp hM c_31
                    refine lv_iinc (v := iI (v_14 + 1)) (lv' := [(1, .int (iI (v_14 + 1))), (3, .int (iI v_13)), (2, .int (iI v_3)), (0, .ref (b + 0))]) hx hb dX11_idle_67 hl (k := 2) rfl ((iI_add v_14 (1)).trans (congrArg iI (by omega))) (by decide) rfl (fun ls hl => ?_)
                    refine lv_iinc (v := iI (v_13 + 1)) (lv' := [(3, .int (iI (v_13 + 1))), (1, .int (iI (v_14 + 1))), (2, .int (iI v_3)), (0, .ref (b + 0))]) hx hb dX11_idle_70 hl (k := 1) rfl ((iI_add v_13 (1)).trans (congrArg iI (by omega))) (by decide) rfl (fun ls hl => ?_)
                    refine lv_goto (tgt := 30) hx hb dX11_idle_73 (by decide) ?_
                    exact ih_19 (v_13 + 1) (v_14 + 1) H locs ls hM hG (lv_sub hl [0, 2, 1, 3] rfl)
          exact loop_18 FU 0 v_4 H locs ls hc_16 hG (lv_sub hl [0, 1, 2, 3] rfl)
    exact loop_8 FU 0 0 H locs ls hc_6 hG (lv_sub hl [0, 1, 2] rfl)
  · replace hM := ifp hM c_2
    refine lv_bipush (v := iI (-2)) hx hb dX11_idle_10 (by decide) ?_
    cases hM
    exact g_iret S hr hlk hG hsz dX11_idle_12 ⟨Nat.le_of_ble_eq_true rfl, Nat.le_of_ble_eq_true rfl⟩ ⟨rfl, rfl⟩
theorem wS_11_341 : gWS "GrownKinds" 341 yX1_bitsFor cX1_bitsFor 3 (some .int) := ⟨wm_1590, wm_1591, wm_187, wm_1592, by decide +kernel, by decide +kernel⟩
def mX1_bitsFor_2 (a1 : Int) : Nat → Int → Option (Int)
  | 0, _ => none
  | f + 1, v_1 => gd (inI v_1) <| if 30 ≤ v_1 then (some (v_1)) else (gd ((inL (lsh 1 v_1)) ∧ (inL a1)) <| if a1 ≤ (lsh 1 v_1) then (some (v_1)) else (mX1_bitsFor_2 a1 f (v_1 + 1)))
def mX1_bitsFor (a1 : Int) : Option (Int) := bd1 (mX1_bitsFor_2 a1 FU 0) fun y_2 => some (y_2)
set_option maxHeartbeats 4000000 in
set_option maxRecDepth 100000 in
theorem vX1_bitsFor (l : Launch) {D : va_G} {cy : Nat → ClassId} {b n : Nat} (hn : 102 ≤ n) {X : Nat → va_E} {S0 : St} (a1 : Int) {o1 : Int} (hM : mX1_bitsFor a1 = some o1) : gI l yX1_bitsFor cX1_bitsFor 3 (some .int) 0 0 0 D cy b n (enc b cy X S0) [.long (jJ a1)] (fun r u => r = iI o1 ∧ u = (n, enc b cy X S0)) := by
  refine gI_of (by decide) (Nat.le_of_ble_eq_true rfl) ?_
  intro p e s m args below meth c S hr hlk hin hsz ls hl hG
  have hx := S.1
  have hb := S.2.1
  have hl : lv_has ls 3 [(0, .long (jJ a1))] := hl
  replace hG : gW D cy b n s s.heap [] (enc b cy X S0) := hG
  obtain ⟨H, eH⟩ : ∃ H, H = s.heap := ⟨_, rfl⟩
  obtain ⟨locs, elocs⟩ : ∃ locs : List Loc, locs = [] := ⟨_, rfl⟩
  rw [← eH, ← elocs] at hG
  rw [← eH, ← elocs]
  clear eH elocs
  unfold mX1_bitsFor at hM
  refine lv_iconst (v := iI 0) hx hb dX1_bitsFor_0 (by decide) ?_
  refine lv_istore_n (lv' := [(2, .int (iI 0)), (0, .long (jJ a1))]) hx hb dX1_bitsFor_1 rfl hl (by decide) rfl (fun ls hl => ?_)
  obtain ⟨y_2, hc_3, hM⟩ := bd1_some hM
  have hK_4 : ∀ (H : Heap) (locs : List Loc) (ls : Array Slot), gW D cy b n s H locs (enc b cy X S0) → lv_has ls 3 [(2, .int (iI y_2))] → W p l e (gRm 0 0 0) s m args below meth c H locs 0 0 (gQI D cy b s args below 0 0 (fun r u => r = iI o1 ∧ u = (n, enc b cy X S0))) (F0 m 22 ls []) := by
    intro H locs ls hG hl
    refine lv_iload_n hx hb dX1_bitsFor_22 rfl (lv_at hl 0 rfl) ?_
    cases hM
    exact g_iret S hr hlk hG hsz dX1_bitsFor_23 ⟨Nat.le_of_ble_eq_true rfl, Nat.le_of_ble_eq_true rfl⟩ ⟨rfl, rfl⟩
  have loop_5 : ∀ (f : Nat) (v_1 : Int) (H : Heap) (locs : List Loc) (ls : Array Slot), mX1_bitsFor_2 a1 f v_1 = some y_2 → gW D cy b n s H locs (enc b cy X S0) → lv_has ls 3 [(2, .int (iI v_1)), (0, .long (jJ a1))] → W p l e (gRm 0 0 0) s m args below meth c H locs 0 0 (gQI D cy b s args below 0 0 (fun r u => r = iI o1 ∧ u = (n, enc b cy X S0))) (F0 m 2 ls []) := by
    clear hM
    intro f
    induction f with
    | zero => intro v_1 H locs ls hM; rw [mX1_bitsFor_2] at hM; cases hM
    | succ f_7 ih_6 =>
      intro v_1 H locs ls hM hG hl
      rw [mX1_bitsFor_2] at hM
      refine lv_iload_n hx hb dX1_bitsFor_2 rfl (lv_at hl 0 rfl) ?_
      refine lv_bipush (v := iI 30) hx hb dX1_bitsFor_3 (by decide) ?_
      obtain ⟨hg_8, hM⟩ := gd_some hM
      refine gi_icmp_ge (tgt := 22) hx hb dX1_bitsFor_5 (by decide) hg_8 (by decide) (fun c_9 => ?_) (fun c_9 => ?_)
      · replace hM := ifp hM c_9
        cases hM
        exact hK_4 H locs ls hG (lv_sub hl [0] rfl)
      · replace hM := ifn hM c_9
        refine lv_lconst (v := jJ 1) hx hb dX1_bitsFor_8 (by decide) ?_
        refine lv_iload_n hx hb dX1_bitsFor_9 rfl (lv_at hl 0 rfl) ?_
        refine gj_shl hx hb dX1_bitsFor_10 ?_
        refine lv_lload_n hx hb dX1_bitsFor_11 rfl (lv_at hl 1 rfl) ?_
        obtain ⟨hg_10, hM⟩ := gd_some hM
        refine gj_cmp_ge (tgt := 22) hx hb dX1_bitsFor_12 dX1_bitsFor_13 (by decide) hg_10.1 hg_10.2 (fun c_11 => ?_) (fun c_11 => ?_)
        · replace hM := ifp hM c_11
          cases hM
          exact hK_4 H locs ls hG (lv_sub hl [0] rfl)
        · replace hM := ifn hM c_11
          refine lv_iinc (v := iI (v_1 + 1)) (lv' := [(2, .int (iI (v_1 + 1))), (0, .long (jJ a1))]) hx hb dX1_bitsFor_16 hl (k := 0) rfl ((iI_add v_1 (1)).trans (congrArg iI (by omega))) (by decide) rfl (fun ls hl => ?_)
          refine lv_goto (tgt := 2) hx hb dX1_bitsFor_19 (by decide) ?_
          exact ih_6 (v_1 + 1) H locs ls hM hG (lv_sub hl [0, 1] rfl)
  exact loop_5 FU 0 H locs ls hc_3 hG (lv_sub hl [0, 1] rfl)
def mX11_bits (S0 : St) (a1 : Int) (a2 : Int) (a3 : Int) : Option (Int) := bd1 (mX11_boxy S0 a1 a2 a3) fun r_2 => gd (inI r_2) <| if r_2 = 0 then (some ((-2))) else (bd1 (mX0_between_40 S0 a1 a2 a3) fun r_6 => gd (inL r_6) <| if r_6 ≤ 1000000 then (if r_6 = 0 then (some ((-1))) else (bd1 (mX1_bitsFor r_6) fun r_11 => some (r_11))) else (some ((-3))))
set_option maxHeartbeats 4000000 in
set_option maxRecDepth 100000 in
theorem vX11_bits (l : Launch) {D : va_G} {cy : Nat → ClassId} {b n : Nat} (hn : 102 ≤ n) {X : Nat → va_E} {S0 : St} (a1 : Int) (a2 : Int) (a3 : Int) {o1 : Int} (hM : mX11_bits S0 a1 a2 a3 = some o1) : gI l yX11_bits cX11_bits 6 (some .int) 3 0 0 D cy b n (enc b cy X S0) [.ref (b + 0), .int (iI a1), .int (iI a2), .int (iI a3)] (fun r u => r = iI o1 ∧ u = (n, enc b cy X S0)) := by
  refine gI_of (by decide) (Nat.le_of_ble_eq_true rfl) ?_
  intro p e s m args below meth c S hr hlk hin hsz ls hl hG
  have hx := S.1
  have hb := S.2.1
  have hl : lv_has ls 6 [(0, .ref (b + 0)), (1, .int (iI a1)), (2, .int (iI a2)), (3, .int (iI a3))] := hl
  replace hG : gW D cy b n s s.heap [] (enc b cy X S0) := hG
  obtain ⟨H, eH⟩ : ∃ H, H = s.heap := ⟨_, rfl⟩
  obtain ⟨locs, elocs⟩ : ∃ locs : List Loc, locs = [] := ⟨_, rfl⟩
  rw [← eH, ← elocs] at hG
  rw [← eH, ← elocs]
  clear eH elocs
  unfold mX11_bits at hM
  refine lv_aload_n hx hb dX11_bits_0 rfl (lv_at hl 0 rfl) ?_
  refine lv_iload_n hx hb dX11_bits_1 rfl (lv_at hl 1 rfl) ?_
  refine lv_iload_n hx hb dX11_bits_2 rfl (lv_at hl 2 rfl) ?_
  refine lv_iload_n hx hb dX11_bits_3 rfl (lv_at hl 3 rfl) ?_
  obtain ⟨r_2, hc_1, hM⟩ := bd1_some hM
  refine g_vi (As := [.int (iI a1), .int (iI a2), .int (iI a3)]) (rest := []) S hG hsz (vX11_boxy l hn a1 a2 a3 hc_1) wV_11_332 (ec_0 _) cpX11 (Nat.lt_of_lt_of_le (Nat.le_of_ble_eq_true rfl) hn) dX11_bits_4 rfl hl.1 (ar := 3) (by decide +kernel) rfl ⟨Nat.le_of_ble_eq_true rfl, Nat.le_of_ble_eq_true rfl, Nat.le_of_ble_eq_true rfl, Nat.le_of_ble_eq_true rfl⟩ (Nat.le_of_ble_eq_true rfl) (fun rv uu H locs hp hG => ?_)
  obtain ⟨rfl, rfl⟩ := hp
  replace hG : gW D cy b n s H locs (enc b cy X S0) := hG
  obtain ⟨hg_3, hM⟩ := gd_some hM
  refine gi_if_ne (tgt := 13) hx hb dX11_bits_7 (by decide) hg_3 (fun c_4 => ?_) (fun c_4 => ?_)
  · replace hM := ifn hM c_4
    refine lv_aload_n hx hb dX11_bits_13 rfl (lv_at hl 0 rfl) ?_
    refine m_get S hG 0 0 7 rfl ec_0 cpX11 wm_672 dX11_bits_14 rfl (Nat.lt_of_lt_of_le (Nat.le_of_ble_eq_true rfl) hn) (by decide) ?_
    refine lv_iload_n hx hb dX11_bits_17 rfl (lv_at hl 1 rfl) ?_
    refine lv_iload_n hx hb dX11_bits_18 rfl (lv_at hl 2 rfl) ?_
    refine lv_iload_n hx hb dX11_bits_19 rfl (lv_at hl 3 rfl) ?_
    obtain ⟨r_6, hc_5, hM⟩ := bd1_some hM
    refine g_vl (As := [.int (iI a1), .int (iI a2), .int (iI a3)]) (rest := []) S hG hsz (vX0_between_40 l hn a1 a2 a3 hc_5) wV_11_336 (ec_40 _) cpX0 (Nat.lt_of_lt_of_le (Nat.le_of_ble_eq_true rfl) hn) dX11_bits_20 rfl hl.1 (ar := 3) (by decide +kernel) rfl ⟨Nat.le_of_ble_eq_true rfl, Nat.le_of_ble_eq_true rfl, Nat.le_of_ble_eq_true rfl, Nat.le_of_ble_eq_true rfl⟩ (Nat.le_of_ble_eq_true rfl) (fun rv uu H locs hp hG => ?_)
    obtain ⟨rfl, rfl⟩ := hp
    replace hG : gW D cy b n s H locs (enc b cy X S0) := hG
    refine lv_lstore (lv' := [(4, .long (jJ r_6)), (0, .ref (b + 0)), (1, .int (iI a1)), (2, .int (iI a2)), (3, .int (iI a3))]) hx hb dX11_bits_23 hl (by decide) rfl (fun ls hl => ?_)
    refine lv_lload hx hb dX11_bits_25 (lv_at hl 0 rfl) ?_
    refine lv_ldc2 (v := 1000000) hx hb S.2.2.2.1 (S.2.2.2.2 _ wm_1589) dX11_bits_27 ?_
    refine gj_as 1000000 (by decide) ?_
    obtain ⟨hg_7, hM⟩ := gd_some hM
    refine gj_cmp_le (tgt := 37) hx hb dX11_bits_30 dX11_bits_31 (by decide) hg_7 (by decide) (fun c_8 => ?_) (fun c_8 => ?_)
    · replace hM := ifp hM c_8
      refine lv_lload hx hb dX11_bits_37 (lv_at hl 0 rfl) ?_
      refine lv_lconst (v := jJ 0) hx hb dX11_bits_39 (by decide) ?_
      refine gj_cmp_ne (tgt := 48) hx hb dX11_bits_40 dX11_bits_41 (by decide) hg_7 (by decide) (fun c_9 => ?_) (fun c_9 => ?_)
      · replace hM := ifn hM c_9
        refine lv_lload hx hb dX11_bits_48 (lv_at hl 0 rfl) ?_
        obtain ⟨r_11, hc_10, hM⟩ := bd1_some hM
        refine g_si (As := [.long (jJ r_6)]) (rest := []) S hG hsz (vX1_bitsFor l hn r_6 hc_10) wS_11_341 dX11_bits_50 rfl hl.1 (ar := 1) (by decide +kernel) rfl ⟨Nat.le_of_ble_eq_true rfl, Nat.le_of_ble_eq_true rfl, Nat.le_of_ble_eq_true rfl, Nat.le_of_ble_eq_true rfl⟩ (Nat.le_of_ble_eq_true rfl) (fun rv uu H locs hp hG => ?_)
        obtain ⟨rfl, rfl⟩ := hp
        replace hG : gW D cy b n s H locs (enc b cy X S0) := hG
        cases hM
        exact g_iret S hr hlk hG hsz dX11_bits_53 ⟨Nat.le_of_ble_eq_true rfl, Nat.le_of_ble_eq_true rfl⟩ ⟨rfl, rfl⟩
      · replace hM := ifp hM c_9
        refine lv_iconst (v := iI (-1)) hx hb dX11_bits_44 (by decide) ?_
        refine lv_goto (tgt := 53) hx hb dX11_bits_45 (by decide) ?_
        cases hM
        exact g_iret S hr hlk hG hsz dX11_bits_53 ⟨Nat.le_of_ble_eq_true rfl, Nat.le_of_ble_eq_true rfl⟩ ⟨rfl, rfl⟩
    · replace hM := ifn hM c_8
      refine lv_bipush (v := iI (-3)) hx hb dX11_bits_34 (by decide) ?_
      cases hM
      exact g_iret S hr hlk hG hsz dX11_bits_36 ⟨Nat.le_of_ble_eq_true rfl, Nat.le_of_ble_eq_true rfl⟩ ⟨rfl, rfl⟩
  · replace hM := ifp hM c_4
    refine lv_bipush (v := iI (-2)) hx hb dX11_bits_10 (by decide) ?_
    cases hM
    exact g_iret S hr hlk hG hsz dX11_bits_12 ⟨Nat.le_of_ble_eq_true rfl, Nat.le_of_ble_eq_true rfl⟩ ⟨rfl, rfl⟩
theorem wS_11_346 : gWS "GrownKinds" 346 yX1_draw cX1_draw 5 (some .int) := ⟨wm_1598, wm_1599, wm_187, wm_1600, by decide +kernel, by decide +kernel⟩
theorem wS_1_34 : gWS "GrownKinds$Dealer" 34 yX1_bitsFor cX1_bitsFor 3 (some .int) := ⟨wm_1601, wm_1591, wm_187, wm_1592, by decide +kernel, by decide +kernel⟩
def mX1_draw_14 (r_3 : Int) (a1 : Int) (a2 : Int) : Nat → Int → Option (Int × Int)
  | 0, _ => none
  | f + 1, v_6 => gd (0 < r_3 ∧ r_3 ≤ 2147483647) <| gd ((inI v_6) ∧ (inI (30 / r_3))) <| if (30 / r_3) ≤ v_6 then (some (1, 0)) else (nx (an (shr a2 (v_6 * r_3)) ((shl 1 r_3) - 1)) fun x_18 => gd (inI x_18) <| if a1 ≤ x_18 then (mX1_draw_14 r_3 a1 a2 f (v_6 + 1)) else (some (0, x_18)))
def mX1_draw (a1 : Int) (a2 : Int) : Option (Int) := gd (inI a1) <| bd1 (mX1_bitsFor a1) fun r_3 => gd (inI r_3) <| if r_3 = 0 then (some (0)) else (bd2 (mX1_draw_14 r_3 a1 a2 FU 0) fun t_7 y_8 => if t_7 = 0 then (some (y_8)) else (some ((-1))))
set_option maxHeartbeats 4000000 in
set_option maxRecDepth 100000 in
theorem vX1_draw (l : Launch) {D : va_G} {cy : Nat → ClassId} {b n : Nat} (hn : 102 ≤ n) {X : Nat → va_E} {S0 : St} (a1 : Int) (a2 : Int) {o1 : Int} (hM : mX1_draw a1 a2 = some o1) : gI l yX1_draw cX1_draw 5 (some .int) 1 0 0 D cy b n (enc b cy X S0) [.int (iI a1), .int (iI a2)] (fun r u => r = iI o1 ∧ u = (n, enc b cy X S0)) := by
  refine gI_of (by decide) (Nat.le_of_ble_eq_true rfl) ?_
  intro p e s m args below meth c S hr hlk hin hsz ls hl hG
  have hx := S.1
  have hb := S.2.1
  have hl : lv_has ls 5 [(0, .int (iI a1)), (1, .int (iI a2))] := hl
  replace hG : gW D cy b n s s.heap [] (enc b cy X S0) := hG
  obtain ⟨H, eH⟩ : ∃ H, H = s.heap := ⟨_, rfl⟩
  obtain ⟨locs, elocs⟩ : ∃ locs : List Loc, locs = [] := ⟨_, rfl⟩
  rw [← eH, ← elocs] at hG
  rw [← eH, ← elocs]
  clear eH elocs
  unfold mX1_draw at hM
  refine lv_iload_n hx hb dX1_draw_0 rfl (lv_at hl 0 rfl) ?_
  obtain ⟨hg_1, hM⟩ := gd_some hM
  refine gi_i2l hx hb dX1_draw_1 hg_1 ?_
  obtain ⟨r_3, hc_2, hM⟩ := bd1_some hM
  refine g_si (As := [.long (jJ a1)]) (rest := []) S hG hsz (vX1_bitsFor l hn a1 hc_2) wS_1_34 dX1_draw_2 rfl hl.1 (ar := 1) (by decide +kernel) rfl ⟨Nat.le_of_ble_eq_true rfl, Nat.le_of_ble_eq_true rfl, Nat.le_of_ble_eq_true rfl, Nat.le_of_ble_eq_true rfl⟩ (Nat.le_of_ble_eq_true rfl) (fun rv uu H locs hp hG => ?_)
  obtain ⟨rfl, rfl⟩ := hp
  replace hG : gW D cy b n s H locs (enc b cy X S0) := hG
  refine lv_istore_n (lv' := [(2, .int (iI r_3)), (0, .int (iI a1)), (1, .int (iI a2))]) hx hb dX1_draw_5 rfl hl (by decide) rfl (fun ls hl => ?_)
  refine lv_iload_n hx hb dX1_draw_6 rfl (lv_at hl 0 rfl) ?_
  obtain ⟨hg_4, hM⟩ := gd_some hM
  refine gi_if_ne (tgt := 12) hx hb dX1_draw_7 (by decide) hg_4 (fun c_5 => ?_) (fun c_5 => ?_)
  · replace hM := ifn hM c_5
    refine lv_iconst (v := iI 0) hx hb dX1_draw_12 (by decide) ?_
    refine lv_istore_n (lv' := [(3, .int (iI 0)), (2, .int (iI r_3)), (0, .int (iI a1)), (1, .int (iI a2))]) hx hb dX1_draw_13 rfl hl (by decide) rfl (fun ls hl => ?_)
    obtain ⟨t_7, y_8, hc_9, hM⟩ := bd2_some hM
    have hK_10 : ∀ (H : Heap) (locs : List Loc) (ls : Array Slot), t_7 = 0 → gW D cy b n s H locs (enc b cy X S0) → lv_has ls 5 [(4, .int (iI y_8))] → W p l e (gRm 1 0 0) s m args below meth c H locs 0 0 (gQI D cy b s args below 0 0 (fun r u => r = iI o1 ∧ u = (n, enc b cy X S0))) (F0 m 41 ls []) := by
      intro H locs ls ht hG hl
      subst ht
      replace hM := ifp hM rfl
      refine lv_iload hx hb dX1_draw_41 (lv_at hl 0 rfl) ?_
      cases hM
      exact g_iret S hr hlk hG hsz dX1_draw_43 ⟨Nat.le_of_ble_eq_true rfl, Nat.le_of_ble_eq_true rfl⟩ ⟨rfl, rfl⟩
    have hK_11 : ∀ (H : Heap) (locs : List Loc) (ls : Array Slot), t_7 = 1 → gW D cy b n s H locs (enc b cy X S0) → lv_has ls 5 [] → W p l e (gRm 1 0 0) s m args below meth c H locs 0 0 (gQI D cy b s args below 0 0 (fun r u => r = iI o1 ∧ u = (n, enc b cy X S0))) (F0 m 50 ls []) := by
      intro H locs ls ht hG hl
      subst ht
      replace hM := ifn hM (by decide)
      refine lv_iconst (v := iI (-1)) hx hb dX1_draw_50 (by decide) ?_
      cases hM
      exact g_iret S hr hlk hG hsz dX1_draw_51 ⟨Nat.le_of_ble_eq_true rfl, Nat.le_of_ble_eq_true rfl⟩ ⟨rfl, rfl⟩
    have loop_12 : ∀ (f : Nat) (v_6 : Int) (H : Heap) (locs : List Loc) (ls : Array Slot), mX1_draw_14 r_3 a1 a2 f v_6 = some (t_7, y_8) → gW D cy b n s H locs (enc b cy X S0) → lv_has ls 5 [(3, .int (iI v_6)), (2, .int (iI r_3)), (0, .int (iI a1)), (1, .int (iI a2))] → W p l e (gRm 1 0 0) s m args below meth c H locs 0 0 (gQI D cy b s args below 0 0 (fun r u => r = iI o1 ∧ u = (n, enc b cy X S0))) (F0 m 14 ls []) := by
      clear hM
      intro f
      induction f with
      | zero => intro v_6 H locs ls hM; rw [mX1_draw_14] at hM; cases hM
      | succ f_14 ih_13 =>
        intro v_6 H locs ls hM hG hl
        rw [mX1_draw_14] at hM
        refine lv_iload_n hx hb dX1_draw_14 rfl (lv_at hl 0 rfl) ?_
        refine lv_bipush (v := iI 30) hx hb dX1_draw_15 (by decide) ?_
        refine lv_iload_n hx hb dX1_draw_17 rfl (lv_at hl 1 rfl) ?_
        obtain ⟨hg_15, hM⟩ := gd_some hM
        refine gi_div hx hb dX1_draw_18 (by decide) hg_15 ?_
        obtain ⟨hg_16, hM⟩ := gd_some hM
        refine gi_icmp_ge (tgt := 50) hx hb dX1_draw_19 (by decide) hg_16.1 hg_16.2 (fun c_17 => ?_) (fun c_17 => ?_)
        · replace hM := ifp hM c_17
          cases hM
          exact hK_11 H locs ls rfl hG (lv_sub hl [] rfl)
        · replace hM := ifn hM c_17
          refine lv_iload_n hx hb dX1_draw_22 rfl (lv_at hl 3 rfl) ?_
          refine lv_iload_n hx hb dX1_draw_23 rfl (lv_at hl 0 rfl) ?_
          refine lv_iload_n hx hb dX1_draw_24 rfl (lv_at hl 1 rfl) ?_
          refine gi_mul hx hb dX1_draw_25 ?_
          refine gi_shr hx hb dX1_draw_26 ?_
          refine lv_iconst (v := iI 1) hx hb dX1_draw_27 (by decide) ?_
          refine lv_iload_n hx hb dX1_draw_28 rfl (lv_at hl 1 rfl) ?_
          refine gi_shl hx hb dX1_draw_29 ?_
          refine lv_iconst (v := iI 1) hx hb dX1_draw_30 (by decide) ?_
          refine gi_sub hx hb dX1_draw_31 ?_
          refine gi_and hx hb dX1_draw_32 ?_
          refine gi_nm (fun x_18 ex_18 => ?_)
          replace hM := nx_at hM ex_18
          clear ex_18
          refine lv_istore (lv' := [(4, .int (iI x_18)), (3, .int (iI v_6)), (2, .int (iI r_3)), (0, .int (iI a1)), (1, .int (iI a2))]) hx hb dX1_draw_33 hl (by decide) rfl (fun ls hl => ?_)
          refine lv_iload hx hb dX1_draw_35 (lv_at hl 0 rfl) ?_
          refine lv_iload_n hx hb dX1_draw_37 rfl (lv_at hl 3 rfl) ?_
          obtain ⟨hg_19, hM⟩ := gd_some hM
          refine gi_icmp_ge (tgt := 44) hx hb dX1_draw_38 (by decide) hg_19 hg_1 (fun c_20 => ?_) (fun c_20 => ?_)
          · replace hM := ifp hM c_20
            refine lv_iinc (v := iI (v_6 + 1)) (lv' := [(3, .int (iI (v_6 + 1))), (4, .int (iI x_18)), (2, .int (iI r_3)), (0, .int (iI a1)), (1, .int (iI a2))]) hx hb dX1_draw_44 hl (k := 1) rfl ((iI_add v_6 (1)).trans (congrArg iI (by omega))) (by decide) rfl (fun ls hl => ?_)
            refine lv_goto (tgt := 14) hx hb dX1_draw_47 (by decide) ?_
            exact ih_13 (v_6 + 1) H locs ls hM hG (lv_sub hl [0, 2, 3, 4] rfl)
          · replace hM := ifn hM c_20
            cases hM
            exact hK_10 H locs ls rfl hG (lv_sub hl [0] rfl)
    exact loop_12 FU 0 H locs ls hc_9 hG (lv_sub hl [0, 1, 2, 3] rfl)
  · replace hM := ifp hM c_5
    refine lv_iconst (v := iI 0) hx hb dX1_draw_10 (by decide) ?_
    cases hM
    exact g_iret S hr hlk hG hsz dX1_draw_11 ⟨Nat.le_of_ble_eq_true rfl, Nat.le_of_ble_eq_true rfl⟩ ⟨rfl, rfl⟩
theorem wV_11_349 : gWV "GrownKinds" 349 yX0_sizeAt cX0_sizeAt 7 (some .int) := ⟨wm_1602, wm_1603, wm_1604, wm_181, wm_1605, by decide +kernel, by decide +kernel⟩
def mX0_sizeAt_40_7 (S0 : St) (a1 : Int) : Nat → Int → Int → Option (Int)
  | 0, _, _ => none
  | f + 1, v_2, v_3 => gd ((inI v_2) ∧ (inI (S0 2 0))) <| if (S0 2 0) ≤ v_2 then (some (v_2)) else (bd1 (mX0_thingsAt_40 S0 a1 v_2) fun r_13 => gd ((inL v_3) ∧ (inL r_13)) <| if v_3 < r_13 then (some (v_2)) else (bd1 (mX0_thingsAt_40 S0 a1 v_2) fun r_17 => nx (v_3 - r_17) fun x_18 => mX0_sizeAt_40_7 S0 a1 f (v_2 + 1) x_18))
def mX0_sizeAt_40 (S0 : St) (a1 : Int) (a2 : Int) (a3 : Int) : Option (Int) := gd (inI a3) <| bd1 (mX0_sizeAt_40_7 S0 a1 FU a2 a3) fun y_4 => some (y_4)
set_option maxHeartbeats 4000000 in
set_option maxRecDepth 100000 in
theorem vX0_sizeAt_40 (l : Launch) {D : va_G} {cy : Nat → ClassId} {b n : Nat} (hn : 102 ≤ n) {X : Nat → va_E} {S0 : St} (a1 : Int) (a2 : Int) (a3 : Int) {o1 : Int} (hM : mX0_sizeAt_40 S0 a1 a2 a3 = some o1) : gI l yX0_sizeAt cX0_sizeAt 7 (some .int) 2 0 0 D cy b n (enc b cy X S0) [.ref (b + 40), .int (iI a1), .int (iI a2), .int (iI a3)] (fun r u => r = iI o1 ∧ u = (n, enc b cy X S0)) := by
  refine gI_of (by decide) (Nat.le_of_ble_eq_true rfl) ?_
  intro p e s m args below meth c S hr hlk hin hsz ls hl hG
  have hx := S.1
  have hb := S.2.1
  have hl : lv_has ls 7 [(0, .ref (b + 40)), (1, .int (iI a1)), (2, .int (iI a2)), (3, .int (iI a3))] := hl
  replace hG : gW D cy b n s s.heap [] (enc b cy X S0) := hG
  obtain ⟨H, eH⟩ : ∃ H, H = s.heap := ⟨_, rfl⟩
  obtain ⟨locs, elocs⟩ : ∃ locs : List Loc, locs = [] := ⟨_, rfl⟩
  rw [← eH, ← elocs] at hG
  rw [← eH, ← elocs]
  clear eH elocs
  unfold mX0_sizeAt_40 at hM
  refine lv_iload_n hx hb dX0_sizeAt_0 rfl (lv_at hl 3 rfl) ?_
  obtain ⟨hg_1, hM⟩ := gd_some hM
  refine gi_i2l hx hb dX0_sizeAt_1 hg_1 ?_
  refine lv_lstore (lv' := [(4, .long (jJ a3)), (0, .ref (b + 40)), (1, .int (iI a1)), (2, .int (iI a2)), (3, .int (iI a3))]) hx hb dX0_sizeAt_2 hl (by decide) rfl (fun ls hl => ?_)
  refine lv_iload_n hx hb dX0_sizeAt_4 rfl (lv_at hl 3 rfl) ?_
  refine lv_istore (lv' := [(6, .int (iI a2)), (4, .long (jJ a3)), (0, .ref (b + 40)), (1, .int (iI a1)), (2, .int (iI a2)), (3, .int (iI a3))]) hx hb dX0_sizeAt_5 hl (by decide) rfl (fun ls hl => ?_)
  obtain ⟨y_4, hc_5, hM⟩ := bd1_some hM
  have hK_6 : ∀ (H : Heap) (locs : List Loc) (ls : Array Slot), gW D cy b n s H locs (enc b cy X S0) → lv_has ls 7 [(6, .int (iI y_4))] → W p l e (gRm 2 0 0) s m args below meth c H locs 0 0 (gQI D cy b s args below 0 0 (fun r u => r = iI o1 ∧ u = (n, enc b cy X S0))) (F0 m 50 ls []) := by
    intro H locs ls hG hl
    refine lv_iload hx hb dX0_sizeAt_50 (lv_at hl 0 rfl) ?_
    cases hM
    exact g_iret S hr hlk hG hsz dX0_sizeAt_52 ⟨Nat.le_of_ble_eq_true rfl, Nat.le_of_ble_eq_true rfl⟩ ⟨rfl, rfl⟩
  have loop_7 : ∀ (f : Nat) (v_2 : Int) (v_3 : Int) (H : Heap) (locs : List Loc) (ls : Array Slot), mX0_sizeAt_40_7 S0 a1 f v_2 v_3 = some y_4 → gW D cy b n s H locs (enc b cy X S0) → lv_has ls 7 [(6, .int (iI v_2)), (4, .long (jJ v_3)), (0, .ref (b + 40)), (1, .int (iI a1))] → W p l e (gRm 2 0 0) s m args below meth c H locs 0 0 (gQI D cy b s args below 0 0 (fun r u => r = iI o1 ∧ u = (n, enc b cy X S0))) (F0 m 7 ls []) := by
    clear hM
    intro f
    induction f with
    | zero => intro v_2 v_3 H locs ls hM; rw [mX0_sizeAt_40_7] at hM; cases hM
    | succ f_9 ih_8 =>
      intro v_2 v_3 H locs ls hM hG hl
      rw [mX0_sizeAt_40_7] at hM
      refine lv_iload hx hb dX0_sizeAt_7 (lv_at hl 0 rfl) ?_
      refine lv_aload_n hx hb dX0_sizeAt_9 rfl (lv_at hl 2 rfl) ?_
      refine m_get S hG 40 40 0 rfl ec_40 cpX0 wm_403 dX0_sizeAt_10 rfl (Nat.lt_of_lt_of_le (Nat.le_of_ble_eq_true rfl) hn) (by decide) ?_
      refine m_get S hG 2 2 0 rfl ec_2 cpX2 wm_213 dX0_sizeAt_13 rfl (Nat.lt_of_lt_of_le (Nat.le_of_ble_eq_true rfl) hn) (by decide) ?_
      obtain ⟨hg_10, hM⟩ := gd_some hM
      refine gi_icmp_ge (tgt := 50) hx hb dX0_sizeAt_16 (by decide) hg_10.1 hg_10.2 (fun c_11 => ?_) (fun c_11 => ?_)
      · replace hM := ifp hM c_11
        cases hM
        exact hK_6 H locs ls hG (lv_sub hl [0] rfl)
      · replace hM := ifn hM c_11
        refine lv_lload hx hb dX0_sizeAt_19 (lv_at hl 1 rfl) ?_
        refine lv_aload_n hx hb dX0_sizeAt_21 rfl (lv_at hl 2 rfl) ?_
        refine lv_iload_n hx hb dX0_sizeAt_22 rfl (lv_at hl 3 rfl) ?_
        refine lv_iload hx hb dX0_sizeAt_23 (lv_at hl 0 rfl) ?_
        obtain ⟨r_13, hc_12, hM⟩ := bd1_some hM
        refine g_vl (As := [.int (iI a1), .int (iI v_2)]) (rest := [.long (jJ v_3)]) S hG hsz (vX0_thingsAt_40 l hn a1 v_2 hc_12) wV_0_88 (ec_40 _) cpX0 (Nat.lt_of_lt_of_le (Nat.le_of_ble_eq_true rfl) hn) dX0_sizeAt_25 rfl hl.1 (ar := 2) (by decide +kernel) rfl ⟨Nat.le_of_ble_eq_true rfl, Nat.le_of_ble_eq_true rfl, Nat.le_of_ble_eq_true rfl, Nat.le_of_ble_eq_true rfl⟩ (Nat.le_of_ble_eq_true rfl) (fun rv uu H locs hp hG => ?_)
        obtain ⟨rfl, rfl⟩ := hp
        replace hG : gW D cy b n s H locs (enc b cy X S0) := hG
        obtain ⟨hg_14, hM⟩ := gd_some hM
        refine gj_cmp_lt (tgt := 50) hx hb dX0_sizeAt_28 dX0_sizeAt_29 (by decide) hg_14.1 hg_14.2 (fun c_15 => ?_) (fun c_15 => ?_)
        · replace hM := ifp hM c_15
          cases hM
          exact hK_6 H locs ls hG (lv_sub hl [0] rfl)
        · replace hM := ifn hM c_15
          refine lv_lload hx hb dX0_sizeAt_32 (lv_at hl 1 rfl) ?_
          refine lv_aload_n hx hb dX0_sizeAt_34 rfl (lv_at hl 2 rfl) ?_
          refine lv_iload_n hx hb dX0_sizeAt_35 rfl (lv_at hl 3 rfl) ?_
          refine lv_iload hx hb dX0_sizeAt_36 (lv_at hl 0 rfl) ?_
          obtain ⟨r_17, hc_16, hM⟩ := bd1_some hM
          refine g_vl (As := [.int (iI a1), .int (iI v_2)]) (rest := [.long (jJ v_3)]) S hG hsz (vX0_thingsAt_40 l hn a1 v_2 hc_16) wV_0_88 (ec_40 _) cpX0 (Nat.lt_of_lt_of_le (Nat.le_of_ble_eq_true rfl) hn) dX0_sizeAt_38 rfl hl.1 (ar := 2) (by decide +kernel) rfl ⟨Nat.le_of_ble_eq_true rfl, Nat.le_of_ble_eq_true rfl, Nat.le_of_ble_eq_true rfl, Nat.le_of_ble_eq_true rfl⟩ (Nat.le_of_ble_eq_true rfl) (fun rv uu H locs hp hG => ?_)
          obtain ⟨rfl, rfl⟩ := hp
          replace hG : gW D cy b n s H locs (enc b cy X S0) := hG
          refine gj_sub hx hb dX0_sizeAt_41 ?_
          refine gj_nm (fun x_18 ex_18 => ?_)
          replace hM := nx_at hM ex_18
          clear ex_18
          refine lv_lstore (lv' := [(4, .long (jJ x_18)), (6, .int (iI v_2)), (0, .ref (b + 40)), (1, .int (iI a1))]) hx hb dX0_sizeAt_42 hl (by decide) rfl (fun ls hl => ?_)
          refine lv_iinc (v := iI (v_2 + 1)) (lv' := [(6, .int (iI (v_2 + 1))), (4, .long (jJ x_18)), (0, .ref (b + 40)), (1, .int (iI a1))]) hx hb dX0_sizeAt_44 hl (k := 1) rfl ((iI_add v_2 (1)).trans (congrArg iI (by omega))) (by decide) rfl (fun ls hl => ?_)
          refine lv_goto (tgt := 7) hx hb dX0_sizeAt_47 (by decide) ?_
          exact ih_8 (v_2 + 1) x_18 H locs ls hM hG (lv_sub hl [0, 1, 2, 3] rfl)
  exact loop_7 FU a2 a3 H locs ls hc_5 hG (lv_sub hl [0, 1, 2, 3] rfl)
theorem wV_11_352 : gWV "GrownKinds" 352 yX0_rankAt cX0_rankAt 5 (some .int) := ⟨wm_1606, wm_1607, wm_1608, wm_181, wm_1609, by decide +kernel, by decide +kernel⟩
theorem wV_0_91 : gWV "GrownKinds$Census" 91 yX0_sizeAt cX0_sizeAt 7 (some .int) := ⟨wm_1610, wm_1603, wm_1604, wm_181, wm_1605, by decide +kernel, by decide +kernel⟩
theorem wV_0_95 : gWV "GrownKinds$Census" 95 yX0_between cX0_between 7 (some .long) := ⟨wm_1611, wm_1174, wm_1175, wm_181, wm_1176, by decide +kernel, by decide +kernel⟩
def mX0_rankAt_40 (S0 : St) (a1 : Int) (a2 : Int) (a3 : Int) : Option (Int) := bd1 (mX0_sizeAt_40 S0 a1 a2 a3) fun r_2 => gd ((inI r_2) ∧ (inI a2)) <| if r_2 ≤ a2 then (some (a3)) else (bd1 (mX0_between_40 S0 a1 a2 (r_2 - 1)) fun r_6 => some ((a3 - r_6)))
set_option maxHeartbeats 4000000 in
set_option maxRecDepth 100000 in
theorem vX0_rankAt_40 (l : Launch) {D : va_G} {cy : Nat → ClassId} {b n : Nat} (hn : 102 ≤ n) {X : Nat → va_E} {S0 : St} (a1 : Int) (a2 : Int) (a3 : Int) {o1 : Int} (hM : mX0_rankAt_40 S0 a1 a2 a3 = some o1) : gI l yX0_rankAt cX0_rankAt 5 (some .int) 3 0 0 D cy b n (enc b cy X S0) [.ref (b + 40), .int (iI a1), .int (iI a2), .int (iI a3)] (fun r u => r = iI o1 ∧ u = (n, enc b cy X S0)) := by
  refine gI_of (by decide) (Nat.le_of_ble_eq_true rfl) ?_
  intro p e s m args below meth c S hr hlk hin hsz ls hl hG
  have hx := S.1
  have hb := S.2.1
  have hl : lv_has ls 5 [(0, .ref (b + 40)), (1, .int (iI a1)), (2, .int (iI a2)), (3, .int (iI a3))] := hl
  replace hG : gW D cy b n s s.heap [] (enc b cy X S0) := hG
  obtain ⟨H, eH⟩ : ∃ H, H = s.heap := ⟨_, rfl⟩
  obtain ⟨locs, elocs⟩ : ∃ locs : List Loc, locs = [] := ⟨_, rfl⟩
  rw [← eH, ← elocs] at hG
  rw [← eH, ← elocs]
  clear eH elocs
  unfold mX0_rankAt_40 at hM
  refine lv_aload_n hx hb dX0_rankAt_0 rfl (lv_at hl 0 rfl) ?_
  refine lv_iload_n hx hb dX0_rankAt_1 rfl (lv_at hl 1 rfl) ?_
  refine lv_iload_n hx hb dX0_rankAt_2 rfl (lv_at hl 2 rfl) ?_
  refine lv_iload_n hx hb dX0_rankAt_3 rfl (lv_at hl 3 rfl) ?_
  obtain ⟨r_2, hc_1, hM⟩ := bd1_some hM
  refine g_vi (As := [.int (iI a1), .int (iI a2), .int (iI a3)]) (rest := []) S hG hsz (vX0_sizeAt_40 l hn a1 a2 a3 hc_1) wV_0_91 (ec_40 _) cpX0 (Nat.lt_of_lt_of_le (Nat.le_of_ble_eq_true rfl) hn) dX0_rankAt_4 rfl hl.1 (ar := 3) (by decide +kernel) rfl ⟨Nat.le_of_ble_eq_true rfl, Nat.le_of_ble_eq_true rfl, Nat.le_of_ble_eq_true rfl, Nat.le_of_ble_eq_true rfl⟩ (Nat.le_of_ble_eq_true rfl) (fun rv uu H locs hp hG => ?_)
  obtain ⟨rfl, rfl⟩ := hp
  replace hG : gW D cy b n s H locs (enc b cy X S0) := hG
  refine lv_istore (lv' := [(4, .int (iI r_2)), (0, .ref (b + 40)), (1, .int (iI a1)), (2, .int (iI a2)), (3, .int (iI a3))]) hx hb dX0_rankAt_7 hl (by decide) rfl (fun ls hl => ?_)
  refine lv_iload hx hb dX0_rankAt_9 (lv_at hl 0 rfl) ?_
  refine lv_iload_n hx hb dX0_rankAt_11 rfl (lv_at hl 3 rfl) ?_
  obtain ⟨hg_3, hM⟩ := gd_some hM
  refine gi_icmp_le (tgt := 31) hx hb dX0_rankAt_12 (by decide) hg_3.1 hg_3.2 (fun c_4 => ?_) (fun c_4 => ?_)
  · replace hM := ifp hM c_4
    refine lv_iload_n hx hb dX0_rankAt_31 rfl (lv_at hl 4 rfl) ?_
    cases hM
    exact g_iret S hr hlk hG hsz dX0_rankAt_32 ⟨Nat.le_of_ble_eq_true rfl, Nat.le_of_ble_eq_true rfl⟩ ⟨rfl, rfl⟩
  · replace hM := ifn hM c_4
    refine lv_iload_n hx hb dX0_rankAt_15 rfl (lv_at hl 4 rfl) ?_
    refine lv_aload_n hx hb dX0_rankAt_16 rfl (lv_at hl 1 rfl) ?_
    refine lv_iload_n hx hb dX0_rankAt_17 rfl (lv_at hl 2 rfl) ?_
    refine lv_iload_n hx hb dX0_rankAt_18 rfl (lv_at hl 3 rfl) ?_
    refine lv_iload hx hb dX0_rankAt_19 (lv_at hl 0 rfl) ?_
    refine lv_iconst (v := iI 1) hx hb dX0_rankAt_21 (by decide) ?_
    refine gi_sub hx hb dX0_rankAt_22 ?_
    obtain ⟨r_6, hc_5, hM⟩ := bd1_some hM
    refine g_vl (As := [.int (iI a1), .int (iI a2), .int (iI (r_2 - 1))]) (rest := [.int (iI a3)]) S hG hsz (vX0_between_40 l hn a1 a2 (r_2 - 1) hc_5) wV_0_95 (ec_40 _) cpX0 (Nat.lt_of_lt_of_le (Nat.le_of_ble_eq_true rfl) hn) dX0_rankAt_23 rfl hl.1 (ar := 3) (by decide +kernel) rfl ⟨Nat.le_of_ble_eq_true rfl, Nat.le_of_ble_eq_true rfl, Nat.le_of_ble_eq_true rfl, Nat.le_of_ble_eq_true rfl⟩ (Nat.le_of_ble_eq_true rfl) (fun rv uu H locs hp hG => ?_)
    obtain ⟨rfl, rfl⟩ := hp
    replace hG : gW D cy b n s H locs (enc b cy X S0) := hG
    refine gj_l2i hx hb dX0_rankAt_26 ?_
    refine gi_sub hx hb dX0_rankAt_27 ?_
    refine lv_goto (tgt := 32) hx hb dX0_rankAt_28 (by decide) ?_
    cases hM
    exact g_iret S hr hlk hG hsz dX0_rankAt_32 ⟨Nat.le_of_ble_eq_true rfl, Nat.le_of_ble_eq_true rfl⟩ ⟨rfl, rfl⟩
def mX11_drawn (S0 : St) (a1 : Int) (a2 : Int) (a3 : Int) (a4 : Int) (a5 : Int) : Option (Int) := bd1 (mX11_boxy S0 a1 a2 a3) fun r_2 => gd (inI r_2) <| if r_2 = 0 then (some ((-2))) else (gd (inI a4) <| if a4 < 0 then (some ((-2))) else (if 1073741823 < a4 then (some ((-2))) else (gd (inI a5) <| if a5 < 0 then (some ((-2))) else (if a5 ≤ 1 then (bd1 (mX0_between_40 S0 a1 a2 a3) fun r_12 => gd (inL r_12) <| if r_12 ≤ 1000000 then (bd1 (if r_12 = 0 then (some ((-1))) else (bd1 (mX1_draw r_12 a4) fun r_27 => some (r_27))) fun z_15 => gd (inI z_15) <| if z_15 = (-1) then (some ((-1))) else (bd1 (mX0_sizeAt_40 S0 a1 a2 z_15) fun r_21 => if a5 = 0 then (some (r_21)) else (bd1 (mX0_rankAt_40 S0 a1 a2 z_15) fun r_24 => some (r_24)))) else (some ((-3)))) else (some ((-2)))))))
set_option maxHeartbeats 4000000 in
set_option maxRecDepth 100000 in
theorem vX11_drawn (l : Launch) {D : va_G} {cy : Nat → ClassId} {b n : Nat} (hn : 102 ≤ n) {X : Nat → va_E} {S0 : St} (a1 : Int) (a2 : Int) (a3 : Int) (a4 : Int) (a5 : Int) {o1 : Int} (hM : mX11_drawn S0 a1 a2 a3 a4 a5 = some o1) : gI l yX11_drawn cX11_drawn 10 (some .int) 4 0 0 D cy b n (enc b cy X S0) [.ref (b + 0), .int (iI a1), .int (iI a2), .int (iI a3), .int (iI a4), .int (iI a5)] (fun r u => r = iI o1 ∧ u = (n, enc b cy X S0)) := by
  refine gI_of (by decide) (Nat.le_of_ble_eq_true rfl) ?_
  intro p e s m args below meth c S hr hlk hin hsz ls hl hG
  have hx := S.1
  have hb := S.2.1
  have hl : lv_has ls 10 [(0, .ref (b + 0)), (1, .int (iI a1)), (2, .int (iI a2)), (3, .int (iI a3)), (4, .int (iI a4)), (5, .int (iI a5))] := hl
  replace hG : gW D cy b n s s.heap [] (enc b cy X S0) := hG
  obtain ⟨H, eH⟩ : ∃ H, H = s.heap := ⟨_, rfl⟩
  obtain ⟨locs, elocs⟩ : ∃ locs : List Loc, locs = [] := ⟨_, rfl⟩
  rw [← eH, ← elocs] at hG
  rw [← eH, ← elocs]
  clear eH elocs
  unfold mX11_drawn at hM
  refine lv_aload_n hx hb dX11_drawn_0 rfl (lv_at hl 0 rfl) ?_
  refine lv_iload_n hx hb dX11_drawn_1 rfl (lv_at hl 1 rfl) ?_
  refine lv_iload_n hx hb dX11_drawn_2 rfl (lv_at hl 2 rfl) ?_
  refine lv_iload_n hx hb dX11_drawn_3 rfl (lv_at hl 3 rfl) ?_
  obtain ⟨r_2, hc_1, hM⟩ := bd1_some hM
  refine g_vi (As := [.int (iI a1), .int (iI a2), .int (iI a3)]) (rest := []) S hG hsz (vX11_boxy l hn a1 a2 a3 hc_1) wV_11_332 (ec_0 _) cpX11 (Nat.lt_of_lt_of_le (Nat.le_of_ble_eq_true rfl) hn) dX11_drawn_4 rfl hl.1 (ar := 3) (by decide +kernel) rfl ⟨Nat.le_of_ble_eq_true rfl, Nat.le_of_ble_eq_true rfl, Nat.le_of_ble_eq_true rfl, Nat.le_of_ble_eq_true rfl⟩ (Nat.le_of_ble_eq_true rfl) (fun rv uu H locs hp hG => ?_)
  obtain ⟨rfl, rfl⟩ := hp
  replace hG : gW D cy b n s H locs (enc b cy X S0) := hG
  obtain ⟨hg_3, hM⟩ := gd_some hM
  refine gi_if_eq (tgt := 34) hx hb dX11_drawn_7 (by decide) hg_3 (fun c_4 => ?_) (fun c_4 => ?_)
  · replace hM := ifp hM c_4
    refine lv_bipush (v := iI (-2)) hx hb dX11_drawn_34 (by decide) ?_
    cases hM
    exact g_iret S hr hlk hG hsz dX11_drawn_36 ⟨Nat.le_of_ble_eq_true rfl, Nat.le_of_ble_eq_true rfl⟩ ⟨rfl, rfl⟩
  · replace hM := ifn hM c_4
    refine lv_iload hx hb dX11_drawn_10 (lv_at hl 4 rfl) ?_
    obtain ⟨hg_5, hM⟩ := gd_some hM
    refine gi_if_lt (tgt := 34) hx hb dX11_drawn_12 (by decide) hg_5 (fun c_6 => ?_) (fun c_6 => ?_)
    · replace hM := ifp hM c_6
      refine lv_bipush (v := iI (-2)) hx hb dX11_drawn_34 (by decide) ?_
      cases hM
      exact g_iret S hr hlk hG hsz dX11_drawn_36 ⟨Nat.le_of_ble_eq_true rfl, Nat.le_of_ble_eq_true rfl⟩ ⟨rfl, rfl⟩
    · replace hM := ifn hM c_6
      refine lv_iload hx hb dX11_drawn_15 (lv_at hl 4 rfl) ?_
      refine lv_ldcw (v := 1073741823) hx hb S.2.2.2.1 (S.2.2.2.2 _ wm_1597) dX11_drawn_17 ?_
      refine gi_as 1073741823 (by decide) ?_
      refine gi_icmp_gt (tgt := 34) hx hb dX11_drawn_20 (by decide) hg_5 (by decide) (fun c_7 => ?_) (fun c_7 => ?_)
      · replace hM := ifp hM c_7
        refine lv_bipush (v := iI (-2)) hx hb dX11_drawn_34 (by decide) ?_
        cases hM
        exact g_iret S hr hlk hG hsz dX11_drawn_36 ⟨Nat.le_of_ble_eq_true rfl, Nat.le_of_ble_eq_true rfl⟩ ⟨rfl, rfl⟩
      · replace hM := ifn hM c_7
        refine lv_iload hx hb dX11_drawn_23 (lv_at hl 5 rfl) ?_
        obtain ⟨hg_8, hM⟩ := gd_some hM
        refine gi_if_lt (tgt := 34) hx hb dX11_drawn_25 (by decide) hg_8 (fun c_9 => ?_) (fun c_9 => ?_)
        · replace hM := ifp hM c_9
          refine lv_bipush (v := iI (-2)) hx hb dX11_drawn_34 (by decide) ?_
          cases hM
          exact g_iret S hr hlk hG hsz dX11_drawn_36 ⟨Nat.le_of_ble_eq_true rfl, Nat.le_of_ble_eq_true rfl⟩ ⟨rfl, rfl⟩
        · replace hM := ifn hM c_9
          refine lv_iload hx hb dX11_drawn_28 (lv_at hl 5 rfl) ?_
          refine lv_iconst (v := iI 1) hx hb dX11_drawn_30 (by decide) ?_
          refine gi_icmp_le (tgt := 37) hx hb dX11_drawn_31 (by decide) hg_8 (by decide) (fun c_10 => ?_) (fun c_10 => ?_)
          · replace hM := ifp hM c_10
            refine lv_aload_n hx hb dX11_drawn_37 rfl (lv_at hl 0 rfl) ?_
            refine m_get S hG 0 0 7 rfl ec_0 cpX11 wm_672 dX11_drawn_38 rfl (Nat.lt_of_lt_of_le (Nat.le_of_ble_eq_true rfl) hn) (by decide) ?_
            refine lv_iload_n hx hb dX11_drawn_41 rfl (lv_at hl 1 rfl) ?_
            refine lv_iload_n hx hb dX11_drawn_42 rfl (lv_at hl 2 rfl) ?_
            refine lv_iload_n hx hb dX11_drawn_43 rfl (lv_at hl 3 rfl) ?_
            obtain ⟨r_12, hc_11, hM⟩ := bd1_some hM
            refine g_vl (As := [.int (iI a1), .int (iI a2), .int (iI a3)]) (rest := []) S hG hsz (vX0_between_40 l hn a1 a2 a3 hc_11) wV_11_336 (ec_40 _) cpX0 (Nat.lt_of_lt_of_le (Nat.le_of_ble_eq_true rfl) hn) dX11_drawn_44 rfl hl.1 (ar := 3) (by decide +kernel) rfl ⟨Nat.le_of_ble_eq_true rfl, Nat.le_of_ble_eq_true rfl, Nat.le_of_ble_eq_true rfl, Nat.le_of_ble_eq_true rfl⟩ (Nat.le_of_ble_eq_true rfl) (fun rv uu H locs hp hG => ?_)
            obtain ⟨rfl, rfl⟩ := hp
            replace hG : gW D cy b n s H locs (enc b cy X S0) := hG
            refine lv_lstore (lv' := [(6, .long (jJ r_12)), (0, .ref (b + 0)), (1, .int (iI a1)), (2, .int (iI a2)), (3, .int (iI a3)), (4, .int (iI a4)), (5, .int (iI a5))]) hx hb dX11_drawn_47 hl (by decide) rfl (fun ls hl => ?_)
            refine lv_lload hx hb dX11_drawn_49 (lv_at hl 0 rfl) ?_
            refine lv_ldc2 (v := 1000000) hx hb S.2.2.2.1 (S.2.2.2.2 _ wm_1589) dX11_drawn_51 ?_
            refine gj_as 1000000 (by decide) ?_
            obtain ⟨hg_13, hM⟩ := gd_some hM
            refine gj_cmp_le (tgt := 61) hx hb dX11_drawn_54 dX11_drawn_55 (by decide) hg_13 (by decide) (fun c_14 => ?_) (fun c_14 => ?_)
            · replace hM := ifp hM c_14
              refine lv_lload hx hb dX11_drawn_61 (lv_at hl 0 rfl) ?_
              refine lv_lconst (v := jJ 0) hx hb dX11_drawn_63 (by decide) ?_
              obtain ⟨z_15, hc_16, hM⟩ := bd1_some hM
              have hK_17 : ∀ (H : Heap) (locs : List Loc) (ls : Array Slot), gW D cy b n s H locs (enc b cy X S0) → lv_has ls 10 [(0, .ref (b + 0)), (1, .int (iI a1)), (2, .int (iI a2)), (5, .int (iI a5))] → W p l e (gRm 4 0 0) s m args below meth c H locs 0 0 (gQI D cy b s args below 0 0 (fun r u => r = iI o1 ∧ u = (n, enc b cy X S0))) (F0 m 80 ls [.int (iI z_15)]) := by
                intro H locs ls hG hl
                refine lv_istore (lv' := [(8, .int (iI z_15)), (0, .ref (b + 0)), (1, .int (iI a1)), (2, .int (iI a2)), (5, .int (iI a5))]) hx hb dX11_drawn_80 hl (by decide) rfl (fun ls hl => ?_)
                refine lv_iload hx hb dX11_drawn_82 (lv_at hl 0 rfl) ?_
                refine lv_iconst (v := iI (-1)) hx hb dX11_drawn_84 (by decide) ?_
                obtain ⟨hg_18, hM⟩ := gd_some hM
                refine gi_icmp_ne (tgt := 90) hx hb dX11_drawn_85 (by decide) hg_18 (by decide) (fun c_19 => ?_) (fun c_19 => ?_)
                · replace hM := ifn hM c_19
                  refine lv_aload_n hx hb dX11_drawn_90 rfl (lv_at hl 1 rfl) ?_
                  refine m_get S hG 0 0 7 rfl ec_0 cpX11 wm_672 dX11_drawn_91 rfl (Nat.lt_of_lt_of_le (Nat.le_of_ble_eq_true rfl) hn) (by decide) ?_
                  refine lv_iload_n hx hb dX11_drawn_94 rfl (lv_at hl 2 rfl) ?_
                  refine lv_iload_n hx hb dX11_drawn_95 rfl (lv_at hl 3 rfl) ?_
                  refine lv_iload hx hb dX11_drawn_96 (lv_at hl 0 rfl) ?_
                  obtain ⟨r_21, hc_20, hM⟩ := bd1_some hM
                  refine g_vi (As := [.int (iI a1), .int (iI a2), .int (iI z_15)]) (rest := []) S hG hsz (vX0_sizeAt_40 l hn a1 a2 z_15 hc_20) wV_11_349 (ec_40 _) cpX0 (Nat.lt_of_lt_of_le (Nat.le_of_ble_eq_true rfl) hn) dX11_drawn_98 rfl hl.1 (ar := 3) (by decide +kernel) rfl ⟨Nat.le_of_ble_eq_true rfl, Nat.le_of_ble_eq_true rfl, Nat.le_of_ble_eq_true rfl, Nat.le_of_ble_eq_true rfl⟩ (Nat.le_of_ble_eq_true rfl) (fun rv uu H locs hp hG => ?_)
                  obtain ⟨rfl, rfl⟩ := hp
                  replace hG : gW D cy b n s H locs (enc b cy X S0) := hG
                  refine lv_istore (lv' := [(9, .int (iI r_21)), (8, .int (iI z_15)), (0, .ref (b + 0)), (1, .int (iI a1)), (2, .int (iI a2)), (5, .int (iI a5))]) hx hb dX11_drawn_101 hl (by decide) rfl (fun ls hl => ?_)
                  refine lv_iload hx hb dX11_drawn_103 (lv_at hl 5 rfl) ?_
                  refine gi_if_ne (tgt := 113) hx hb dX11_drawn_105 (by decide) hg_8 (fun c_22 => ?_) (fun c_22 => ?_)
                  · replace hM := ifn hM c_22
                    refine lv_aload_n hx hb dX11_drawn_113 rfl (lv_at hl 2 rfl) ?_
                    refine m_get S hG 0 0 7 rfl ec_0 cpX11 wm_672 dX11_drawn_114 rfl (Nat.lt_of_lt_of_le (Nat.le_of_ble_eq_true rfl) hn) (by decide) ?_
                    refine lv_iload_n hx hb dX11_drawn_117 rfl (lv_at hl 3 rfl) ?_
                    refine lv_iload_n hx hb dX11_drawn_118 rfl (lv_at hl 4 rfl) ?_
                    refine lv_iload hx hb dX11_drawn_119 (lv_at hl 1 rfl) ?_
                    obtain ⟨r_24, hc_23, hM⟩ := bd1_some hM
                    refine g_vi (As := [.int (iI a1), .int (iI a2), .int (iI z_15)]) (rest := []) S hG hsz (vX0_rankAt_40 l hn a1 a2 z_15 hc_23) wV_11_352 (ec_40 _) cpX0 (Nat.lt_of_lt_of_le (Nat.le_of_ble_eq_true rfl) hn) dX11_drawn_121 rfl hl.1 (ar := 3) (by decide +kernel) rfl ⟨Nat.le_of_ble_eq_true rfl, Nat.le_of_ble_eq_true rfl, Nat.le_of_ble_eq_true rfl, Nat.le_of_ble_eq_true rfl⟩ (Nat.le_of_ble_eq_true rfl) (fun rv uu H locs hp hG => ?_)
                    obtain ⟨rfl, rfl⟩ := hp
                    replace hG : gW D cy b n s H locs (enc b cy X S0) := hG
                    cases hM
                    exact g_iret S hr hlk hG hsz dX11_drawn_124 ⟨Nat.le_of_ble_eq_true rfl, Nat.le_of_ble_eq_true rfl⟩ ⟨rfl, rfl⟩
                  · replace hM := ifp hM c_22
                    refine lv_iload hx hb dX11_drawn_108 (lv_at hl 0 rfl) ?_
                    refine lv_goto (tgt := 124) hx hb dX11_drawn_110 (by decide) ?_
                    cases hM
                    exact g_iret S hr hlk hG hsz dX11_drawn_124 ⟨Nat.le_of_ble_eq_true rfl, Nat.le_of_ble_eq_true rfl⟩ ⟨rfl, rfl⟩
                · replace hM := ifp hM c_19
                  refine lv_iconst (v := iI (-1)) hx hb dX11_drawn_88 (by decide) ?_
                  cases hM
                  exact g_iret S hr hlk hG hsz dX11_drawn_89 ⟨Nat.le_of_ble_eq_true rfl, Nat.le_of_ble_eq_true rfl⟩ ⟨rfl, rfl⟩
              clear hM
              replace hM := hc_16
              refine gj_cmp_ne (tgt := 72) hx hb dX11_drawn_64 dX11_drawn_65 (by decide) hg_13 (by decide) (fun c_25 => ?_) (fun c_25 => ?_)
              · replace hM := ifn hM c_25
                refine lv_lload hx hb dX11_drawn_72 (lv_at hl 0 rfl) ?_
                refine gj_l2i hx hb dX11_drawn_74 ?_
                refine lv_iload hx hb dX11_drawn_75 (lv_at hl 5 rfl) ?_
                obtain ⟨r_27, hc_26, hM⟩ := bd1_some hM
                refine g_si (As := [.int (iI r_12), .int (iI a4)]) (rest := []) S hG hsz (vX1_draw l hn r_12 a4 hc_26) wS_11_346 dX11_drawn_77 rfl hl.1 (ar := 2) (by decide +kernel) rfl ⟨Nat.le_of_ble_eq_true rfl, Nat.le_of_ble_eq_true rfl, Nat.le_of_ble_eq_true rfl, Nat.le_of_ble_eq_true rfl⟩ (Nat.le_of_ble_eq_true rfl) (fun rv uu H locs hp hG => ?_)
                obtain ⟨rfl, rfl⟩ := hp
                replace hG : gW D cy b n s H locs (enc b cy X S0) := hG
                cases hM
                exact hK_17 H locs ls hG (lv_sub hl [1, 2, 3, 6] rfl)
              · replace hM := ifp hM c_25
                refine lv_iconst (v := iI (-1)) hx hb dX11_drawn_68 (by decide) ?_
                refine lv_goto (tgt := 80) hx hb dX11_drawn_69 (by decide) ?_
                cases hM
                exact hK_17 H locs ls hG (lv_sub hl [1, 2, 3, 6] rfl)
            · replace hM := ifn hM c_14
              refine lv_bipush (v := iI (-3)) hx hb dX11_drawn_58 (by decide) ?_
              cases hM
              exact g_iret S hr hlk hG hsz dX11_drawn_60 ⟨Nat.le_of_ble_eq_true rfl, Nat.le_of_ble_eq_true rfl⟩ ⟨rfl, rfl⟩
          · replace hM := ifn hM c_10
            refine lv_bipush (v := iI (-2)) hx hb dX11_drawn_34 (by decide) ?_
            cases hM
            exact g_iret S hr hlk hG hsz dX11_drawn_36 ⟨Nat.le_of_ble_eq_true rfl, Nat.le_of_ble_eq_true rfl⟩ ⟨rfl, rfl⟩
theorem wV_11_358 : gWV "GrownKinds" 358 yX1_begin cX1_begin 5 none := ⟨wm_1618, wm_1619, wm_1620, wm_187, wm_1621, by decide +kernel, by decide +kernel⟩
def mX1_begin (S0 : St) (a1 : Int) (a2 : Int) (a3 : Int) (a4 : Int) : Option (St) := nx (up S0 80 2 a1) fun S_1 => nx (up S_1 80 3 a2) fun S_2 => nx (up S_2 80 4 a3) fun S_3 => nx (up S_3 80 1 a3) fun S_4 => gd (inI a3) <| bd1 (mX1_bitsFor a3) fun r_7 => nx (up S_4 80 5 ((shl 1 r_7) - 1)) fun S_8 => nx (up S_8 80 6 (an a4 (S_8 80 5))) fun S_9 => some (S_9)
set_option maxHeartbeats 4000000 in
set_option maxRecDepth 100000 in
theorem vX1_begin (l : Launch) {D : va_G} {cy : Nat → ClassId} {b n : Nat} (hn : 102 ≤ n) {X : Nat → va_E} {S0 : St} (a1 : Int) (a2 : Int) (a3 : Int) (a4 : Int) {o1 : St} (hM : mX1_begin S0 a1 a2 a3 a4 = some o1) : gV l yX1_begin cX1_begin 5 1 0 0 D cy b n (enc b cy X S0) [.ref (b + 77), .int (iI a1), .int (iI a2), .int (iI a3), .int (iI a4)] (fun u => u = (n, enc b cy X o1)) := by
  refine gV_of (by decide) (Nat.le_of_ble_eq_true rfl) ?_
  intro p e s m args below meth c S hr hlk hin hsz ls hl hG
  have hx := S.1
  have hb := S.2.1
  have hl : lv_has ls 5 [(0, .ref (b + 77)), (1, .int (iI a1)), (2, .int (iI a2)), (3, .int (iI a3)), (4, .int (iI a4))] := hl
  replace hG : gW D cy b n s s.heap [] (enc b cy X S0) := hG
  obtain ⟨H, eH⟩ : ∃ H, H = s.heap := ⟨_, rfl⟩
  obtain ⟨locs, elocs⟩ : ∃ locs : List Loc, locs = [] := ⟨_, rfl⟩
  rw [← eH, ← elocs] at hG
  rw [← eH, ← elocs]
  clear eH elocs
  unfold mX1_begin at hM
  refine lv_aload_n hx hb dX1_begin_0 rfl (lv_at hl 0 rfl) ?_
  refine lv_iload_n hx hb dX1_begin_1 rfl (lv_at hl 1 rfl) ?_
  refine m_put S hG 77 80 2 rfl 2 a1 ec_80 cpX1 wm_645 dX1_begin_2 (pf_80_2) (Nat.lt_of_lt_of_le (Nat.le_of_ble_eq_true rfl) hn) (by decide) (Nat.le_of_ble_eq_true rfl) rfl rfl rfl (fun H locs S_1 eS_1 hG => ?_)
  replace hM := nx_at hM eS_1
  clear eS_1
  refine lv_aload_n hx hb dX1_begin_5 rfl (lv_at hl 0 rfl) ?_
  refine lv_iload_n hx hb dX1_begin_6 rfl (lv_at hl 2 rfl) ?_
  refine m_put S hG 77 80 3 rfl 3 a2 ec_80 cpX1 wm_646 dX1_begin_7 (pf_80_3) (Nat.lt_of_lt_of_le (Nat.le_of_ble_eq_true rfl) hn) (by decide) (Nat.le_of_ble_eq_true rfl) rfl rfl rfl (fun H locs S_2 eS_2 hG => ?_)
  replace hM := nx_at hM eS_2
  clear eS_2
  refine lv_aload_n hx hb dX1_begin_10 rfl (lv_at hl 0 rfl) ?_
  refine lv_iload_n hx hb dX1_begin_11 rfl (lv_at hl 3 rfl) ?_
  refine m_put S hG 77 80 4 rfl 4 a3 ec_80 cpX1 wm_647 dX1_begin_12 (pf_80_4) (Nat.lt_of_lt_of_le (Nat.le_of_ble_eq_true rfl) hn) (by decide) (Nat.le_of_ble_eq_true rfl) rfl rfl rfl (fun H locs S_3 eS_3 hG => ?_)
  replace hM := nx_at hM eS_3
  clear eS_3
  refine lv_aload_n hx hb dX1_begin_15 rfl (lv_at hl 0 rfl) ?_
  refine lv_iload_n hx hb dX1_begin_16 rfl (lv_at hl 3 rfl) ?_
  refine m_put S hG 77 80 1 rfl 1 a3 ec_80 cpX1 wm_643 dX1_begin_17 (pf_80_1) (Nat.lt_of_lt_of_le (Nat.le_of_ble_eq_true rfl) hn) (by decide) (Nat.le_of_ble_eq_true rfl) rfl rfl rfl (fun H locs S_4 eS_4 hG => ?_)
  replace hM := nx_at hM eS_4
  clear eS_4
  refine lv_aload_n hx hb dX1_begin_20 rfl (lv_at hl 0 rfl) ?_
  refine lv_iconst (v := iI 1) hx hb dX1_begin_21 (by decide) ?_
  refine lv_iload_n hx hb dX1_begin_22 rfl (lv_at hl 3 rfl) ?_
  obtain ⟨hg_5, hM⟩ := gd_some hM
  refine gi_i2l hx hb dX1_begin_23 hg_5 ?_
  obtain ⟨r_7, hc_6, hM⟩ := bd1_some hM
  refine g_si (As := [.long (jJ a3)]) (rest := [.int (iI 1), .ref (b + 77)]) S hG hsz (vX1_bitsFor l hn a3 hc_6) wS_1_34 dX1_begin_24 rfl hl.1 (ar := 1) (by decide +kernel) rfl ⟨Nat.le_of_ble_eq_true rfl, Nat.le_of_ble_eq_true rfl, Nat.le_of_ble_eq_true rfl, Nat.le_of_ble_eq_true rfl⟩ (Nat.le_of_ble_eq_true rfl) (fun rv uu H locs hp hG => ?_)
  obtain ⟨rfl, rfl⟩ := hp
  replace hG : gW D cy b n s H locs (enc b cy X S_4) := hG
  refine gi_shl hx hb dX1_begin_27 ?_
  refine lv_iconst (v := iI 1) hx hb dX1_begin_28 (by decide) ?_
  refine gi_sub hx hb dX1_begin_29 ?_
  refine m_put S hG 77 80 5 rfl 5 ((shl 1 r_7) - 1) ec_80 cpX1 wm_648 dX1_begin_30 (pf_80_5) (Nat.lt_of_lt_of_le (Nat.le_of_ble_eq_true rfl) hn) (by decide) (Nat.le_of_ble_eq_true rfl) rfl rfl rfl (fun H locs S_8 eS_8 hG => ?_)
  replace hM := nx_at hM eS_8
  clear eS_8
  refine lv_aload_n hx hb dX1_begin_33 rfl (lv_at hl 0 rfl) ?_
  refine lv_iload hx hb dX1_begin_34 (lv_at hl 4 rfl) ?_
  refine lv_aload_n hx hb dX1_begin_36 rfl (lv_at hl 0 rfl) ?_
  refine m_get S hG 77 80 5 rfl ec_80 cpX1 wm_648 dX1_begin_37 rfl (Nat.lt_of_lt_of_le (Nat.le_of_ble_eq_true rfl) hn) (by decide) ?_
  refine gi_and hx hb dX1_begin_40 ?_
  refine m_put S hG 77 80 6 rfl 6 (an a4 (S_8 80 5)) ec_80 cpX1 wm_649 dX1_begin_41 (pf_80_6) (Nat.lt_of_lt_of_le (Nat.le_of_ble_eq_true rfl) hn) (by decide) (Nat.le_of_ble_eq_true rfl) rfl rfl rfl (fun H locs S_9 eS_9 hG => ?_)
  replace hM := nx_at hM eS_9
  clear eS_9
  cases hM
  exact g_vret S hr hlk hG hsz dX1_begin_44 ⟨Nat.le_of_ble_eq_true rfl, Nat.le_of_ble_eq_true rfl⟩ rfl
def mX11_deal (S0 : St) (a1 : Int) (a2 : Int) (a3 : Int) (a4 : Int) : Option (Int × St) := bd1 (mX11_boxy S0 a1 a2 a3) fun r_2 => gd (inI r_2) <| if r_2 = 0 then (some ((-2), S0)) else (gd (inI a4) <| if a4 < 0 then (some ((-2), S0)) else (if a4 ≤ 2000000000 then (bd1 (mX0_between_40 S0 a1 a2 a3) fun r_9 => gd (inL r_9) <| if r_9 ≤ 1000 then (bd1 (mX1_begin S0 a1 a2 r_9 a4) fun S_13 => some (r_9, S_13)) else (some ((-3), S0))) else (some ((-2), S0))))
set_option maxHeartbeats 4000000 in
set_option maxRecDepth 100000 in
theorem vX11_deal (l : Launch) {D : va_G} {cy : Nat → ClassId} {b n : Nat} (hn : 102 ≤ n) {X : Nat → va_E} {S0 : St} (a1 : Int) (a2 : Int) (a3 : Int) (a4 : Int) {o1 : Int} {o2 : St} (hM : mX11_deal S0 a1 a2 a3 a4 = some (o1, o2)) : gI l yX11_deal cX11_deal 7 (some .int) 3 0 0 D cy b n (enc b cy X S0) [.ref (b + 0), .int (iI a1), .int (iI a2), .int (iI a3), .int (iI a4)] (fun r u => r = iI o1 ∧ u = (n, enc b cy X o2)) := by
  refine gI_of (by decide) (Nat.le_of_ble_eq_true rfl) ?_
  intro p e s m args below meth c S hr hlk hin hsz ls hl hG
  have hx := S.1
  have hb := S.2.1
  have hl : lv_has ls 7 [(0, .ref (b + 0)), (1, .int (iI a1)), (2, .int (iI a2)), (3, .int (iI a3)), (4, .int (iI a4))] := hl
  replace hG : gW D cy b n s s.heap [] (enc b cy X S0) := hG
  obtain ⟨H, eH⟩ : ∃ H, H = s.heap := ⟨_, rfl⟩
  obtain ⟨locs, elocs⟩ : ∃ locs : List Loc, locs = [] := ⟨_, rfl⟩
  rw [← eH, ← elocs] at hG
  rw [← eH, ← elocs]
  clear eH elocs
  unfold mX11_deal at hM
  refine lv_aload_n hx hb dX11_deal_0 rfl (lv_at hl 0 rfl) ?_
  refine lv_iload_n hx hb dX11_deal_1 rfl (lv_at hl 1 rfl) ?_
  refine lv_iload_n hx hb dX11_deal_2 rfl (lv_at hl 2 rfl) ?_
  refine lv_iload_n hx hb dX11_deal_3 rfl (lv_at hl 3 rfl) ?_
  obtain ⟨r_2, hc_1, hM⟩ := bd1_some hM
  refine g_vi (As := [.int (iI a1), .int (iI a2), .int (iI a3)]) (rest := []) S hG hsz (vX11_boxy l hn a1 a2 a3 hc_1) wV_11_332 (ec_0 _) cpX11 (Nat.lt_of_lt_of_le (Nat.le_of_ble_eq_true rfl) hn) dX11_deal_4 rfl hl.1 (ar := 3) (by decide +kernel) rfl ⟨Nat.le_of_ble_eq_true rfl, Nat.le_of_ble_eq_true rfl, Nat.le_of_ble_eq_true rfl, Nat.le_of_ble_eq_true rfl⟩ (Nat.le_of_ble_eq_true rfl) (fun rv uu H locs hp hG => ?_)
  obtain ⟨rfl, rfl⟩ := hp
  replace hG : gW D cy b n s H locs (enc b cy X S0) := hG
  obtain ⟨hg_3, hM⟩ := gd_some hM
  refine gi_if_eq (tgt := 23) hx hb dX11_deal_7 (by decide) hg_3 (fun c_4 => ?_) (fun c_4 => ?_)
  · replace hM := ifp hM c_4
    refine lv_bipush (v := iI (-2)) hx hb dX11_deal_23 (by decide) ?_
    cases hM
    exact g_iret S hr hlk hG hsz dX11_deal_25 ⟨Nat.le_of_ble_eq_true rfl, Nat.le_of_ble_eq_true rfl⟩ ⟨rfl, rfl⟩
  · replace hM := ifn hM c_4
    refine lv_iload hx hb dX11_deal_10 (lv_at hl 4 rfl) ?_
    obtain ⟨hg_5, hM⟩ := gd_some hM
    refine gi_if_lt (tgt := 23) hx hb dX11_deal_12 (by decide) hg_5 (fun c_6 => ?_) (fun c_6 => ?_)
    · replace hM := ifp hM c_6
      refine lv_bipush (v := iI (-2)) hx hb dX11_deal_23 (by decide) ?_
      cases hM
      exact g_iret S hr hlk hG hsz dX11_deal_25 ⟨Nat.le_of_ble_eq_true rfl, Nat.le_of_ble_eq_true rfl⟩ ⟨rfl, rfl⟩
    · replace hM := ifn hM c_6
      refine lv_iload hx hb dX11_deal_15 (lv_at hl 4 rfl) ?_
      refine lv_ldcw (v := 2000000000) hx hb S.2.2.2.1 (S.2.2.2.2 _ wm_1616) dX11_deal_17 ?_
      refine gi_as 2000000000 (by decide) ?_
      refine gi_icmp_le (tgt := 26) hx hb dX11_deal_20 (by decide) hg_5 (by decide) (fun c_7 => ?_) (fun c_7 => ?_)
      · replace hM := ifp hM c_7
        refine lv_aload_n hx hb dX11_deal_26 rfl (lv_at hl 0 rfl) ?_
        refine m_get S hG 0 0 7 rfl ec_0 cpX11 wm_672 dX11_deal_27 rfl (Nat.lt_of_lt_of_le (Nat.le_of_ble_eq_true rfl) hn) (by decide) ?_
        refine lv_iload_n hx hb dX11_deal_30 rfl (lv_at hl 1 rfl) ?_
        refine lv_iload_n hx hb dX11_deal_31 rfl (lv_at hl 2 rfl) ?_
        refine lv_iload_n hx hb dX11_deal_32 rfl (lv_at hl 3 rfl) ?_
        obtain ⟨r_9, hc_8, hM⟩ := bd1_some hM
        refine g_vl (As := [.int (iI a1), .int (iI a2), .int (iI a3)]) (rest := []) S hG hsz (vX0_between_40 l hn a1 a2 a3 hc_8) wV_11_336 (ec_40 _) cpX0 (Nat.lt_of_lt_of_le (Nat.le_of_ble_eq_true rfl) hn) dX11_deal_33 rfl hl.1 (ar := 3) (by decide +kernel) rfl ⟨Nat.le_of_ble_eq_true rfl, Nat.le_of_ble_eq_true rfl, Nat.le_of_ble_eq_true rfl, Nat.le_of_ble_eq_true rfl⟩ (Nat.le_of_ble_eq_true rfl) (fun rv uu H locs hp hG => ?_)
        obtain ⟨rfl, rfl⟩ := hp
        replace hG : gW D cy b n s H locs (enc b cy X S0) := hG
        refine lv_lstore (lv' := [(5, .long (jJ r_9)), (0, .ref (b + 0)), (1, .int (iI a1)), (2, .int (iI a2)), (3, .int (iI a3)), (4, .int (iI a4))]) hx hb dX11_deal_36 hl (by decide) rfl (fun ls hl => ?_)
        refine lv_lload hx hb dX11_deal_38 (lv_at hl 0 rfl) ?_
        refine lv_ldc2 (v := 1000) hx hb S.2.2.2.1 (S.2.2.2.2 _ wm_1617) dX11_deal_40 ?_
        refine gj_as 1000 (by decide) ?_
        obtain ⟨hg_10, hM⟩ := gd_some hM
        refine gj_cmp_le (tgt := 50) hx hb dX11_deal_43 dX11_deal_44 (by decide) hg_10 (by decide) (fun c_11 => ?_) (fun c_11 => ?_)
        · replace hM := ifp hM c_11
          refine lv_aload_n hx hb dX11_deal_50 rfl (lv_at hl 1 rfl) ?_
          refine m_get S hG 0 0 12 rfl ec_0 cpX11 wm_677 dX11_deal_51 rfl (Nat.lt_of_lt_of_le (Nat.le_of_ble_eq_true rfl) hn) (by decide) ?_
          refine lv_iload_n hx hb dX11_deal_54 rfl (lv_at hl 2 rfl) ?_
          refine lv_iload_n hx hb dX11_deal_55 rfl (lv_at hl 3 rfl) ?_
          refine lv_lload hx hb dX11_deal_56 (lv_at hl 0 rfl) ?_
          refine gj_l2i hx hb dX11_deal_58 ?_
          refine lv_iload hx hb dX11_deal_59 (lv_at hl 5 rfl) ?_
          obtain ⟨S_13, hc_12, hM⟩ := bd1_some hM
          refine g_vv (As := [.int (iI a1), .int (iI a2), .int (iI r_9), .int (iI a4)]) (rest := []) S hG hsz (vX1_begin l hn a1 a2 r_9 a4 hc_12) wV_11_358 (ec_80 _) cpX1 (Nat.lt_of_lt_of_le (Nat.le_of_ble_eq_true rfl) hn) dX11_deal_61 rfl hl.1 (ar := 4) (by decide +kernel) rfl ⟨Nat.le_of_ble_eq_true rfl, Nat.le_of_ble_eq_true rfl, Nat.le_of_ble_eq_true rfl, Nat.le_of_ble_eq_true rfl⟩ (Nat.le_of_ble_eq_true rfl) (fun uu H locs hp hG => ?_)
          obtain rfl := hp
          replace hG : gW D cy b n s H locs (enc b cy X S_13) := hG
          refine lv_lload hx hb dX11_deal_64 (lv_at hl 0 rfl) ?_
          refine gj_l2i hx hb dX11_deal_66 ?_
          cases hM
          exact g_iret S hr hlk hG hsz dX11_deal_67 ⟨Nat.le_of_ble_eq_true rfl, Nat.le_of_ble_eq_true rfl⟩ ⟨rfl, rfl⟩
        · replace hM := ifn hM c_11
          refine lv_bipush (v := iI (-3)) hx hb dX11_deal_47 (by decide) ?_
          cases hM
          exact g_iret S hr hlk hG hsz dX11_deal_49 ⟨Nat.le_of_ble_eq_true rfl, Nat.le_of_ble_eq_true rfl⟩ ⟨rfl, rfl⟩
      · replace hM := ifn hM c_7
        refine lv_bipush (v := iI (-2)) hx hb dX11_deal_23 (by decide) ?_
        cases hM
        exact g_iret S hr hlk hG hsz dX11_deal_25 ⟨Nat.le_of_ble_eq_true rfl, Nat.le_of_ble_eq_true rfl⟩ ⟨rfl, rfl⟩
theorem wV_11_360 : gWV "GrownKinds" 360 yX1_next cX1_next 2 (some .int) := ⟨wm_1626, wm_1627, wm_1628, wm_187, wm_1629, by decide +kernel, by decide +kernel⟩
theorem wV_1_38 : gWV "GrownKinds$Dealer" 38 yX1_advance cX1_advance 1 none := ⟨wm_1630, wm_1632, wm_85, wm_187, wm_1633, by decide +kernel, by decide +kernel⟩
def mX1_advance (S0 : St)  : Option (St) := nx (up S0 80 6 (an ((5 * (S0 80 6)) + 3) (S0 80 5))) fun S_1 => some (S_1)
set_option maxHeartbeats 4000000 in
set_option maxRecDepth 100000 in
theorem vX1_advance (l : Launch) {D : va_G} {cy : Nat → ClassId} {b n : Nat} (hn : 102 ≤ n) {X : Nat → va_E} {S0 : St}  {o1 : St} (hM : mX1_advance S0  = some o1) : gV l yX1_advance cX1_advance 1 0 0 0 D cy b n (enc b cy X S0) [.ref (b + 77)] (fun u => u = (n, enc b cy X o1)) := by
  refine gV_of (by decide) (Nat.le_of_ble_eq_true rfl) ?_
  intro p e s m args below meth c S hr hlk hin hsz ls hl hG
  have hx := S.1
  have hb := S.2.1
  have hl : lv_has ls 1 [(0, .ref (b + 77))] := hl
  replace hG : gW D cy b n s s.heap [] (enc b cy X S0) := hG
  obtain ⟨H, eH⟩ : ∃ H, H = s.heap := ⟨_, rfl⟩
  obtain ⟨locs, elocs⟩ : ∃ locs : List Loc, locs = [] := ⟨_, rfl⟩
  rw [← eH, ← elocs] at hG
  rw [← eH, ← elocs]
  clear eH elocs
  unfold mX1_advance at hM
  refine lv_aload_n hx hb dX1_advance_0 rfl (lv_at hl 0 rfl) ?_
  refine lv_iconst (v := iI 5) hx hb dX1_advance_1 (by decide) ?_
  refine lv_aload_n hx hb dX1_advance_2 rfl (lv_at hl 0 rfl) ?_
  refine m_get S hG 77 80 6 rfl ec_80 cpX1 wm_649 dX1_advance_3 rfl (Nat.lt_of_lt_of_le (Nat.le_of_ble_eq_true rfl) hn) (by decide) ?_
  refine gi_mul hx hb dX1_advance_6 ?_
  refine lv_iconst (v := iI 3) hx hb dX1_advance_7 (by decide) ?_
  refine gi_add hx hb dX1_advance_8 ?_
  refine lv_aload_n hx hb dX1_advance_9 rfl (lv_at hl 0 rfl) ?_
  refine m_get S hG 77 80 5 rfl ec_80 cpX1 wm_648 dX1_advance_10 rfl (Nat.lt_of_lt_of_le (Nat.le_of_ble_eq_true rfl) hn) (by decide) ?_
  refine gi_and hx hb dX1_advance_13 ?_
  refine m_put S hG 77 80 6 rfl 6 (an ((5 * (S0 80 6)) + 3) (S0 80 5)) ec_80 cpX1 wm_649 dX1_advance_14 (pf_80_6) (Nat.lt_of_lt_of_le (Nat.le_of_ble_eq_true rfl) hn) (by decide) (Nat.le_of_ble_eq_true rfl) rfl rfl rfl (fun H locs S_1 eS_1 hG => ?_)
  replace hM := nx_at hM eS_1
  clear eS_1
  cases hM
  exact g_vret S hr hlk hG hsz dX1_advance_17 ⟨Nat.le_of_ble_eq_true rfl, Nat.le_of_ble_eq_true rfl⟩ rfl
theorem wV_1_41 : gWV "GrownKinds$Dealer" 41 yX0_sizeAt cX0_sizeAt 7 (some .int) := ⟨wm_1634, wm_1603, wm_1604, wm_181, wm_1605, by decide +kernel, by decide +kernel⟩
theorem wV_1_47 : gWV "GrownKinds$Dealer" 47 yX0_rankAt cX0_rankAt 5 (some .int) := ⟨wm_1635, wm_1607, wm_1608, wm_181, wm_1609, by decide +kernel, by decide +kernel⟩
def mX1_next_11  : Nat → Int → St → Option (St)
  | 0, _, _ => none
  | f + 1, v_3, S_4 => gd ((inI v_3) ∧ (inI (S_4 80 5))) <| if (S_4 80 5) ≤ v_3 then (some (S_4)) else (gd ((inI (S_4 80 6)) ∧ (inI (S_4 80 4))) <| if (S_4 80 6) < (S_4 80 4) then (some (S_4)) else (bd1 (mX1_advance S_4) fun S_24 => mX1_next_11 f (v_3 + 1) S_24))
def mX1_next (S0 : St)  : Option (Int × St) := gd (inI (S0 80 1)) <| if (S0 80 1) = 0 then (some ((-1), S0)) else (bd1 (mX1_next_11 FU 0 S0) fun S_5 => nx (S_5 80 6) fun x_8 => bd1 (mX1_advance S_5) fun S_10 => nx (up S_10 80 1 ((S_10 80 1) - 1)) fun S_11 => bd1 (mX0_sizeAt_40 S_11 (S_11 80 2) (S_11 80 3) x_8) fun r_13 => bd1 (mX0_rankAt_40 S_11 (S_11 80 2) (S_11 80 3) x_8) fun r_15 => some (((10000 * r_13) + r_15), S_11))
set_option maxHeartbeats 4000000 in
set_option maxRecDepth 100000 in
theorem vX1_next (l : Launch) {D : va_G} {cy : Nat → ClassId} {b n : Nat} (hn : 102 ≤ n) {X : Nat → va_E} {S0 : St}  {o1 : Int} {o2 : St} (hM : mX1_next S0  = some (o1, o2)) : gI l yX1_next cX1_next 2 (some .int) 4 0 0 D cy b n (enc b cy X S0) [.ref (b + 77)] (fun r u => r = iI o1 ∧ u = (n, enc b cy X o2)) := by
  refine gI_of (by decide) (Nat.le_of_ble_eq_true rfl) ?_
  intro p e s m args below meth c S hr hlk hin hsz ls hl hG
  have hx := S.1
  have hb := S.2.1
  have hl : lv_has ls 2 [(0, .ref (b + 77))] := hl
  replace hG : gW D cy b n s s.heap [] (enc b cy X S0) := hG
  obtain ⟨H, eH⟩ : ∃ H, H = s.heap := ⟨_, rfl⟩
  obtain ⟨locs, elocs⟩ : ∃ locs : List Loc, locs = [] := ⟨_, rfl⟩
  rw [← eH, ← elocs] at hG
  rw [← eH, ← elocs]
  clear eH elocs
  unfold mX1_next at hM
  refine lv_aload_n hx hb dX1_next_0 rfl (lv_at hl 0 rfl) ?_
  refine m_get S hG 77 80 1 rfl ec_80 cpX1 wm_643 dX1_next_1 rfl (Nat.lt_of_lt_of_le (Nat.le_of_ble_eq_true rfl) hn) (by decide) ?_
  obtain ⟨hg_1, hM⟩ := gd_some hM
  refine gi_if_ne (tgt := 9) hx hb dX1_next_4 (by decide) hg_1 (fun c_2 => ?_) (fun c_2 => ?_)
  · replace hM := ifn hM c_2
    refine lv_iconst (v := iI 0) hx hb dX1_next_9 (by decide) ?_
    refine lv_istore_n (lv' := [(1, .int (iI 0)), (0, .ref (b + 77))]) hx hb dX1_next_10 rfl hl (by decide) rfl (fun ls hl => ?_)
    obtain ⟨S_5, hc_6, hM⟩ := bd1_some hM
    have hK_7 : ∀ (H : Heap) (locs : List Loc) (ls : Array Slot), gW D cy b n s H locs (enc b cy X S_5) → lv_has ls 2 [(0, .ref (b + 77))] → W p l e (gRm 4 0 0) s m args below meth c H locs 0 0 (gQI D cy b s args below 0 0 (fun r u => r = iI o1 ∧ u = (n, enc b cy X o2))) (F0 m 40 ls []) := by
      intro H locs ls hG hl
      refine lv_aload_n hx hb dX1_next_40 rfl (lv_at hl 0 rfl) ?_
      refine m_get S hG 77 80 6 rfl ec_80 cpX1 wm_649 dX1_next_41 rfl (Nat.lt_of_lt_of_le (Nat.le_of_ble_eq_true rfl) hn) (by decide) ?_
      refine gi_nm (fun x_8 ex_8 => ?_)
      replace hM := nx_at hM ex_8
      clear ex_8
      refine lv_istore_n (lv' := [(1, .int (iI x_8)), (0, .ref (b + 77))]) hx hb dX1_next_44 rfl hl (by decide) rfl (fun ls hl => ?_)
      refine lv_aload_n hx hb dX1_next_45 rfl (lv_at hl 1 rfl) ?_
      obtain ⟨S_10, hc_9, hM⟩ := bd1_some hM
      refine g_vv (As := []) (rest := []) S hG hsz (vX1_advance l hn  hc_9) wV_1_38 (ec_80 _) cpX1 (Nat.lt_of_lt_of_le (Nat.le_of_ble_eq_true rfl) hn) dX1_next_46 rfl hl.1 (ar := 0) (by decide +kernel) rfl ⟨Nat.le_of_ble_eq_true rfl, Nat.le_of_ble_eq_true rfl, Nat.le_of_ble_eq_true rfl, Nat.le_of_ble_eq_true rfl⟩ (Nat.le_of_ble_eq_true rfl) (fun uu H locs hp hG => ?_)
      obtain rfl := hp
      replace hG : gW D cy b n s H locs (enc b cy X S_10) := hG
      refine lv_aload_n hx hb dX1_next_49 rfl (lv_at hl 1 rfl) ?_
      refine lv_dup hx hb dX1_next_50 rfl ?_
      refine m_get S hG 77 80 1 rfl ec_80 cpX1 wm_643 dX1_next_51 rfl (Nat.lt_of_lt_of_le (Nat.le_of_ble_eq_true rfl) hn) (by decide) ?_
      refine lv_iconst (v := iI 1) hx hb dX1_next_54 (by decide) ?_
      refine gi_sub hx hb dX1_next_55 ?_
      refine m_put S hG 77 80 1 rfl 1 ((S_10 80 1) - 1) ec_80 cpX1 wm_643 dX1_next_56 (pf_80_1) (Nat.lt_of_lt_of_le (Nat.le_of_ble_eq_true rfl) hn) (by decide) (Nat.le_of_ble_eq_true rfl) rfl rfl rfl (fun H locs S_11 eS_11 hG => ?_)
      replace hM := nx_at hM eS_11
      clear eS_11
      refine lv_sipush (v := iI 10000) hx hb dX1_next_59 (by decide) ?_
      refine lv_aload_n hx hb dX1_next_62 rfl (lv_at hl 1 rfl) ?_
      refine m_get S hG 77 80 0 rfl ec_80 cpX1 wm_642 dX1_next_63 rfl (Nat.lt_of_lt_of_le (Nat.le_of_ble_eq_true rfl) hn) (by decide) ?_
      refine lv_aload_n hx hb dX1_next_66 rfl (lv_at hl 1 rfl) ?_
      refine m_get S hG 77 80 2 rfl ec_80 cpX1 wm_645 dX1_next_67 rfl (Nat.lt_of_lt_of_le (Nat.le_of_ble_eq_true rfl) hn) (by decide) ?_
      refine lv_aload_n hx hb dX1_next_70 rfl (lv_at hl 1 rfl) ?_
      refine m_get S hG 77 80 3 rfl ec_80 cpX1 wm_646 dX1_next_71 rfl (Nat.lt_of_lt_of_le (Nat.le_of_ble_eq_true rfl) hn) (by decide) ?_
      refine lv_iload_n hx hb dX1_next_74 rfl (lv_at hl 0 rfl) ?_
      obtain ⟨r_13, hc_12, hM⟩ := bd1_some hM
      refine g_vi (As := [.int (iI (S_11 80 2)), .int (iI (S_11 80 3)), .int (iI x_8)]) (rest := [.int (iI 10000)]) S hG hsz (vX0_sizeAt_40 l hn (S_11 80 2) (S_11 80 3) x_8 hc_12) wV_1_41 (ec_40 _) cpX0 (Nat.lt_of_lt_of_le (Nat.le_of_ble_eq_true rfl) hn) dX1_next_75 rfl hl.1 (ar := 3) (by decide +kernel) rfl ⟨Nat.le_of_ble_eq_true rfl, Nat.le_of_ble_eq_true rfl, Nat.le_of_ble_eq_true rfl, Nat.le_of_ble_eq_true rfl⟩ (Nat.le_of_ble_eq_true rfl) (fun rv uu H locs hp hG => ?_)
      obtain ⟨rfl, rfl⟩ := hp
      replace hG : gW D cy b n s H locs (enc b cy X S_11) := hG
      refine gi_mul hx hb dX1_next_78 ?_
      refine lv_aload_n hx hb dX1_next_79 rfl (lv_at hl 1 rfl) ?_
      refine m_get S hG 77 80 0 rfl ec_80 cpX1 wm_642 dX1_next_80 rfl (Nat.lt_of_lt_of_le (Nat.le_of_ble_eq_true rfl) hn) (by decide) ?_
      refine lv_aload_n hx hb dX1_next_83 rfl (lv_at hl 1 rfl) ?_
      refine m_get S hG 77 80 2 rfl ec_80 cpX1 wm_645 dX1_next_84 rfl (Nat.lt_of_lt_of_le (Nat.le_of_ble_eq_true rfl) hn) (by decide) ?_
      refine lv_aload_n hx hb dX1_next_87 rfl (lv_at hl 1 rfl) ?_
      refine m_get S hG 77 80 3 rfl ec_80 cpX1 wm_646 dX1_next_88 rfl (Nat.lt_of_lt_of_le (Nat.le_of_ble_eq_true rfl) hn) (by decide) ?_
      refine lv_iload_n hx hb dX1_next_91 rfl (lv_at hl 0 rfl) ?_
      obtain ⟨r_15, hc_14, hM⟩ := bd1_some hM
      refine g_vi (As := [.int (iI (S_11 80 2)), .int (iI (S_11 80 3)), .int (iI x_8)]) (rest := [.int (iI (10000 * r_13))]) S hG hsz (vX0_rankAt_40 l hn (S_11 80 2) (S_11 80 3) x_8 hc_14) wV_1_47 (ec_40 _) cpX0 (Nat.lt_of_lt_of_le (Nat.le_of_ble_eq_true rfl) hn) dX1_next_92 rfl hl.1 (ar := 3) (by decide +kernel) rfl ⟨Nat.le_of_ble_eq_true rfl, Nat.le_of_ble_eq_true rfl, Nat.le_of_ble_eq_true rfl, Nat.le_of_ble_eq_true rfl⟩ (Nat.le_of_ble_eq_true rfl) (fun rv uu H locs hp hG => ?_)
      obtain ⟨rfl, rfl⟩ := hp
      replace hG : gW D cy b n s H locs (enc b cy X S_11) := hG
      refine gi_add hx hb dX1_next_95 ?_
      cases hM
      exact g_iret S hr hlk hG hsz dX1_next_96 ⟨Nat.le_of_ble_eq_true rfl, Nat.le_of_ble_eq_true rfl⟩ ⟨rfl, rfl⟩
    have loop_16 : ∀ (f : Nat) (v_3 : Int) (S_4 : St) (H : Heap) (locs : List Loc) (ls : Array Slot), mX1_next_11 f v_3 S_4 = some S_5 → gW D cy b n s H locs (enc b cy X S_4) → lv_has ls 2 [(1, .int (iI v_3)), (0, .ref (b + 77))] → W p l e (gRm 4 0 0) s m args below meth c H locs 0 0 (gQI D cy b s args below 0 0 (fun r u => r = iI o1 ∧ u = (n, enc b cy X o2))) (F0 m 11 ls []) := by
      clear hM
      intro f
      induction f with
      | zero => intro v_3 S_4 H locs ls hM; rw [mX1_next_11] at hM; cases hM
      | succ f_18 ih_17 =>
        intro v_3 S_4 H locs ls hM hG hl
        rw [mX1_next_11] at hM
        refine lv_iload_n hx hb dX1_next_11 rfl (lv_at hl 0 rfl) ?_
        refine lv_aload_n hx hb dX1_next_12 rfl (lv_at hl 1 rfl) ?_
        refine m_get S hG 77 80 5 rfl ec_80 cpX1 wm_648 dX1_next_13 rfl (Nat.lt_of_lt_of_le (Nat.le_of_ble_eq_true rfl) hn) (by decide) ?_
        obtain ⟨hg_19, hM⟩ := gd_some hM
        refine gi_icmp_ge (tgt := 40) hx hb dX1_next_16 (by decide) hg_19.1 hg_19.2 (fun c_20 => ?_) (fun c_20 => ?_)
        · replace hM := ifp hM c_20
          cases hM
          exact hK_7 H locs ls hG (lv_sub hl [1] rfl)
        · replace hM := ifn hM c_20
          refine lv_aload_n hx hb dX1_next_19 rfl (lv_at hl 1 rfl) ?_
          refine m_get S hG 77 80 6 rfl ec_80 cpX1 wm_649 dX1_next_20 rfl (Nat.lt_of_lt_of_le (Nat.le_of_ble_eq_true rfl) hn) (by decide) ?_
          refine lv_aload_n hx hb dX1_next_23 rfl (lv_at hl 1 rfl) ?_
          refine m_get S hG 77 80 4 rfl ec_80 cpX1 wm_647 dX1_next_24 rfl (Nat.lt_of_lt_of_le (Nat.le_of_ble_eq_true rfl) hn) (by decide) ?_
          obtain ⟨hg_21, hM⟩ := gd_some hM
          refine gi_icmp_lt (tgt := 40) hx hb dX1_next_27 (by decide) hg_21.1 hg_21.2 (fun c_22 => ?_) (fun c_22 => ?_)
          · replace hM := ifp hM c_22
            cases hM
            exact hK_7 H locs ls hG (lv_sub hl [1] rfl)
          · replace hM := ifn hM c_22
            refine lv_aload_n hx hb dX1_next_30 rfl (lv_at hl 1 rfl) ?_
            obtain ⟨S_24, hc_23, hM⟩ := bd1_some hM
            refine g_vv (As := []) (rest := []) S hG hsz (vX1_advance l hn  hc_23) wV_1_38 (ec_80 _) cpX1 (Nat.lt_of_lt_of_le (Nat.le_of_ble_eq_true rfl) hn) dX1_next_31 rfl hl.1 (ar := 0) (by decide +kernel) rfl ⟨Nat.le_of_ble_eq_true rfl, Nat.le_of_ble_eq_true rfl, Nat.le_of_ble_eq_true rfl, Nat.le_of_ble_eq_true rfl⟩ (Nat.le_of_ble_eq_true rfl) (fun uu H locs hp hG => ?_)
            obtain rfl := hp
            replace hG : gW D cy b n s H locs (enc b cy X S_24) := hG
            refine lv_iinc (v := iI (v_3 + 1)) (lv' := [(1, .int (iI (v_3 + 1))), (0, .ref (b + 77))]) hx hb dX1_next_34 hl (k := 0) rfl ((iI_add v_3 (1)).trans (congrArg iI (by omega))) (by decide) rfl (fun ls hl => ?_)
            refine lv_goto (tgt := 11) hx hb dX1_next_37 (by decide) ?_
            exact ih_17 (v_3 + 1) S_24 H locs ls hM hG (lv_sub hl [0, 1] rfl)
    exact loop_16 FU 0 S0 H locs ls hc_6 hG (lv_sub hl [0, 1] rfl)
  · replace hM := ifp hM c_2
    refine lv_iconst (v := iI (-1)) hx hb dX1_next_7 (by decide) ?_
    cases hM
    exact g_iret S hr hlk hG hsz dX1_next_8 ⟨Nat.le_of_ble_eq_true rfl, Nat.le_of_ble_eq_true rfl⟩ ⟨rfl, rfl⟩
def mX11_dealt (S0 : St)  : Option (Int × St) := bd2 (mX1_next S0) fun r_2 S_3 => some (r_2, S_3)
set_option maxHeartbeats 4000000 in
set_option maxRecDepth 100000 in
theorem vX11_dealt (l : Launch) {D : va_G} {cy : Nat → ClassId} {b n : Nat} (hn : 102 ≤ n) {X : Nat → va_E} {S0 : St}  {o1 : Int} {o2 : St} (hM : mX11_dealt S0  = some (o1, o2)) : gI l yX11_dealt cX11_dealt 1 (some .int) 5 0 0 D cy b n (enc b cy X S0) [.ref (b + 0)] (fun r u => r = iI o1 ∧ u = (n, enc b cy X o2)) := by
  refine gI_of (by decide) (Nat.le_of_ble_eq_true rfl) ?_
  intro p e s m args below meth c S hr hlk hin hsz ls hl hG
  have hx := S.1
  have hb := S.2.1
  have hl : lv_has ls 1 [(0, .ref (b + 0))] := hl
  replace hG : gW D cy b n s s.heap [] (enc b cy X S0) := hG
  obtain ⟨H, eH⟩ : ∃ H, H = s.heap := ⟨_, rfl⟩
  obtain ⟨locs, elocs⟩ : ∃ locs : List Loc, locs = [] := ⟨_, rfl⟩
  rw [← eH, ← elocs] at hG
  rw [← eH, ← elocs]
  clear eH elocs
  unfold mX11_dealt at hM
  refine lv_aload_n hx hb dX11_dealt_0 rfl (lv_at hl 0 rfl) ?_
  refine m_get S hG 0 0 12 rfl ec_0 cpX11 wm_677 dX11_dealt_1 rfl (Nat.lt_of_lt_of_le (Nat.le_of_ble_eq_true rfl) hn) (by decide) ?_
  obtain ⟨r_2, S_3, hc_1, hM⟩ := bd2_some hM
  refine g_vi (As := []) (rest := []) S hG hsz (vX1_next l hn  hc_1) wV_11_360 (ec_80 _) cpX1 (Nat.lt_of_lt_of_le (Nat.le_of_ble_eq_true rfl) hn) dX11_dealt_4 rfl hl.1 (ar := 0) (by decide +kernel) rfl ⟨Nat.le_of_ble_eq_true rfl, Nat.le_of_ble_eq_true rfl, Nat.le_of_ble_eq_true rfl, Nat.le_of_ble_eq_true rfl⟩ (Nat.le_of_ble_eq_true rfl) (fun rv uu H locs hp hG => ?_)
  obtain ⟨rfl, rfl⟩ := hp
  replace hG : gW D cy b n s H locs (enc b cy X S_3) := hG
  cases hM
  exact g_iret S hr hlk hG hsz dX11_dealt_7 ⟨Nat.le_of_ble_eq_true rfl, Nat.le_of_ble_eq_true rfl⟩ ⟨rfl, rfl⟩
def mX11_left (S0 : St)  : Option (Int) := some ((S0 80 1))
set_option maxHeartbeats 4000000 in
set_option maxRecDepth 100000 in
theorem vX11_left (l : Launch) {D : va_G} {cy : Nat → ClassId} {b n : Nat} (hn : 102 ≤ n) {X : Nat → va_E} {S0 : St}  {o1 : Int} (hM : mX11_left S0  = some o1) : gI l yX11_left cX11_left 1 (some .int) 0 0 0 D cy b n (enc b cy X S0) [.ref (b + 0)] (fun r u => r = iI o1 ∧ u = (n, enc b cy X S0)) := by
  refine gI_of (by decide) (Nat.le_of_ble_eq_true rfl) ?_
  intro p e s m args below meth c S hr hlk hin hsz ls hl hG
  have hx := S.1
  have hb := S.2.1
  have hl : lv_has ls 1 [(0, .ref (b + 0))] := hl
  replace hG : gW D cy b n s s.heap [] (enc b cy X S0) := hG
  obtain ⟨H, eH⟩ : ∃ H, H = s.heap := ⟨_, rfl⟩
  obtain ⟨locs, elocs⟩ : ∃ locs : List Loc, locs = [] := ⟨_, rfl⟩
  rw [← eH, ← elocs] at hG
  rw [← eH, ← elocs]
  clear eH elocs
  unfold mX11_left at hM
  refine lv_aload_n hx hb dX11_left_0 rfl (lv_at hl 0 rfl) ?_
  refine m_get S hG 0 0 12 rfl ec_0 cpX11 wm_677 dX11_left_1 rfl (Nat.lt_of_lt_of_le (Nat.le_of_ble_eq_true rfl) hn) (by decide) ?_
  refine m_get S hG 77 80 1 rfl ec_80 cpX1 wm_644 dX11_left_4 rfl (Nat.lt_of_lt_of_le (Nat.le_of_ble_eq_true rfl) hn) (by decide) ?_
  cases hM
  exact g_iret S hr hlk hG hsz dX11_left_7 ⟨Nat.le_of_ble_eq_true rfl, Nat.le_of_ble_eq_true rfl⟩ ⟨rfl, rfl⟩
theorem wV_11_367 : gWV "GrownKinds" 367 yX2_flip cX2_flip 3 none := ⟨wm_1644, wm_1239, wm_1240, wm_178, wm_1241, by decide +kernel, by decide +kernel⟩
def mX2_flip_2 (S0 : St) (a1 : Int) (a2 : Int) : Option (St) := gd (0 ≤ a1 ∧ a1 < 30) <| nx (up S0 10 a1 (xo (S0 10 a1) (shl 1 a2))) fun S_2 => some (S_2)
set_option maxHeartbeats 4000000 in
set_option maxRecDepth 100000 in
theorem vX2_flip_2 (l : Launch) {D : va_G} {cy : Nat → ClassId} {b n : Nat} (hn : 102 ≤ n) {X : Nat → va_E} {S0 : St} (a1 : Int) (a2 : Int) {o1 : St} (hM : mX2_flip_2 S0 a1 a2 = some o1) : gV l yX2_flip cX2_flip 3 0 0 0 D cy b n (enc b cy X S0) [.ref (b + 2), .int (iI a1), .int (iI a2)] (fun u => u = (n, enc b cy X o1)) := by
  refine gV_of (by decide) (Nat.le_of_ble_eq_true rfl) ?_
  intro p e s m args below meth c S hr hlk hin hsz ls hl hG
  have hx := S.1
  have hb := S.2.1
  have hl : lv_has ls 3 [(0, .ref (b + 2)), (1, .int (iI a1)), (2, .int (iI a2))] := hl
  replace hG : gW D cy b n s s.heap [] (enc b cy X S0) := hG
  obtain ⟨H, eH⟩ : ∃ H, H = s.heap := ⟨_, rfl⟩
  obtain ⟨locs, elocs⟩ : ∃ locs : List Loc, locs = [] := ⟨_, rfl⟩
  rw [← eH, ← elocs] at hG
  rw [← eH, ← elocs]
  clear eH elocs
  unfold mX2_flip_2 at hM
  refine lv_aload_n hx hb dX2_flip_0 rfl (lv_at hl 0 rfl) ?_
  refine m_get S hG 2 2 12 rfl ec_2 cpX2 wm_271 dX2_flip_1 rfl (Nat.lt_of_lt_of_le (Nat.le_of_ble_eq_true rfl) hn) (by decide) ?_
  refine lv_iload_n hx hb dX2_flip_4 rfl (lv_at hl 1 rfl) ?_
  refine lv_dup2_11 hx hb dX2_flip_5 rfl rfl ?_
  obtain ⟨hg_1, hM⟩ := gd_some hM
  refine mi_ald S hG 10 10 rfl ec_10 (Nat.lt_of_lt_of_le (Nat.le_of_ble_eq_true rfl) hn) dX2_flip_6 hg_1 (by decide) ?_
  refine lv_iconst (v := iI 1) hx hb dX2_flip_7 (by decide) ?_
  refine lv_iload_n hx hb dX2_flip_8 rfl (lv_at hl 2 rfl) ?_
  refine gi_shl hx hb dX2_flip_9 ?_
  refine gi_xor hx hb dX2_flip_10 ?_
  refine mi_ast S hG 10 10 rfl ec_10 (Nat.lt_of_lt_of_le (Nat.le_of_ble_eq_true rfl) hn) dX2_flip_11 hg_1 (by decide) (fun H locs S_2 eS_2 hG => ?_)
  replace hM := nx_at hM eS_2
  clear eS_2
  cases hM
  exact g_vret S hr hlk hG hsz dX2_flip_12 ⟨Nat.le_of_ble_eq_true rfl, Nat.le_of_ble_eq_true rfl⟩ rfl
theorem wS_11_370 : gWS "GrownKinds" 370 yJ6_bitCount_0f7a4 cJ6_bitCount_0f7a4 1 (some .int) := ⟨wm_1645, wm_1646, wm_197, wm_1647, by decide +kernel, by decide +kernel⟩
def mJ6_bitCount_0f7a4 (a1 : Int) : Option (Int) := nx (a1 - (an (ush a1 1) 1431655765)) fun x_1 => nx ((an x_1 858993459) + (an (ush x_1 2) 858993459)) fun x_2 => nx (an (x_2 + (ush x_2 4)) 252645135) fun x_3 => nx (x_3 + (ush x_3 8)) fun x_4 => nx (x_4 + (ush x_4 16)) fun x_5 => some ((an x_5 63))
set_option maxHeartbeats 4000000 in
set_option maxRecDepth 100000 in
theorem vJ6_bitCount_0f7a4 (l : Launch) {D : va_G} {cy : Nat → ClassId} {b n : Nat} (hn : 102 ≤ n) {X : Nat → va_E} {S0 : St} (a1 : Int) {o1 : Int} (hM : mJ6_bitCount_0f7a4 a1 = some o1) : gI l yJ6_bitCount_0f7a4 cJ6_bitCount_0f7a4 1 (some .int) 0 0 0 D cy b n (enc b cy X S0) [.int (iI a1)] (fun r u => r = iI o1 ∧ u = (n, enc b cy X S0)) := by
  refine gI_of (by decide) (Nat.le_of_ble_eq_true rfl) ?_
  intro p e s m args below meth c S hr hlk hin hsz ls hl hG
  have hx := S.1
  have hb := S.2.1
  have hl : lv_has ls 1 [(0, .int (iI a1))] := hl
  replace hG : gW D cy b n s s.heap [] (enc b cy X S0) := hG
  obtain ⟨H, eH⟩ : ∃ H, H = s.heap := ⟨_, rfl⟩
  obtain ⟨locs, elocs⟩ : ∃ locs : List Loc, locs = [] := ⟨_, rfl⟩
  rw [← eH, ← elocs] at hG
  rw [← eH, ← elocs]
  clear eH elocs
  unfold mJ6_bitCount_0f7a4 at hM
  refine lv_iload_n hx hb dJ6_bitCount_0f7a4_0 rfl (lv_at hl 0 rfl) ?_
  refine lv_iload_n hx hb dJ6_bitCount_0f7a4_1 rfl (lv_at hl 0 rfl) ?_
  refine lv_iconst (v := iI 1) hx hb dJ6_bitCount_0f7a4_2 (by decide) ?_
  refine gi_ushr hx hb dJ6_bitCount_0f7a4_3 ?_
  refine lv_ldcw (v := 1431655765) hx hb S.2.2.2.1 (S.2.2.2.2 _ wm_1648) dJ6_bitCount_0f7a4_4 ?_
  refine gi_as 1431655765 (by decide) ?_
  refine gi_and hx hb dJ6_bitCount_0f7a4_7 ?_
  refine gi_sub hx hb dJ6_bitCount_0f7a4_8 ?_
  refine gi_nm (fun x_1 ex_1 => ?_)
  replace hM := nx_at hM ex_1
  clear ex_1
  refine lv_istore_n (lv' := [(0, .int (iI x_1))]) hx hb dJ6_bitCount_0f7a4_9 rfl hl (by decide) rfl (fun ls hl => ?_)
  refine lv_iload_n hx hb dJ6_bitCount_0f7a4_10 rfl (lv_at hl 0 rfl) ?_
  refine lv_ldcw (v := 858993459) hx hb S.2.2.2.1 (S.2.2.2.2 _ wm_1649) dJ6_bitCount_0f7a4_11 ?_
  refine gi_as 858993459 (by decide) ?_
  refine gi_and hx hb dJ6_bitCount_0f7a4_14 ?_
  refine lv_iload_n hx hb dJ6_bitCount_0f7a4_15 rfl (lv_at hl 0 rfl) ?_
  refine lv_iconst (v := iI 2) hx hb dJ6_bitCount_0f7a4_16 (by decide) ?_
  refine gi_ushr hx hb dJ6_bitCount_0f7a4_17 ?_
  refine lv_ldcw (v := 858993459) hx hb S.2.2.2.1 (S.2.2.2.2 _ wm_1649) dJ6_bitCount_0f7a4_18 ?_
  refine gi_as 858993459 (by decide) ?_
  refine gi_and hx hb dJ6_bitCount_0f7a4_21 ?_
  refine gi_add hx hb dJ6_bitCount_0f7a4_22 ?_
  refine gi_nm (fun x_2 ex_2 => ?_)
  replace hM := nx_at hM ex_2
  clear ex_2
  refine lv_istore_n (lv' := [(0, .int (iI x_2))]) hx hb dJ6_bitCount_0f7a4_23 rfl hl (by decide) rfl (fun ls hl => ?_)
  refine lv_iload_n hx hb dJ6_bitCount_0f7a4_24 rfl (lv_at hl 0 rfl) ?_
  refine lv_iload_n hx hb dJ6_bitCount_0f7a4_25 rfl (lv_at hl 0 rfl) ?_
  refine lv_iconst (v := iI 4) hx hb dJ6_bitCount_0f7a4_26 (by decide) ?_
  refine gi_ushr hx hb dJ6_bitCount_0f7a4_27 ?_
  refine gi_add hx hb dJ6_bitCount_0f7a4_28 ?_
  refine lv_ldcw (v := 252645135) hx hb S.2.2.2.1 (S.2.2.2.2 _ wm_1650) dJ6_bitCount_0f7a4_29 ?_
  refine gi_as 252645135 (by decide) ?_
  refine gi_and hx hb dJ6_bitCount_0f7a4_32 ?_
  refine gi_nm (fun x_3 ex_3 => ?_)
  replace hM := nx_at hM ex_3
  clear ex_3
  refine lv_istore_n (lv' := [(0, .int (iI x_3))]) hx hb dJ6_bitCount_0f7a4_33 rfl hl (by decide) rfl (fun ls hl => ?_)
  refine lv_iload_n hx hb dJ6_bitCount_0f7a4_34 rfl (lv_at hl 0 rfl) ?_
  refine lv_iload_n hx hb dJ6_bitCount_0f7a4_35 rfl (lv_at hl 0 rfl) ?_
  refine lv_bipush (v := iI 8) hx hb dJ6_bitCount_0f7a4_36 (by decide) ?_
  refine gi_ushr hx hb dJ6_bitCount_0f7a4_38 ?_
  refine gi_add hx hb dJ6_bitCount_0f7a4_39 ?_
  refine gi_nm (fun x_4 ex_4 => ?_)
  replace hM := nx_at hM ex_4
  clear ex_4
  refine lv_istore_n (lv' := [(0, .int (iI x_4))]) hx hb dJ6_bitCount_0f7a4_40 rfl hl (by decide) rfl (fun ls hl => ?_)
  refine lv_iload_n hx hb dJ6_bitCount_0f7a4_41 rfl (lv_at hl 0 rfl) ?_
  refine lv_iload_n hx hb dJ6_bitCount_0f7a4_42 rfl (lv_at hl 0 rfl) ?_
  refine lv_bipush (v := iI 16) hx hb dJ6_bitCount_0f7a4_43 (by decide) ?_
  refine gi_ushr hx hb dJ6_bitCount_0f7a4_45 ?_
  refine gi_add hx hb dJ6_bitCount_0f7a4_46 ?_
  refine gi_nm (fun x_5 ex_5 => ?_)
  replace hM := nx_at hM ex_5
  clear ex_5
  refine lv_istore_n (lv' := [(0, .int (iI x_5))]) hx hb dJ6_bitCount_0f7a4_47 rfl hl (by decide) rfl (fun ls hl => ?_)
  refine lv_iload_n hx hb dJ6_bitCount_0f7a4_48 rfl (lv_at hl 0 rfl) ?_
  refine lv_bipush (v := iI 63) hx hb dJ6_bitCount_0f7a4_49 (by decide) ?_
  refine gi_and hx hb dJ6_bitCount_0f7a4_51 ?_
  cases hM
  exact g_iret S hr hlk hG hsz dJ6_bitCount_0f7a4_52 ⟨Nat.le_of_ble_eq_true rfl, Nat.le_of_ble_eq_true rfl⟩ ⟨rfl, rfl⟩
def mX11_takes (S0 : St) (a1 : Int) (a2 : Int) : Option (Int × St) := bd1 (mX11_termed S0 a1 a2) fun r_2 => gd (inI r_2) <| if r_2 = 0 then (some ((-2), S0)) else (bd1 (mX2_isOff_2 S0 a1 a2) fun r_6 => gd (inI r_6) <| if r_6 = 0 then (gd (inI (S0 0 15)) <| if (S0 0 15) < 10 then (gd (0 ≤ (S0 0 15) ∧ (S0 0 15) < 10) <| nx (up S0 82 (S0 0 15) ((a1 * 10) + a2)) fun S_12 => nx (up S_12 0 15 ((S_12 0 15) + 1)) fun S_13 => bd1 (mX2_flip_2 S_13 a1 a2) fun S_15 => bd1 (mX11_settle S_15) fun S_17 => gd (0 ≤ a1 ∧ a1 < 30) <| bd1 (mJ6_bitCount_0f7a4 (S_17 10 a1)) fun r_20 => some (((S_17 8 a1) - r_20), S_17)) else (some ((-5), S0))) else (some ((-5), S0)))
set_option maxHeartbeats 4000000 in
set_option maxRecDepth 100000 in
theorem vX11_takes (l : Launch) {D : va_G} {cy : Nat → ClassId} {b n : Nat} (hn : 102 ≤ n) {X : Nat → va_E} {S0 : St} (a1 : Int) (a2 : Int) {o1 : Int} {o2 : St} (hM : mX11_takes S0 a1 a2 = some (o1, o2)) : gI l yX11_takes cX11_takes 3 (some .int) 7 0 0 D cy b n (enc b cy X S0) [.ref (b + 0), .int (iI a1), .int (iI a2)] (fun r u => r = iI o1 ∧ u = (n, enc b cy X o2)) := by
  refine gI_of (by decide) (Nat.le_of_ble_eq_true rfl) ?_
  intro p e s m args below meth c S hr hlk hin hsz ls hl hG
  have hx := S.1
  have hb := S.2.1
  have hl : lv_has ls 3 [(0, .ref (b + 0)), (1, .int (iI a1)), (2, .int (iI a2))] := hl
  replace hG : gW D cy b n s s.heap [] (enc b cy X S0) := hG
  obtain ⟨H, eH⟩ : ∃ H, H = s.heap := ⟨_, rfl⟩
  obtain ⟨locs, elocs⟩ : ∃ locs : List Loc, locs = [] := ⟨_, rfl⟩
  rw [← eH, ← elocs] at hG
  rw [← eH, ← elocs]
  clear eH elocs
  unfold mX11_takes at hM
  refine lv_aload_n hx hb dX11_takes_0 rfl (lv_at hl 0 rfl) ?_
  refine lv_iload_n hx hb dX11_takes_1 rfl (lv_at hl 1 rfl) ?_
  refine lv_iload_n hx hb dX11_takes_2 rfl (lv_at hl 2 rfl) ?_
  obtain ⟨r_2, hc_1, hM⟩ := bd1_some hM
  refine g_vi (As := [.int (iI a1), .int (iI a2)]) (rest := []) S hG hsz (vX11_termed l hn a1 a2 hc_1) wV_11_228 (ec_0 _) cpX11 (Nat.lt_of_lt_of_le (Nat.le_of_ble_eq_true rfl) hn) dX11_takes_3 rfl hl.1 (ar := 2) (by decide +kernel) rfl ⟨Nat.le_of_ble_eq_true rfl, Nat.le_of_ble_eq_true rfl, Nat.le_of_ble_eq_true rfl, Nat.le_of_ble_eq_true rfl⟩ (Nat.le_of_ble_eq_true rfl) (fun rv uu H locs hp hG => ?_)
  obtain ⟨rfl, rfl⟩ := hp
  replace hG : gW D cy b n s H locs (enc b cy X S0) := hG
  obtain ⟨hg_3, hM⟩ := gd_some hM
  refine gi_if_ne (tgt := 12) hx hb dX11_takes_6 (by decide) hg_3 (fun c_4 => ?_) (fun c_4 => ?_)
  · replace hM := ifn hM c_4
    refine lv_aload_n hx hb dX11_takes_12 rfl (lv_at hl 0 rfl) ?_
    refine m_get S hG 0 0 2 rfl ec_0 cpX11 wm_667 dX11_takes_13 rfl (Nat.lt_of_lt_of_le (Nat.le_of_ble_eq_true rfl) hn) (by decide) ?_
    refine lv_iload_n hx hb dX11_takes_16 rfl (lv_at hl 1 rfl) ?_
    refine lv_iload_n hx hb dX11_takes_17 rfl (lv_at hl 2 rfl) ?_
    obtain ⟨r_6, hc_5, hM⟩ := bd1_some hM
    refine g_vi (As := [.int (iI a1), .int (iI a2)]) (rest := []) S hG hsz (vX2_isOff_2 l hn a1 a2 hc_5) wV_11_243 (ec_2 _) cpX2 (Nat.lt_of_lt_of_le (Nat.le_of_ble_eq_true rfl) hn) dX11_takes_18 rfl hl.1 (ar := 2) (by decide +kernel) rfl ⟨Nat.le_of_ble_eq_true rfl, Nat.le_of_ble_eq_true rfl, Nat.le_of_ble_eq_true rfl, Nat.le_of_ble_eq_true rfl⟩ (Nat.le_of_ble_eq_true rfl) (fun rv uu H locs hp hG => ?_)
    obtain ⟨rfl, rfl⟩ := hp
    replace hG : gW D cy b n s H locs (enc b cy X S0) := hG
    obtain ⟨hg_7, hM⟩ := gd_some hM
    refine gi_if_ne (tgt := 33) hx hb dX11_takes_21 (by decide) hg_7 (fun c_8 => ?_) (fun c_8 => ?_)
    · replace hM := ifn hM c_8
      refine lv_bipush (v := iI (-5)) hx hb dX11_takes_33 (by decide) ?_
      cases hM
      exact g_iret S hr hlk hG hsz dX11_takes_35 ⟨Nat.le_of_ble_eq_true rfl, Nat.le_of_ble_eq_true rfl⟩ ⟨rfl, rfl⟩
    · replace hM := ifp hM c_8
      refine lv_aload_n hx hb dX11_takes_24 rfl (lv_at hl 0 rfl) ?_
      refine m_get S hG 0 0 15 rfl ec_0 cpX11 wm_680 dX11_takes_25 rfl (Nat.lt_of_lt_of_le (Nat.le_of_ble_eq_true rfl) hn) (by decide) ?_
      refine lv_bipush (v := iI 10) hx hb dX11_takes_28 (by decide) ?_
      obtain ⟨hg_9, hM⟩ := gd_some hM
      refine gi_icmp_lt (tgt := 36) hx hb dX11_takes_30 (by decide) hg_9 (by decide) (fun c_10 => ?_) (fun c_10 => ?_)
      · replace hM := ifp hM c_10
        refine lv_aload_n hx hb dX11_takes_36 rfl (lv_at hl 0 rfl) ?_
        refine m_get S hG 0 0 14 rfl ec_0 cpX11 wm_679 dX11_takes_37 rfl (Nat.lt_of_lt_of_le (Nat.le_of_ble_eq_true rfl) hn) (by decide) ?_
        refine lv_aload_n hx hb dX11_takes_40 rfl (lv_at hl 0 rfl) ?_
        refine m_get S hG 0 0 15 rfl ec_0 cpX11 wm_680 dX11_takes_41 rfl (Nat.lt_of_lt_of_le (Nat.le_of_ble_eq_true rfl) hn) (by decide) ?_
        refine lv_iload_n hx hb dX11_takes_44 rfl (lv_at hl 1 rfl) ?_
        refine lv_bipush (v := iI 10) hx hb dX11_takes_45 (by decide) ?_
        refine gi_mul hx hb dX11_takes_47 ?_
        refine lv_iload_n hx hb dX11_takes_48 rfl (lv_at hl 2 rfl) ?_
        refine gi_add hx hb dX11_takes_49 ?_
        obtain ⟨hg_11, hM⟩ := gd_some hM
        refine mi_ast S hG 79 82 rfl ec_82 (Nat.lt_of_lt_of_le (Nat.le_of_ble_eq_true rfl) hn) dX11_takes_50 hg_11 (by decide) (fun H locs S_12 eS_12 hG => ?_)
        replace hM := nx_at hM eS_12
        clear eS_12
        refine lv_aload_n hx hb dX11_takes_51 rfl (lv_at hl 0 rfl) ?_
        refine lv_dup hx hb dX11_takes_52 rfl ?_
        refine m_get S hG 0 0 15 rfl ec_0 cpX11 wm_680 dX11_takes_53 rfl (Nat.lt_of_lt_of_le (Nat.le_of_ble_eq_true rfl) hn) (by decide) ?_
        refine lv_iconst (v := iI 1) hx hb dX11_takes_56 (by decide) ?_
        refine gi_add hx hb dX11_takes_57 ?_
        refine m_put S hG 0 0 15 rfl 15 ((S_12 0 15) + 1) ec_0 cpX11 wm_680 dX11_takes_58 (pf_0_15) (Nat.lt_of_lt_of_le (Nat.le_of_ble_eq_true rfl) hn) (by decide) (Nat.le_of_ble_eq_true rfl) rfl rfl rfl (fun H locs S_13 eS_13 hG => ?_)
        replace hM := nx_at hM eS_13
        clear eS_13
        refine lv_aload_n hx hb dX11_takes_61 rfl (lv_at hl 0 rfl) ?_
        refine m_get S hG 0 0 2 rfl ec_0 cpX11 wm_667 dX11_takes_62 rfl (Nat.lt_of_lt_of_le (Nat.le_of_ble_eq_true rfl) hn) (by decide) ?_
        refine lv_iload_n hx hb dX11_takes_65 rfl (lv_at hl 1 rfl) ?_
        refine lv_iload_n hx hb dX11_takes_66 rfl (lv_at hl 2 rfl) ?_
        obtain ⟨S_15, hc_14, hM⟩ := bd1_some hM
        refine g_vv (As := [.int (iI a1), .int (iI a2)]) (rest := []) S hG hsz (vX2_flip_2 l hn a1 a2 hc_14) wV_11_367 (ec_2 _) cpX2 (Nat.lt_of_lt_of_le (Nat.le_of_ble_eq_true rfl) hn) dX11_takes_67 rfl hl.1 (ar := 2) (by decide +kernel) rfl ⟨Nat.le_of_ble_eq_true rfl, Nat.le_of_ble_eq_true rfl, Nat.le_of_ble_eq_true rfl, Nat.le_of_ble_eq_true rfl⟩ (Nat.le_of_ble_eq_true rfl) (fun uu H locs hp hG => ?_)
        obtain rfl := hp
        replace hG : gW D cy b n s H locs (enc b cy X S_15) := hG
        refine lv_aload_n hx hb dX11_takes_70 rfl (lv_at hl 0 rfl) ?_
        obtain ⟨S_17, hc_16, hM⟩ := bd1_some hM
        refine g_vv (As := []) (rest := []) S hG hsz (vX11_settle l hn  hc_16) wV_11_140 (ec_0 _) cpX11 (Nat.lt_of_lt_of_le (Nat.le_of_ble_eq_true rfl) hn) dX11_takes_71 rfl hl.1 (ar := 0) (by decide +kernel) rfl ⟨Nat.le_of_ble_eq_true rfl, Nat.le_of_ble_eq_true rfl, Nat.le_of_ble_eq_true rfl, Nat.le_of_ble_eq_true rfl⟩ (Nat.le_of_ble_eq_true rfl) (fun uu H locs hp hG => ?_)
        obtain rfl := hp
        replace hG : gW D cy b n s H locs (enc b cy X S_17) := hG
        refine lv_aload_n hx hb dX11_takes_74 rfl (lv_at hl 0 rfl) ?_
        refine m_get S hG 0 0 2 rfl ec_0 cpX11 wm_667 dX11_takes_75 rfl (Nat.lt_of_lt_of_le (Nat.le_of_ble_eq_true rfl) hn) (by decide) ?_
        refine m_get S hG 2 2 10 rfl ec_2 cpX2 wm_266 dX11_takes_78 rfl (Nat.lt_of_lt_of_le (Nat.le_of_ble_eq_true rfl) hn) (by decide) ?_
        refine lv_iload_n hx hb dX11_takes_81 rfl (lv_at hl 1 rfl) ?_
        obtain ⟨hg_18, hM⟩ := gd_some hM
        refine mi_ald S hG 8 8 rfl ec_8 (Nat.lt_of_lt_of_le (Nat.le_of_ble_eq_true rfl) hn) dX11_takes_82 hg_18 (by decide) ?_
        refine lv_aload_n hx hb dX11_takes_83 rfl (lv_at hl 0 rfl) ?_
        refine m_get S hG 0 0 2 rfl ec_0 cpX11 wm_667 dX11_takes_84 rfl (Nat.lt_of_lt_of_le (Nat.le_of_ble_eq_true rfl) hn) (by decide) ?_
        refine m_get S hG 2 2 12 rfl ec_2 cpX2 wm_272 dX11_takes_87 rfl (Nat.lt_of_lt_of_le (Nat.le_of_ble_eq_true rfl) hn) (by decide) ?_
        refine lv_iload_n hx hb dX11_takes_90 rfl (lv_at hl 1 rfl) ?_
        refine mi_ald S hG 10 10 rfl ec_10 (Nat.lt_of_lt_of_le (Nat.le_of_ble_eq_true rfl) hn) dX11_takes_91 hg_18 (by decide) ?_
        obtain ⟨r_20, hc_19, hM⟩ := bd1_some hM
        refine g_si (As := [.int (iI (S_17 10 a1))]) (rest := [.int (iI (S_17 8 a1))]) S hG hsz (vJ6_bitCount_0f7a4 l hn (S_17 10 a1) hc_19) wS_11_370 dX11_takes_92 rfl hl.1 (ar := 1) (by decide +kernel) rfl ⟨Nat.le_of_ble_eq_true rfl, Nat.le_of_ble_eq_true rfl, Nat.le_of_ble_eq_true rfl, Nat.le_of_ble_eq_true rfl⟩ (Nat.le_of_ble_eq_true rfl) (fun rv uu H locs hp hG => ?_)
        obtain ⟨rfl, rfl⟩ := hp
        replace hG : gW D cy b n s H locs (enc b cy X S_17) := hG
        refine gi_sub hx hb dX11_takes_95 ?_
        cases hM
        exact g_iret S hr hlk hG hsz dX11_takes_96 ⟨Nat.le_of_ble_eq_true rfl, Nat.le_of_ble_eq_true rfl⟩ ⟨rfl, rfl⟩
      · replace hM := ifn hM c_10
        refine lv_bipush (v := iI (-5)) hx hb dX11_takes_33 (by decide) ?_
        cases hM
        exact g_iret S hr hlk hG hsz dX11_takes_35 ⟨Nat.le_of_ble_eq_true rfl, Nat.le_of_ble_eq_true rfl⟩ ⟨rfl, rfl⟩
  · replace hM := ifp hM c_4
    refine lv_bipush (v := iI (-2)) hx hb dX11_takes_9 (by decide) ?_
    cases hM
    exact g_iret S hr hlk hG hsz dX11_takes_11 ⟨Nat.le_of_ble_eq_true rfl, Nat.le_of_ble_eq_true rfl⟩ ⟨rfl, rfl⟩
def mX11_takeBack (S0 : St)  : Option (St) := nx (up S0 0 15 ((S0 0 15) - 1)) fun S_1 => gd (0 ≤ (S_1 0 15) ∧ (S_1 0 15) < 10) <| gd (0 ≤ (S_1 82 (S_1 0 15)) ∧ (S_1 82 (S_1 0 15)) ≤ 2147483647) <| bd1 (mX2_flip_2 S_1 ((S_1 82 (S_1 0 15)) / 10) ((S_1 82 (S_1 0 15)) % 10)) fun S_5 => some (S_5)
set_option maxHeartbeats 4000000 in
set_option maxRecDepth 100000 in
theorem vX11_takeBack (l : Launch) {D : va_G} {cy : Nat → ClassId} {b n : Nat} (hn : 102 ≤ n) {X : Nat → va_E} {S0 : St}  {o1 : St} (hM : mX11_takeBack S0  = some o1) : gV l yX11_takeBack cX11_takeBack 1 1 0 0 D cy b n (enc b cy X S0) [.ref (b + 0)] (fun u => u = (n, enc b cy X o1)) := by
  refine gV_of (by decide) (Nat.le_of_ble_eq_true rfl) ?_
  intro p e s m args below meth c S hr hlk hin hsz ls hl hG
  have hx := S.1
  have hb := S.2.1
  have hl : lv_has ls 1 [(0, .ref (b + 0))] := hl
  replace hG : gW D cy b n s s.heap [] (enc b cy X S0) := hG
  obtain ⟨H, eH⟩ : ∃ H, H = s.heap := ⟨_, rfl⟩
  obtain ⟨locs, elocs⟩ : ∃ locs : List Loc, locs = [] := ⟨_, rfl⟩
  rw [← eH, ← elocs] at hG
  rw [← eH, ← elocs]
  clear eH elocs
  unfold mX11_takeBack at hM
  refine lv_aload_n hx hb dX11_takeBack_0 rfl (lv_at hl 0 rfl) ?_
  refine lv_dup hx hb dX11_takeBack_1 rfl ?_
  refine m_get S hG 0 0 15 rfl ec_0 cpX11 wm_680 dX11_takeBack_2 rfl (Nat.lt_of_lt_of_le (Nat.le_of_ble_eq_true rfl) hn) (by decide) ?_
  refine lv_iconst (v := iI 1) hx hb dX11_takeBack_5 (by decide) ?_
  refine gi_sub hx hb dX11_takeBack_6 ?_
  refine m_put S hG 0 0 15 rfl 15 ((S0 0 15) - 1) ec_0 cpX11 wm_680 dX11_takeBack_7 (pf_0_15) (Nat.lt_of_lt_of_le (Nat.le_of_ble_eq_true rfl) hn) (by decide) (Nat.le_of_ble_eq_true rfl) rfl rfl rfl (fun H locs S_1 eS_1 hG => ?_)
  replace hM := nx_at hM eS_1
  clear eS_1
  refine lv_aload_n hx hb dX11_takeBack_10 rfl (lv_at hl 0 rfl) ?_
  refine m_get S hG 0 0 2 rfl ec_0 cpX11 wm_667 dX11_takeBack_11 rfl (Nat.lt_of_lt_of_le (Nat.le_of_ble_eq_true rfl) hn) (by decide) ?_
  refine lv_aload_n hx hb dX11_takeBack_14 rfl (lv_at hl 0 rfl) ?_
  refine m_get S hG 0 0 14 rfl ec_0 cpX11 wm_679 dX11_takeBack_15 rfl (Nat.lt_of_lt_of_le (Nat.le_of_ble_eq_true rfl) hn) (by decide) ?_
  refine lv_aload_n hx hb dX11_takeBack_18 rfl (lv_at hl 0 rfl) ?_
  refine m_get S hG 0 0 15 rfl ec_0 cpX11 wm_680 dX11_takeBack_19 rfl (Nat.lt_of_lt_of_le (Nat.le_of_ble_eq_true rfl) hn) (by decide) ?_
  obtain ⟨hg_2, hM⟩ := gd_some hM
  refine mi_ald S hG 79 82 rfl ec_82 (Nat.lt_of_lt_of_le (Nat.le_of_ble_eq_true rfl) hn) dX11_takeBack_22 hg_2 (by decide) ?_
  refine lv_bipush (v := iI 10) hx hb dX11_takeBack_23 (by decide) ?_
  obtain ⟨hg_3, hM⟩ := gd_some hM
  refine gi_div hx hb dX11_takeBack_25 hg_3 (by decide) ?_
  refine lv_aload_n hx hb dX11_takeBack_26 rfl (lv_at hl 0 rfl) ?_
  refine m_get S hG 0 0 14 rfl ec_0 cpX11 wm_679 dX11_takeBack_27 rfl (Nat.lt_of_lt_of_le (Nat.le_of_ble_eq_true rfl) hn) (by decide) ?_
  refine lv_aload_n hx hb dX11_takeBack_30 rfl (lv_at hl 0 rfl) ?_
  refine m_get S hG 0 0 15 rfl ec_0 cpX11 wm_680 dX11_takeBack_31 rfl (Nat.lt_of_lt_of_le (Nat.le_of_ble_eq_true rfl) hn) (by decide) ?_
  refine mi_ald S hG 79 82 rfl ec_82 (Nat.lt_of_lt_of_le (Nat.le_of_ble_eq_true rfl) hn) dX11_takeBack_34 hg_2 (by decide) ?_
  refine lv_bipush (v := iI 10) hx hb dX11_takeBack_35 (by decide) ?_
  refine gi_rem hx hb dX11_takeBack_37 hg_3 (by decide) ?_
  obtain ⟨S_5, hc_4, hM⟩ := bd1_some hM
  refine g_vv (As := [.int (iI ((S_1 82 (S_1 0 15)) / 10)), .int (iI ((S_1 82 (S_1 0 15)) % 10))]) (rest := []) S hG hsz (vX2_flip_2 l hn ((S_1 82 (S_1 0 15)) / 10) ((S_1 82 (S_1 0 15)) % 10) hc_4) wV_11_367 (ec_2 _) cpX2 (Nat.lt_of_lt_of_le (Nat.le_of_ble_eq_true rfl) hn) dX11_takeBack_38 rfl hl.1 (ar := 2) (by decide +kernel) rfl ⟨Nat.le_of_ble_eq_true rfl, Nat.le_of_ble_eq_true rfl, Nat.le_of_ble_eq_true rfl, Nat.le_of_ble_eq_true rfl⟩ (Nat.le_of_ble_eq_true rfl) (fun uu H locs hp hG => ?_)
  obtain rfl := hp
  replace hG : gW D cy b n s H locs (enc b cy X S_5) := hG
  cases hM
  exact g_vret S hr hlk hG hsz dX11_takeBack_41 ⟨Nat.le_of_ble_eq_true rfl, Nat.le_of_ble_eq_true rfl⟩ rfl
theorem wV_11_375 : gWV "GrownKinds" 375 yX11_takeBack cX11_takeBack 1 none := ⟨wm_1655, wm_1657, wm_86, wm_177, wm_1658, by decide +kernel, by decide +kernel⟩
def mX11_undo (S0 : St)  : Option (Int × St) := gd (inI (S0 2 2)) <| if (S0 2 2) = 0 then (some ((-2), S0)) else (gd (inI (S0 0 15)) <| if (S0 0 15) = 0 then (some ((-5), S0)) else (bd1 (mX11_takeBack S0) fun S_6 => bd1 (mX11_settle S_6) fun S_8 => some ((S_8 0 15), S_8)))
set_option maxHeartbeats 4000000 in
set_option maxRecDepth 100000 in
theorem vX11_undo (l : Launch) {D : va_G} {cy : Nat → ClassId} {b n : Nat} (hn : 102 ≤ n) {X : Nat → va_E} {S0 : St}  {o1 : Int} {o2 : St} (hM : mX11_undo S0  = some (o1, o2)) : gI l yX11_undo cX11_undo 1 (some .int) 7 0 0 D cy b n (enc b cy X S0) [.ref (b + 0)] (fun r u => r = iI o1 ∧ u = (n, enc b cy X o2)) := by
  refine gI_of (by decide) (Nat.le_of_ble_eq_true rfl) ?_
  intro p e s m args below meth c S hr hlk hin hsz ls hl hG
  have hx := S.1
  have hb := S.2.1
  have hl : lv_has ls 1 [(0, .ref (b + 0))] := hl
  replace hG : gW D cy b n s s.heap [] (enc b cy X S0) := hG
  obtain ⟨H, eH⟩ : ∃ H, H = s.heap := ⟨_, rfl⟩
  obtain ⟨locs, elocs⟩ : ∃ locs : List Loc, locs = [] := ⟨_, rfl⟩
  rw [← eH, ← elocs] at hG
  rw [← eH, ← elocs]
  clear eH elocs
  unfold mX11_undo at hM
  refine lv_aload_n hx hb dX11_undo_0 rfl (lv_at hl 0 rfl) ?_
  refine m_get S hG 0 0 2 rfl ec_0 cpX11 wm_667 dX11_undo_1 rfl (Nat.lt_of_lt_of_le (Nat.le_of_ble_eq_true rfl) hn) (by decide) ?_
  refine m_get S hG 2 2 2 rfl ec_2 cpX2 wm_225 dX11_undo_4 rfl (Nat.lt_of_lt_of_le (Nat.le_of_ble_eq_true rfl) hn) (by decide) ?_
  obtain ⟨hg_1, hM⟩ := gd_some hM
  refine gi_if_ne (tgt := 13) hx hb dX11_undo_7 (by decide) hg_1 (fun c_2 => ?_) (fun c_2 => ?_)
  · replace hM := ifn hM c_2
    refine lv_aload_n hx hb dX11_undo_13 rfl (lv_at hl 0 rfl) ?_
    refine m_get S hG 0 0 15 rfl ec_0 cpX11 wm_680 dX11_undo_14 rfl (Nat.lt_of_lt_of_le (Nat.le_of_ble_eq_true rfl) hn) (by decide) ?_
    obtain ⟨hg_3, hM⟩ := gd_some hM
    refine gi_if_ne (tgt := 23) hx hb dX11_undo_17 (by decide) hg_3 (fun c_4 => ?_) (fun c_4 => ?_)
    · replace hM := ifn hM c_4
      refine lv_aload_n hx hb dX11_undo_23 rfl (lv_at hl 0 rfl) ?_
      obtain ⟨S_6, hc_5, hM⟩ := bd1_some hM
      refine g_vv (As := []) (rest := []) S hG hsz (vX11_takeBack l hn  hc_5) wV_11_375 (ec_0 _) cpX11 (Nat.lt_of_lt_of_le (Nat.le_of_ble_eq_true rfl) hn) dX11_undo_24 rfl hl.1 (ar := 0) (by decide +kernel) rfl ⟨Nat.le_of_ble_eq_true rfl, Nat.le_of_ble_eq_true rfl, Nat.le_of_ble_eq_true rfl, Nat.le_of_ble_eq_true rfl⟩ (Nat.le_of_ble_eq_true rfl) (fun uu H locs hp hG => ?_)
      obtain rfl := hp
      replace hG : gW D cy b n s H locs (enc b cy X S_6) := hG
      refine lv_aload_n hx hb dX11_undo_27 rfl (lv_at hl 0 rfl) ?_
      obtain ⟨S_8, hc_7, hM⟩ := bd1_some hM
      refine g_vv (As := []) (rest := []) S hG hsz (vX11_settle l hn  hc_7) wV_11_140 (ec_0 _) cpX11 (Nat.lt_of_lt_of_le (Nat.le_of_ble_eq_true rfl) hn) dX11_undo_28 rfl hl.1 (ar := 0) (by decide +kernel) rfl ⟨Nat.le_of_ble_eq_true rfl, Nat.le_of_ble_eq_true rfl, Nat.le_of_ble_eq_true rfl, Nat.le_of_ble_eq_true rfl⟩ (Nat.le_of_ble_eq_true rfl) (fun uu H locs hp hG => ?_)
      obtain rfl := hp
      replace hG : gW D cy b n s H locs (enc b cy X S_8) := hG
      refine lv_aload_n hx hb dX11_undo_31 rfl (lv_at hl 0 rfl) ?_
      refine m_get S hG 0 0 15 rfl ec_0 cpX11 wm_680 dX11_undo_32 rfl (Nat.lt_of_lt_of_le (Nat.le_of_ble_eq_true rfl) hn) (by decide) ?_
      cases hM
      exact g_iret S hr hlk hG hsz dX11_undo_35 ⟨Nat.le_of_ble_eq_true rfl, Nat.le_of_ble_eq_true rfl⟩ ⟨rfl, rfl⟩
    · replace hM := ifp hM c_4
      refine lv_bipush (v := iI (-5)) hx hb dX11_undo_20 (by decide) ?_
      cases hM
      exact g_iret S hr hlk hG hsz dX11_undo_22 ⟨Nat.le_of_ble_eq_true rfl, Nat.le_of_ble_eq_true rfl⟩ ⟨rfl, rfl⟩
  · replace hM := ifp hM c_2
    refine lv_bipush (v := iI (-2)) hx hb dX11_undo_10 (by decide) ?_
    cases hM
    exact g_iret S hr hlk hG hsz dX11_undo_12 ⟨Nat.le_of_ble_eq_true rfl, Nat.le_of_ble_eq_true rfl⟩ ⟨rfl, rfl⟩
def mX11_anew_20 (x_3 : Int) : Nat → Int → St → Option (St)
  | 0, _, _ => none
  | f + 1, v_4, S_5 => gd ((inI v_4) ∧ (inI x_3)) <| if x_3 ≤ v_4 then (some (S_5)) else (bd1 (mX11_takeBack S_5) fun S_23 => mX11_anew_20 x_3 f (v_4 + 1) S_23)
def mX11_anew (S0 : St)  : Option (Int × St) := gd (inI (S0 2 2)) <| if (S0 2 2) = 0 then (some ((-2), S0)) else (nx (S0 0 15) fun x_3 => bd1 (mX11_anew_20 x_3 FU 0 S0) fun S_6 => gd (inI x_3) <| if x_3 ≤ 0 then (bd1 (mX1_stop S_6) fun S_12 => some (x_3, S_12)) else (bd1 (mX11_settle S_6) fun S_14 => bd1 (mX1_stop S_14) fun S_16 => some (x_3, S_16)))
set_option maxHeartbeats 4000000 in
set_option maxRecDepth 100000 in
theorem vX11_anew (l : Launch) {D : va_G} {cy : Nat → ClassId} {b n : Nat} (hn : 102 ≤ n) {X : Nat → va_E} {S0 : St}  {o1 : Int} {o2 : St} (hM : mX11_anew S0  = some (o1, o2)) : gI l yX11_anew cX11_anew 3 (some .int) 7 0 0 D cy b n (enc b cy X S0) [.ref (b + 0)] (fun r u => r = iI o1 ∧ u = (n, enc b cy X o2)) := by
  refine gI_of (by decide) (Nat.le_of_ble_eq_true rfl) ?_
  intro p e s m args below meth c S hr hlk hin hsz ls hl hG
  have hx := S.1
  have hb := S.2.1
  have hl : lv_has ls 3 [(0, .ref (b + 0))] := hl
  replace hG : gW D cy b n s s.heap [] (enc b cy X S0) := hG
  obtain ⟨H, eH⟩ : ∃ H, H = s.heap := ⟨_, rfl⟩
  obtain ⟨locs, elocs⟩ : ∃ locs : List Loc, locs = [] := ⟨_, rfl⟩
  rw [← eH, ← elocs] at hG
  rw [← eH, ← elocs]
  clear eH elocs
  unfold mX11_anew at hM
  refine lv_aload_n hx hb dX11_anew_0 rfl (lv_at hl 0 rfl) ?_
  refine m_get S hG 0 0 2 rfl ec_0 cpX11 wm_667 dX11_anew_1 rfl (Nat.lt_of_lt_of_le (Nat.le_of_ble_eq_true rfl) hn) (by decide) ?_
  refine m_get S hG 2 2 2 rfl ec_2 cpX2 wm_225 dX11_anew_4 rfl (Nat.lt_of_lt_of_le (Nat.le_of_ble_eq_true rfl) hn) (by decide) ?_
  obtain ⟨hg_1, hM⟩ := gd_some hM
  refine gi_if_ne (tgt := 13) hx hb dX11_anew_7 (by decide) hg_1 (fun c_2 => ?_) (fun c_2 => ?_)
  · replace hM := ifn hM c_2
    refine lv_aload_n hx hb dX11_anew_13 rfl (lv_at hl 0 rfl) ?_
    refine m_get S hG 0 0 15 rfl ec_0 cpX11 wm_680 dX11_anew_14 rfl (Nat.lt_of_lt_of_le (Nat.le_of_ble_eq_true rfl) hn) (by decide) ?_
    refine gi_nm (fun x_3 ex_3 => ?_)
    replace hM := nx_at hM ex_3
    clear ex_3
    refine lv_istore_n (lv' := [(1, .int (iI x_3)), (0, .ref (b + 0))]) hx hb dX11_anew_17 rfl hl (by decide) rfl (fun ls hl => ?_)
    refine lv_iconst (v := iI 0) hx hb dX11_anew_18 (by decide) ?_
    refine lv_istore_n (lv' := [(2, .int (iI 0)), (1, .int (iI x_3)), (0, .ref (b + 0))]) hx hb dX11_anew_19 rfl hl (by decide) rfl (fun ls hl => ?_)
    obtain ⟨S_6, hc_7, hM⟩ := bd1_some hM
    have hK_8 : ∀ (H : Heap) (locs : List Loc) (ls : Array Slot), gW D cy b n s H locs (enc b cy X S_6) → lv_has ls 3 [(1, .int (iI x_3)), (0, .ref (b + 0))] → W p l e (gRm 7 0 0) s m args below meth c H locs 0 0 (gQI D cy b s args below 0 0 (fun r u => r = iI o1 ∧ u = (n, enc b cy X o2))) (F0 m 35 ls []) := by
      intro H locs ls hG hl
      refine lv_iload_n hx hb dX11_anew_35 rfl (lv_at hl 0 rfl) ?_
      obtain ⟨hg_9, hM⟩ := gd_some hM
      refine gi_if_le (tgt := 43) hx hb dX11_anew_36 (by decide) hg_9 (fun c_10 => ?_) (fun c_10 => ?_)
      · replace hM := ifp hM c_10
        refine lv_aload_n hx hb dX11_anew_43 rfl (lv_at hl 1 rfl) ?_
        refine m_get S hG 0 0 12 rfl ec_0 cpX11 wm_677 dX11_anew_44 rfl (Nat.lt_of_lt_of_le (Nat.le_of_ble_eq_true rfl) hn) (by decide) ?_
        obtain ⟨S_12, hc_11, hM⟩ := bd1_some hM
        refine g_vv (As := []) (rest := []) S hG hsz (vX1_stop l hn  hc_11) wV_11_143 (ec_80 _) cpX1 (Nat.lt_of_lt_of_le (Nat.le_of_ble_eq_true rfl) hn) dX11_anew_47 rfl hl.1 (ar := 0) (by decide +kernel) rfl ⟨Nat.le_of_ble_eq_true rfl, Nat.le_of_ble_eq_true rfl, Nat.le_of_ble_eq_true rfl, Nat.le_of_ble_eq_true rfl⟩ (Nat.le_of_ble_eq_true rfl) (fun uu H locs hp hG => ?_)
        obtain rfl := hp
        replace hG : gW D cy b n s H locs (enc b cy X S_12) := hG
        refine lv_iload_n hx hb dX11_anew_50 rfl (lv_at hl 0 rfl) ?_
        cases hM
        exact g_iret S hr hlk hG hsz dX11_anew_51 ⟨Nat.le_of_ble_eq_true rfl, Nat.le_of_ble_eq_true rfl⟩ ⟨rfl, rfl⟩
      · replace hM := ifn hM c_10
        refine lv_aload_n hx hb dX11_anew_39 rfl (lv_at hl 1 rfl) ?_
        obtain ⟨S_14, hc_13, hM⟩ := bd1_some hM
        refine g_vv (As := []) (rest := []) S hG hsz (vX11_settle l hn  hc_13) wV_11_140 (ec_0 _) cpX11 (Nat.lt_of_lt_of_le (Nat.le_of_ble_eq_true rfl) hn) dX11_anew_40 rfl hl.1 (ar := 0) (by decide +kernel) rfl ⟨Nat.le_of_ble_eq_true rfl, Nat.le_of_ble_eq_true rfl, Nat.le_of_ble_eq_true rfl, Nat.le_of_ble_eq_true rfl⟩ (Nat.le_of_ble_eq_true rfl) (fun uu H locs hp hG => ?_)
        obtain rfl := hp
        replace hG : gW D cy b n s H locs (enc b cy X S_14) := hG
        refine lv_aload_n hx hb dX11_anew_43 rfl (lv_at hl 1 rfl) ?_
        refine m_get S hG 0 0 12 rfl ec_0 cpX11 wm_677 dX11_anew_44 rfl (Nat.lt_of_lt_of_le (Nat.le_of_ble_eq_true rfl) hn) (by decide) ?_
        obtain ⟨S_16, hc_15, hM⟩ := bd1_some hM
        refine g_vv (As := []) (rest := []) S hG hsz (vX1_stop l hn  hc_15) wV_11_143 (ec_80 _) cpX1 (Nat.lt_of_lt_of_le (Nat.le_of_ble_eq_true rfl) hn) dX11_anew_47 rfl hl.1 (ar := 0) (by decide +kernel) rfl ⟨Nat.le_of_ble_eq_true rfl, Nat.le_of_ble_eq_true rfl, Nat.le_of_ble_eq_true rfl, Nat.le_of_ble_eq_true rfl⟩ (Nat.le_of_ble_eq_true rfl) (fun uu H locs hp hG => ?_)
        obtain rfl := hp
        replace hG : gW D cy b n s H locs (enc b cy X S_16) := hG
        refine lv_iload_n hx hb dX11_anew_50 rfl (lv_at hl 0 rfl) ?_
        cases hM
        exact g_iret S hr hlk hG hsz dX11_anew_51 ⟨Nat.le_of_ble_eq_true rfl, Nat.le_of_ble_eq_true rfl⟩ ⟨rfl, rfl⟩
    have loop_17 : ∀ (f : Nat) (v_4 : Int) (S_5 : St) (H : Heap) (locs : List Loc) (ls : Array Slot), mX11_anew_20 x_3 f v_4 S_5 = some S_6 → gW D cy b n s H locs (enc b cy X S_5) → lv_has ls 3 [(2, .int (iI v_4)), (1, .int (iI x_3)), (0, .ref (b + 0))] → W p l e (gRm 7 0 0) s m args below meth c H locs 0 0 (gQI D cy b s args below 0 0 (fun r u => r = iI o1 ∧ u = (n, enc b cy X o2))) (F0 m 20 ls []) := by
      clear hM
      intro f
      induction f with
      | zero => intro v_4 S_5 H locs ls hM; rw [mX11_anew_20] at hM; cases hM
      | succ f_19 ih_18 =>
        intro v_4 S_5 H locs ls hM hG hl
        rw [mX11_anew_20] at hM
        refine lv_iload_n hx hb dX11_anew_20 rfl (lv_at hl 0 rfl) ?_
        refine lv_iload_n hx hb dX11_anew_21 rfl (lv_at hl 1 rfl) ?_
        obtain ⟨hg_20, hM⟩ := gd_some hM
        refine gi_icmp_ge (tgt := 35) hx hb dX11_anew_22 (by decide) hg_20.1 hg_20.2 (fun c_21 => ?_) (fun c_21 => ?_)
        · replace hM := ifp hM c_21
          cases hM
          exact hK_8 H locs ls hG (lv_sub hl [1, 2] rfl)
        · replace hM := ifn hM c_21
          refine lv_aload_n hx hb dX11_anew_25 rfl (lv_at hl 2 rfl) ?_
          obtain ⟨S_23, hc_22, hM⟩ := bd1_some hM
          refine g_vv (As := []) (rest := []) S hG hsz (vX11_takeBack l hn  hc_22) wV_11_375 (ec_0 _) cpX11 (Nat.lt_of_lt_of_le (Nat.le_of_ble_eq_true rfl) hn) dX11_anew_26 rfl hl.1 (ar := 0) (by decide +kernel) rfl ⟨Nat.le_of_ble_eq_true rfl, Nat.le_of_ble_eq_true rfl, Nat.le_of_ble_eq_true rfl, Nat.le_of_ble_eq_true rfl⟩ (Nat.le_of_ble_eq_true rfl) (fun uu H locs hp hG => ?_)
          obtain rfl := hp
          replace hG : gW D cy b n s H locs (enc b cy X S_23) := hG
          refine lv_iinc (v := iI (v_4 + 1)) (lv' := [(2, .int (iI (v_4 + 1))), (1, .int (iI x_3)), (0, .ref (b + 0))]) hx hb dX11_anew_29 hl (k := 0) rfl ((iI_add v_4 (1)).trans (congrArg iI (by omega))) (by decide) rfl (fun ls hl => ?_)
          refine lv_goto (tgt := 20) hx hb dX11_anew_32 (by decide) ?_
          exact ih_18 (v_4 + 1) S_23 H locs ls hM hG (lv_sub hl [0, 1, 2] rfl)
    exact loop_17 FU 0 S0 H locs ls hc_7 hG (lv_sub hl [0, 1, 2] rfl)
  · replace hM := ifp hM c_2
    refine lv_bipush (v := iI (-2)) hx hb dX11_anew_10 (by decide) ?_
    cases hM
    exact g_iret S hr hlk hG hsz dX11_anew_12 ⟨Nat.le_of_ble_eq_true rfl, Nat.le_of_ble_eq_true rfl⟩ ⟨rfl, rfl⟩
def mX11_told (S0 : St) (a1 : Int) : Option (Int) := gd (inI a1) <| if a1 = 0 then (some ((S0 0 17))) else (if a1 = 1 then (some ((S0 0 18))) else (some ((-1))))
set_option maxHeartbeats 4000000 in
set_option maxRecDepth 100000 in
theorem vX11_told (l : Launch) {D : va_G} {cy : Nat → ClassId} {b n : Nat} (hn : 102 ≤ n) {X : Nat → va_E} {S0 : St} (a1 : Int) {o1 : Int} (hM : mX11_told S0 a1 = some o1) : gI l yX11_told cX11_told 2 (some .int) 0 0 0 D cy b n (enc b cy X S0) [.ref (b + 0), .int (iI a1)] (fun r u => r = iI o1 ∧ u = (n, enc b cy X S0)) := by
  refine gI_of (by decide) (Nat.le_of_ble_eq_true rfl) ?_
  intro p e s m args below meth c S hr hlk hin hsz ls hl hG
  have hx := S.1
  have hb := S.2.1
  have hl : lv_has ls 2 [(0, .ref (b + 0)), (1, .int (iI a1))] := hl
  replace hG : gW D cy b n s s.heap [] (enc b cy X S0) := hG
  obtain ⟨H, eH⟩ : ∃ H, H = s.heap := ⟨_, rfl⟩
  obtain ⟨locs, elocs⟩ : ∃ locs : List Loc, locs = [] := ⟨_, rfl⟩
  rw [← eH, ← elocs] at hG
  rw [← eH, ← elocs]
  clear eH elocs
  unfold mX11_told at hM
  refine lv_iload_n hx hb dX11_told_0 rfl (lv_at hl 1 rfl) ?_
  obtain ⟨hg_1, hM⟩ := gd_some hM
  refine gi_if_ne (tgt := 9) hx hb dX11_told_1 (by decide) hg_1 (fun c_2 => ?_) (fun c_2 => ?_)
  · replace hM := ifn hM c_2
    refine lv_iload_n hx hb dX11_told_9 rfl (lv_at hl 1 rfl) ?_
    refine lv_iconst (v := iI 1) hx hb dX11_told_10 (by decide) ?_
    refine gi_icmp_ne (tgt := 21) hx hb dX11_told_11 (by decide) hg_1 (by decide) (fun c_3 => ?_) (fun c_3 => ?_)
    · replace hM := ifn hM c_3
      refine lv_iconst (v := iI (-1)) hx hb dX11_told_21 (by decide) ?_
      cases hM
      exact g_iret S hr hlk hG hsz dX11_told_22 ⟨Nat.le_of_ble_eq_true rfl, Nat.le_of_ble_eq_true rfl⟩ ⟨rfl, rfl⟩
    · replace hM := ifp hM c_3
      refine lv_aload_n hx hb dX11_told_14 rfl (lv_at hl 0 rfl) ?_
      refine m_get S hG 0 0 18 rfl ec_0 cpX11 wm_683 dX11_told_15 rfl (Nat.lt_of_lt_of_le (Nat.le_of_ble_eq_true rfl) hn) (by decide) ?_
      refine lv_goto (tgt := 22) hx hb dX11_told_18 (by decide) ?_
      cases hM
      exact g_iret S hr hlk hG hsz dX11_told_22 ⟨Nat.le_of_ble_eq_true rfl, Nat.le_of_ble_eq_true rfl⟩ ⟨rfl, rfl⟩
  · replace hM := ifp hM c_2
    refine lv_aload_n hx hb dX11_told_4 rfl (lv_at hl 0 rfl) ?_
    refine m_get S hG 0 0 17 rfl ec_0 cpX11 wm_682 dX11_told_5 rfl (Nat.lt_of_lt_of_le (Nat.le_of_ble_eq_true rfl) hn) (by decide) ?_
    cases hM
    exact g_iret S hr hlk hG hsz dX11_told_8 ⟨Nat.le_of_ble_eq_true rfl, Nat.le_of_ble_eq_true rfl⟩ ⟨rfl, rfl⟩
def mX11_listing (S0 : St) (a1 : Int) (a2 : Int) : Option (Int) := bd1 (mX11_sized S0 a1 a2) fun r_2 => gd (inI r_2) <| if r_2 = 0 then (some ((-2))) else (bd1 (mX0_thingsAt_40 S0 a1 a2) fun r_6 => gd (inL r_6) <| if r_6 ≤ 200 then (some (0)) else (some ((-3))))
set_option maxHeartbeats 4000000 in
set_option maxRecDepth 100000 in
theorem vX11_listing (l : Launch) {D : va_G} {cy : Nat → ClassId} {b n : Nat} (hn : 102 ≤ n) {X : Nat → va_E} {S0 : St} (a1 : Int) (a2 : Int) {o1 : Int} (hM : mX11_listing S0 a1 a2 = some o1) : gI l yX11_listing cX11_listing 3 (some .int) 2 0 0 D cy b n (enc b cy X S0) [.ref (b + 0), .int (iI a1), .int (iI a2)] (fun r u => r = iI o1 ∧ u = (n, enc b cy X S0)) := by
  refine gI_of (by decide) (Nat.le_of_ble_eq_true rfl) ?_
  intro p e s m args below meth c S hr hlk hin hsz ls hl hG
  have hx := S.1
  have hb := S.2.1
  have hl : lv_has ls 3 [(0, .ref (b + 0)), (1, .int (iI a1)), (2, .int (iI a2))] := hl
  replace hG : gW D cy b n s s.heap [] (enc b cy X S0) := hG
  obtain ⟨H, eH⟩ : ∃ H, H = s.heap := ⟨_, rfl⟩
  obtain ⟨locs, elocs⟩ : ∃ locs : List Loc, locs = [] := ⟨_, rfl⟩
  rw [← eH, ← elocs] at hG
  rw [← eH, ← elocs]
  clear eH elocs
  unfold mX11_listing at hM
  refine lv_aload_n hx hb dX11_listing_0 rfl (lv_at hl 0 rfl) ?_
  refine lv_iload_n hx hb dX11_listing_1 rfl (lv_at hl 1 rfl) ?_
  refine lv_iload_n hx hb dX11_listing_2 rfl (lv_at hl 2 rfl) ?_
  obtain ⟨r_2, hc_1, hM⟩ := bd1_some hM
  refine g_vi (As := [.int (iI a1), .int (iI a2)]) (rest := []) S hG hsz (vX11_sized l hn a1 a2 hc_1) wV_11_175 (ec_0 _) cpX11 (Nat.lt_of_lt_of_le (Nat.le_of_ble_eq_true rfl) hn) dX11_listing_3 rfl hl.1 (ar := 2) (by decide +kernel) rfl ⟨Nat.le_of_ble_eq_true rfl, Nat.le_of_ble_eq_true rfl, Nat.le_of_ble_eq_true rfl, Nat.le_of_ble_eq_true rfl⟩ (Nat.le_of_ble_eq_true rfl) (fun rv uu H locs hp hG => ?_)
  obtain ⟨rfl, rfl⟩ := hp
  replace hG : gW D cy b n s H locs (enc b cy X S0) := hG
  obtain ⟨hg_3, hM⟩ := gd_some hM
  refine gi_if_ne (tgt := 12) hx hb dX11_listing_6 (by decide) hg_3 (fun c_4 => ?_) (fun c_4 => ?_)
  · replace hM := ifn hM c_4
    refine lv_aload_n hx hb dX11_listing_12 rfl (lv_at hl 0 rfl) ?_
    refine m_get S hG 0 0 7 rfl ec_0 cpX11 wm_672 dX11_listing_13 rfl (Nat.lt_of_lt_of_le (Nat.le_of_ble_eq_true rfl) hn) (by decide) ?_
    refine lv_iload_n hx hb dX11_listing_16 rfl (lv_at hl 1 rfl) ?_
    refine lv_iload_n hx hb dX11_listing_17 rfl (lv_at hl 2 rfl) ?_
    obtain ⟨r_6, hc_5, hM⟩ := bd1_some hM
    refine g_vl (As := [.int (iI a1), .int (iI a2)]) (rest := []) S hG hsz (vX0_thingsAt_40 l hn a1 a2 hc_5) wV_11_206 (ec_40 _) cpX0 (Nat.lt_of_lt_of_le (Nat.le_of_ble_eq_true rfl) hn) dX11_listing_18 rfl hl.1 (ar := 2) (by decide +kernel) rfl ⟨Nat.le_of_ble_eq_true rfl, Nat.le_of_ble_eq_true rfl, Nat.le_of_ble_eq_true rfl, Nat.le_of_ble_eq_true rfl⟩ (Nat.le_of_ble_eq_true rfl) (fun rv uu H locs hp hG => ?_)
    obtain ⟨rfl, rfl⟩ := hp
    replace hG : gW D cy b n s H locs (enc b cy X S0) := hG
    refine lv_ldc2 (v := 200) hx hb S.2.2.2.1 (S.2.2.2.2 _ wm_1268) dX11_listing_21 ?_
    refine gj_as 200 (by decide) ?_
    obtain ⟨hg_7, hM⟩ := gd_some hM
    refine gj_cmp_le (tgt := 33) hx hb dX11_listing_24 dX11_listing_25 (by decide) hg_7 (by decide) (fun c_8 => ?_) (fun c_8 => ?_)
    · replace hM := ifp hM c_8
      refine lv_iconst (v := iI 0) hx hb dX11_listing_33 (by decide) ?_
      cases hM
      exact g_iret S hr hlk hG hsz dX11_listing_34 ⟨Nat.le_of_ble_eq_true rfl, Nat.le_of_ble_eq_true rfl⟩ ⟨rfl, rfl⟩
    · replace hM := ifn hM c_8
      refine lv_bipush (v := iI (-3)) hx hb dX11_listing_28 (by decide) ?_
      refine lv_goto (tgt := 34) hx hb dX11_listing_30 (by decide) ?_
      cases hM
      exact g_iret S hr hlk hG hsz dX11_listing_34 ⟨Nat.le_of_ble_eq_true rfl, Nat.le_of_ble_eq_true rfl⟩ ⟨rfl, rfl⟩
  · replace hM := ifp hM c_4
    refine lv_bipush (v := iI (-2)) hx hb dX11_listing_9 (by decide) ?_
    cases hM
    exact g_iret S hr hlk hG hsz dX11_listing_11 ⟨Nat.le_of_ble_eq_true rfl, Nat.le_of_ble_eq_true rfl⟩ ⟨rfl, rfl⟩
theorem wV_11_251 : gWV "GrownKinds" 251 yX11_listing cX11_listing 3 (some .int) := ⟨wm_1264, wm_1266, wm_55, wm_177, wm_1267, by decide +kernel, by decide +kernel⟩
theorem wS_11_326 : gWS "GrownKinds" 326 yX11_lowest cX11_lowest 7 (some .int) := ⟨wm_1577, wm_1578, wm_177, wm_1579, by decide +kernel, by decide +kernel⟩
def mX11_lowest_15 (a1 : Int) (a2 : Int) (a3 : Int) : Nat → Int → Int → Int → Option (Int)
  | 0, _, _, _ => none
  | f + 1, v_3, v_4, v_5 => gd (inI v_3) <| if 64 ≤ v_3 then (some (v_5)) else (gd (inI v_4) <| if v_4 ≤ 0 then (some (v_5)) else (gd ((0 ≤ v_5 ∧ v_5 ≤ 2147483647) ∧ (0 < v_4 ∧ v_4 ≤ 2147483647)) <| nx (v_5 % v_4) fun x_23 => mX11_lowest_15 a1 a2 a3 f (v_3 + 1) x_23 v_4))
def mX11_lowest (a1 : Int) (a2 : Int) (a3 : Int) : Option (Int) := gd (inI a2) <| if 1 ≤ a2 then (bd1 (mX11_lowest_15 a1 a2 a3 FU 0 a1 a2) fun y_6 => gd (inI y_6) <| if 1 ≤ y_6 then (gd (inI a3) <| if a3 = 0 then (gd ((0 ≤ a1 ∧ a1 ≤ 2147483647) ∧ (0 < y_6 ∧ y_6 ≤ 2147483647)) <| some ((a1 / y_6))) else (gd ((0 ≤ a2 ∧ a2 ≤ 2147483647) ∧ (0 < y_6 ∧ y_6 ≤ 2147483647)) <| some ((a2 / y_6)))) else (some ((-1)))) else (some ((-1)))
set_option maxHeartbeats 4000000 in
set_option maxRecDepth 100000 in
theorem vX11_lowest (l : Launch) {D : va_G} {cy : Nat → ClassId} {b n : Nat} (hn : 102 ≤ n) {X : Nat → va_E} {S0 : St} (a1 : Int) (a2 : Int) (a3 : Int) {o1 : Int} (hM : mX11_lowest a1 a2 a3 = some o1) : gI l yX11_lowest cX11_lowest 7 (some .int) 0 0 0 D cy b n (enc b cy X S0) [.int (iI a1), .int (iI a2), .int (iI a3)] (fun r u => r = iI o1 ∧ u = (n, enc b cy X S0)) := by
  refine gI_of (by decide) (Nat.le_of_ble_eq_true rfl) ?_
  intro p e s m args below meth c S hr hlk hin hsz ls hl hG
  have hx := S.1
  have hb := S.2.1
  have hl : lv_has ls 7 [(0, .int (iI a1)), (1, .int (iI a2)), (2, .int (iI a3))] := hl
  replace hG : gW D cy b n s s.heap [] (enc b cy X S0) := hG
  obtain ⟨H, eH⟩ : ∃ H, H = s.heap := ⟨_, rfl⟩
  obtain ⟨locs, elocs⟩ : ∃ locs : List Loc, locs = [] := ⟨_, rfl⟩
  rw [← eH, ← elocs] at hG
  rw [← eH, ← elocs]
  clear eH elocs
  unfold mX11_lowest at hM
  refine lv_iload_n hx hb dX11_lowest_0 rfl (lv_at hl 1 rfl) ?_
  refine lv_iconst (v := iI 1) hx hb dX11_lowest_1 (by decide) ?_
  obtain ⟨hg_1, hM⟩ := gd_some hM
  refine gi_icmp_ge (tgt := 7) hx hb dX11_lowest_2 (by decide) hg_1 (by decide) (fun c_2 => ?_) (fun c_2 => ?_)
  · replace hM := ifp hM c_2
    refine lv_iload_n hx hb dX11_lowest_7 rfl (lv_at hl 1 rfl) ?_
    refine lv_istore_n (lv' := [(3, .int (iI a2)), (0, .int (iI a1)), (1, .int (iI a2)), (2, .int (iI a3))]) hx hb dX11_lowest_8 rfl hl (by decide) rfl (fun ls hl => ?_)
    refine lv_iload_n hx hb dX11_lowest_9 rfl (lv_at hl 1 rfl) ?_
    refine lv_istore (lv' := [(4, .int (iI a1)), (3, .int (iI a2)), (0, .int (iI a1)), (1, .int (iI a2)), (2, .int (iI a3))]) hx hb dX11_lowest_10 hl (by decide) rfl (fun ls hl => ?_)
    refine lv_iconst (v := iI 0) hx hb dX11_lowest_12 (by decide) ?_
    refine lv_istore (lv' := [(5, .int (iI 0)), (4, .int (iI a1)), (3, .int (iI a2)), (0, .int (iI a1)), (1, .int (iI a2)), (2, .int (iI a3))]) hx hb dX11_lowest_13 hl (by decide) rfl (fun ls hl => ?_)
    obtain ⟨y_6, hc_7, hM⟩ := bd1_some hM
    have hK_8 : ∀ (H : Heap) (locs : List Loc) (ls : Array Slot), gW D cy b n s H locs (enc b cy X S0) → lv_has ls 7 [(0, .int (iI a1)), (1, .int (iI a2)), (2, .int (iI a3)), (3, .int (iI y_6))] → W p l e (gRm 0 0 0) s m args below meth c H locs 0 0 (gQI D cy b s args below 0 0 (fun r u => r = iI o1 ∧ u = (n, enc b cy X S0))) (F0 m 46 ls []) := by
      intro H locs ls hG hl
      refine lv_iload_n hx hb dX11_lowest_46 rfl (lv_at hl 3 rfl) ?_
      refine lv_iconst (v := iI 1) hx hb dX11_lowest_47 (by decide) ?_
      obtain ⟨hg_9, hM⟩ := gd_some hM
      refine gi_icmp_ge (tgt := 55) hx hb dX11_lowest_48 (by decide) hg_9 (by decide) (fun c_10 => ?_) (fun c_10 => ?_)
      · replace hM := ifp hM c_10
        refine lv_iload_n hx hb dX11_lowest_55 rfl (lv_at hl 2 rfl) ?_
        obtain ⟨hg_11, hM⟩ := gd_some hM
        refine gi_if_ne (tgt := 63) hx hb dX11_lowest_56 (by decide) hg_11 (fun c_12 => ?_) (fun c_12 => ?_)
        · replace hM := ifn hM c_12
          refine lv_iload_n hx hb dX11_lowest_63 rfl (lv_at hl 1 rfl) ?_
          refine lv_iload_n hx hb dX11_lowest_64 rfl (lv_at hl 3 rfl) ?_
          obtain ⟨hg_13, hM⟩ := gd_some hM
          refine gi_div hx hb dX11_lowest_65 hg_13.1 hg_13.2 ?_
          cases hM
          exact g_iret S hr hlk hG hsz dX11_lowest_66 ⟨Nat.le_of_ble_eq_true rfl, Nat.le_of_ble_eq_true rfl⟩ ⟨rfl, rfl⟩
        · replace hM := ifp hM c_12
          refine lv_iload_n hx hb dX11_lowest_59 rfl (lv_at hl 0 rfl) ?_
          refine lv_goto (tgt := 64) hx hb dX11_lowest_60 (by decide) ?_
          refine lv_iload_n hx hb dX11_lowest_64 rfl (lv_at hl 3 rfl) ?_
          obtain ⟨hg_14, hM⟩ := gd_some hM
          refine gi_div hx hb dX11_lowest_65 hg_14.1 hg_14.2 ?_
          cases hM
          exact g_iret S hr hlk hG hsz dX11_lowest_66 ⟨Nat.le_of_ble_eq_true rfl, Nat.le_of_ble_eq_true rfl⟩ ⟨rfl, rfl⟩
      · replace hM := ifn hM c_10
        refine lv_iconst (v := iI (-1)) hx hb dX11_lowest_51 (by decide) ?_
        refine lv_goto (tgt := 66) hx hb dX11_lowest_52 (by decide) ?_
        cases hM
        exact g_iret S hr hlk hG hsz dX11_lowest_66 ⟨Nat.le_of_ble_eq_true rfl, Nat.le_of_ble_eq_true rfl⟩ ⟨rfl, rfl⟩
    have loop_15 : ∀ (f : Nat) (v_3 : Int) (v_4 : Int) (v_5 : Int) (H : Heap) (locs : List Loc) (ls : Array Slot), mX11_lowest_15 a1 a2 a3 f v_3 v_4 v_5 = some y_6 → gW D cy b n s H locs (enc b cy X S0) → lv_has ls 7 [(5, .int (iI v_3)), (4, .int (iI v_4)), (3, .int (iI v_5)), (0, .int (iI a1)), (1, .int (iI a2)), (2, .int (iI a3))] → W p l e (gRm 0 0 0) s m args below meth c H locs 0 0 (gQI D cy b s args below 0 0 (fun r u => r = iI o1 ∧ u = (n, enc b cy X S0))) (F0 m 15 ls []) := by
      clear hM
      intro f
      induction f with
      | zero => intro v_3 v_4 v_5 H locs ls hM; rw [mX11_lowest_15] at hM; cases hM
      | succ f_17 ih_16 =>
        intro v_3 v_4 v_5 H locs ls hM hG hl
        rw [mX11_lowest_15] at hM
        refine lv_iload hx hb dX11_lowest_15 (lv_at hl 0 rfl) ?_
        refine lv_bipush (v := iI 64) hx hb dX11_lowest_17 (by decide) ?_
        obtain ⟨hg_18, hM⟩ := gd_some hM
        refine gi_icmp_ge (tgt := 46) hx hb dX11_lowest_19 (by decide) hg_18 (by decide) (fun c_19 => ?_) (fun c_19 => ?_)
        · replace hM := ifp hM c_19
          cases hM
          exact hK_8 H locs ls hG (lv_sub hl [3, 4, 5, 2] rfl)
        · replace hM := ifn hM c_19
          refine lv_iload hx hb dX11_lowest_22 (lv_at hl 1 rfl) ?_
          obtain ⟨hg_20, hM⟩ := gd_some hM
          refine gi_if_le (tgt := 46) hx hb dX11_lowest_24 (by decide) hg_20 (fun c_21 => ?_) (fun c_21 => ?_)
          · replace hM := ifp hM c_21
            cases hM
            exact hK_8 H locs ls hG (lv_sub hl [3, 4, 5, 2] rfl)
          · replace hM := ifn hM c_21
            refine lv_iload_n hx hb dX11_lowest_27 rfl (lv_at hl 2 rfl) ?_
            refine lv_iload hx hb dX11_lowest_28 (lv_at hl 1 rfl) ?_
            obtain ⟨hg_22, hM⟩ := gd_some hM
            refine gi_rem hx hb dX11_lowest_30 hg_22.1 hg_22.2 ?_
            refine gi_nm (fun x_23 ex_23 => ?_)
            replace hM := nx_at hM ex_23
            clear ex_23
            refine lv_istore (lv' := [(6, .int (iI x_23)), (5, .int (iI v_3)), (4, .int (iI v_4)), (3, .int (iI v_5)), (0, .int (iI a1)), (1, .int (iI a2)), (2, .int (iI a3))]) hx hb dX11_lowest_31 hl (by decide) rfl (fun ls hl => ?_)
            refine lv_iload hx hb dX11_lowest_33 (lv_at hl 2 rfl) ?_
            refine lv_istore_n (lv' := [(3, .int (iI v_4)), (6, .int (iI x_23)), (5, .int (iI v_3)), (4, .int (iI v_4)), (0, .int (iI a1)), (1, .int (iI a2)), (2, .int (iI a3))]) hx hb dX11_lowest_35 rfl hl (by decide) rfl (fun ls hl => ?_)
            refine lv_iload hx hb dX11_lowest_36 (lv_at hl 1 rfl) ?_
            refine lv_istore (lv' := [(4, .int (iI x_23)), (3, .int (iI v_4)), (6, .int (iI x_23)), (5, .int (iI v_3)), (0, .int (iI a1)), (1, .int (iI a2)), (2, .int (iI a3))]) hx hb dX11_lowest_38 hl (by decide) rfl (fun ls hl => ?_)
            refine lv_iinc (v := iI (v_3 + 1)) (lv' := [(5, .int (iI (v_3 + 1))), (4, .int (iI x_23)), (3, .int (iI v_4)), (6, .int (iI x_23)), (0, .int (iI a1)), (1, .int (iI a2)), (2, .int (iI a3))]) hx hb dX11_lowest_40 hl (k := 3) rfl ((iI_add v_3 (1)).trans (congrArg iI (by omega))) (by decide) rfl (fun ls hl => ?_)
            refine lv_goto (tgt := 15) hx hb dX11_lowest_43 (by decide) ?_
            exact ih_16 (v_3 + 1) x_23 v_4 H locs ls hM hG (lv_sub hl [0, 1, 2, 4, 5, 6] rfl)
    exact loop_15 FU 0 a1 a2 H locs ls hc_7 hG (lv_sub hl [0, 1, 2, 3, 4, 5] rfl)
  · replace hM := ifn hM c_2
    refine lv_iconst (v := iI (-1)) hx hb dX11_lowest_5 (by decide) ?_
    cases hM
    exact g_iret S hr hlk hG hsz dX11_lowest_6 ⟨Nat.le_of_ble_eq_true rfl, Nat.le_of_ble_eq_true rfl⟩ ⟨rfl, rfl⟩
def mX11_chance (S0 : St) (a1 : Int) (a2 : Int) (a3 : Int) (a4 : Int) : Option (Int) := bd1 (mX11_termed S0 a1 a3) fun r_2 => gd (inI r_2) <| if r_2 = 0 then (some ((-2))) else (gd (inI a4) <| if a4 < 0 then (some ((-2))) else (if a4 ≤ 1 then (bd1 (mX11_listing S0 a1 a2) fun r_9 => gd (inI r_9) <| if r_9 = 0 then (bd1 (mX0_byTerm_40 S0 a1 a3 a2) fun r_13 => bd1 (mX0_thingsAt_40 S0 a1 a2) fun r_15 => bd1 (mX11_lowest r_13 r_15 a4) fun r_17 => some (r_17)) else (some (r_9))) else (some ((-2)))))
set_option maxHeartbeats 4000000 in
set_option maxRecDepth 100000 in
theorem vX11_chance (l : Launch) {D : va_G} {cy : Nat → ClassId} {b n : Nat} (hn : 102 ≤ n) {X : Nat → va_E} {S0 : St} (a1 : Int) (a2 : Int) (a3 : Int) (a4 : Int) {o1 : Int} (hM : mX11_chance S0 a1 a2 a3 a4 = some o1) : gI l yX11_chance cX11_chance 6 (some .int) 3 0 0 D cy b n (enc b cy X S0) [.ref (b + 0), .int (iI a1), .int (iI a2), .int (iI a3), .int (iI a4)] (fun r u => r = iI o1 ∧ u = (n, enc b cy X S0)) := by
  refine gI_of (by decide) (Nat.le_of_ble_eq_true rfl) ?_
  intro p e s m args below meth c S hr hlk hin hsz ls hl hG
  have hx := S.1
  have hb := S.2.1
  have hl : lv_has ls 6 [(0, .ref (b + 0)), (1, .int (iI a1)), (2, .int (iI a2)), (3, .int (iI a3)), (4, .int (iI a4))] := hl
  replace hG : gW D cy b n s s.heap [] (enc b cy X S0) := hG
  obtain ⟨H, eH⟩ : ∃ H, H = s.heap := ⟨_, rfl⟩
  obtain ⟨locs, elocs⟩ : ∃ locs : List Loc, locs = [] := ⟨_, rfl⟩
  rw [← eH, ← elocs] at hG
  rw [← eH, ← elocs]
  clear eH elocs
  unfold mX11_chance at hM
  refine lv_aload_n hx hb dX11_chance_0 rfl (lv_at hl 0 rfl) ?_
  refine lv_iload_n hx hb dX11_chance_1 rfl (lv_at hl 1 rfl) ?_
  refine lv_iload_n hx hb dX11_chance_2 rfl (lv_at hl 3 rfl) ?_
  obtain ⟨r_2, hc_1, hM⟩ := bd1_some hM
  refine g_vi (As := [.int (iI a1), .int (iI a3)]) (rest := []) S hG hsz (vX11_termed l hn a1 a3 hc_1) wV_11_228 (ec_0 _) cpX11 (Nat.lt_of_lt_of_le (Nat.le_of_ble_eq_true rfl) hn) dX11_chance_3 rfl hl.1 (ar := 2) (by decide +kernel) rfl ⟨Nat.le_of_ble_eq_true rfl, Nat.le_of_ble_eq_true rfl, Nat.le_of_ble_eq_true rfl, Nat.le_of_ble_eq_true rfl⟩ (Nat.le_of_ble_eq_true rfl) (fun rv uu H locs hp hG => ?_)
  obtain ⟨rfl, rfl⟩ := hp
  replace hG : gW D cy b n s H locs (enc b cy X S0) := hG
  obtain ⟨hg_3, hM⟩ := gd_some hM
  refine gi_if_eq (tgt := 20) hx hb dX11_chance_6 (by decide) hg_3 (fun c_4 => ?_) (fun c_4 => ?_)
  · replace hM := ifp hM c_4
    refine lv_bipush (v := iI (-2)) hx hb dX11_chance_20 (by decide) ?_
    cases hM
    exact g_iret S hr hlk hG hsz dX11_chance_22 ⟨Nat.le_of_ble_eq_true rfl, Nat.le_of_ble_eq_true rfl⟩ ⟨rfl, rfl⟩
  · replace hM := ifn hM c_4
    refine lv_iload hx hb dX11_chance_9 (lv_at hl 4 rfl) ?_
    obtain ⟨hg_5, hM⟩ := gd_some hM
    refine gi_if_lt (tgt := 20) hx hb dX11_chance_11 (by decide) hg_5 (fun c_6 => ?_) (fun c_6 => ?_)
    · replace hM := ifp hM c_6
      refine lv_bipush (v := iI (-2)) hx hb dX11_chance_20 (by decide) ?_
      cases hM
      exact g_iret S hr hlk hG hsz dX11_chance_22 ⟨Nat.le_of_ble_eq_true rfl, Nat.le_of_ble_eq_true rfl⟩ ⟨rfl, rfl⟩
    · replace hM := ifn hM c_6
      refine lv_iload hx hb dX11_chance_14 (lv_at hl 4 rfl) ?_
      refine lv_iconst (v := iI 1) hx hb dX11_chance_16 (by decide) ?_
      refine gi_icmp_le (tgt := 23) hx hb dX11_chance_17 (by decide) hg_5 (by decide) (fun c_7 => ?_) (fun c_7 => ?_)
      · replace hM := ifp hM c_7
        refine lv_aload_n hx hb dX11_chance_23 rfl (lv_at hl 0 rfl) ?_
        refine lv_iload_n hx hb dX11_chance_24 rfl (lv_at hl 1 rfl) ?_
        refine lv_iload_n hx hb dX11_chance_25 rfl (lv_at hl 2 rfl) ?_
        obtain ⟨r_9, hc_8, hM⟩ := bd1_some hM
        refine g_vi (As := [.int (iI a1), .int (iI a2)]) (rest := []) S hG hsz (vX11_listing l hn a1 a2 hc_8) wV_11_251 (ec_0 _) cpX11 (Nat.lt_of_lt_of_le (Nat.le_of_ble_eq_true rfl) hn) dX11_chance_26 rfl hl.1 (ar := 2) (by decide +kernel) rfl ⟨Nat.le_of_ble_eq_true rfl, Nat.le_of_ble_eq_true rfl, Nat.le_of_ble_eq_true rfl, Nat.le_of_ble_eq_true rfl⟩ (Nat.le_of_ble_eq_true rfl) (fun rv uu H locs hp hG => ?_)
        obtain ⟨rfl, rfl⟩ := hp
        replace hG : gW D cy b n s H locs (enc b cy X S0) := hG
        refine lv_istore (lv' := [(5, .int (iI r_9)), (0, .ref (b + 0)), (1, .int (iI a1)), (2, .int (iI a2)), (3, .int (iI a3)), (4, .int (iI a4))]) hx hb dX11_chance_29 hl (by decide) rfl (fun ls hl => ?_)
        refine lv_iload hx hb dX11_chance_31 (lv_at hl 0 rfl) ?_
        obtain ⟨hg_10, hM⟩ := gd_some hM
        refine gi_if_eq (tgt := 39) hx hb dX11_chance_33 (by decide) hg_10 (fun c_11 => ?_) (fun c_11 => ?_)
        · replace hM := ifp hM c_11
          refine lv_aload_n hx hb dX11_chance_39 rfl (lv_at hl 1 rfl) ?_
          refine m_get S hG 0 0 7 rfl ec_0 cpX11 wm_672 dX11_chance_40 rfl (Nat.lt_of_lt_of_le (Nat.le_of_ble_eq_true rfl) hn) (by decide) ?_
          refine lv_iload_n hx hb dX11_chance_43 rfl (lv_at hl 2 rfl) ?_
          refine lv_iload_n hx hb dX11_chance_44 rfl (lv_at hl 4 rfl) ?_
          refine lv_iload_n hx hb dX11_chance_45 rfl (lv_at hl 3 rfl) ?_
          obtain ⟨r_13, hc_12, hM⟩ := bd1_some hM
          refine g_vl (As := [.int (iI a1), .int (iI a3), .int (iI a2)]) (rest := []) S hG hsz (vX0_byTerm_40 l hn a1 a3 a2 hc_12) wV_11_231 (ec_40 _) cpX0 (Nat.lt_of_lt_of_le (Nat.le_of_ble_eq_true rfl) hn) dX11_chance_46 rfl hl.1 (ar := 3) (by decide +kernel) rfl ⟨Nat.le_of_ble_eq_true rfl, Nat.le_of_ble_eq_true rfl, Nat.le_of_ble_eq_true rfl, Nat.le_of_ble_eq_true rfl⟩ (Nat.le_of_ble_eq_true rfl) (fun rv uu H locs hp hG => ?_)
          obtain ⟨rfl, rfl⟩ := hp
          replace hG : gW D cy b n s H locs (enc b cy X S0) := hG
          refine gj_l2i hx hb dX11_chance_49 ?_
          refine lv_aload_n hx hb dX11_chance_50 rfl (lv_at hl 1 rfl) ?_
          refine m_get S hG 0 0 7 rfl ec_0 cpX11 wm_672 dX11_chance_51 rfl (Nat.lt_of_lt_of_le (Nat.le_of_ble_eq_true rfl) hn) (by decide) ?_
          refine lv_iload_n hx hb dX11_chance_54 rfl (lv_at hl 2 rfl) ?_
          refine lv_iload_n hx hb dX11_chance_55 rfl (lv_at hl 3 rfl) ?_
          obtain ⟨r_15, hc_14, hM⟩ := bd1_some hM
          refine g_vl (As := [.int (iI a1), .int (iI a2)]) (rest := [.int (iI r_13)]) S hG hsz (vX0_thingsAt_40 l hn a1 a2 hc_14) wV_11_206 (ec_40 _) cpX0 (Nat.lt_of_lt_of_le (Nat.le_of_ble_eq_true rfl) hn) dX11_chance_56 rfl hl.1 (ar := 2) (by decide +kernel) rfl ⟨Nat.le_of_ble_eq_true rfl, Nat.le_of_ble_eq_true rfl, Nat.le_of_ble_eq_true rfl, Nat.le_of_ble_eq_true rfl⟩ (Nat.le_of_ble_eq_true rfl) (fun rv uu H locs hp hG => ?_)
          obtain ⟨rfl, rfl⟩ := hp
          replace hG : gW D cy b n s H locs (enc b cy X S0) := hG
          refine gj_l2i hx hb dX11_chance_59 ?_
          refine lv_iload hx hb dX11_chance_60 (lv_at hl 5 rfl) ?_
          obtain ⟨r_17, hc_16, hM⟩ := bd1_some hM
          refine g_si (As := [.int (iI r_13), .int (iI r_15), .int (iI a4)]) (rest := []) S hG hsz (vX11_lowest l hn r_13 r_15 a4 hc_16) wS_11_326 dX11_chance_62 rfl hl.1 (ar := 3) (by decide +kernel) rfl ⟨Nat.le_of_ble_eq_true rfl, Nat.le_of_ble_eq_true rfl, Nat.le_of_ble_eq_true rfl, Nat.le_of_ble_eq_true rfl⟩ (Nat.le_of_ble_eq_true rfl) (fun rv uu H locs hp hG => ?_)
          obtain ⟨rfl, rfl⟩ := hp
          replace hG : gW D cy b n s H locs (enc b cy X S0) := hG
          cases hM
          exact g_iret S hr hlk hG hsz dX11_chance_65 ⟨Nat.le_of_ble_eq_true rfl, Nat.le_of_ble_eq_true rfl⟩ ⟨rfl, rfl⟩
        · replace hM := ifn hM c_11
          refine lv_iload hx hb dX11_chance_36 (lv_at hl 0 rfl) ?_
          cases hM
          exact g_iret S hr hlk hG hsz dX11_chance_38 ⟨Nat.le_of_ble_eq_true rfl, Nat.le_of_ble_eq_true rfl⟩ ⟨rfl, rfl⟩
      · replace hM := ifn hM c_7
        refine lv_bipush (v := iI (-2)) hx hb dX11_chance_20 (by decide) ?_
        cases hM
        exact g_iret S hr hlk hG hsz dX11_chance_22 ⟨Nat.le_of_ble_eq_true rfl, Nat.le_of_ble_eq_true rfl⟩ ⟨rfl, rfl⟩
