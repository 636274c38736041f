theorem dX11_putFour_0 : decode cX11_putFour 0 = .ok (.bipush 24, 2) := by decide +kernel
theorem dX11_putFour_2 : decode cX11_putFour 2 = .ok (.istore_n 2, 1) := by decide +kernel
theorem dX11_putFour_3 : decode cX11_putFour 3 = .ok (.iload_n 2, 1) := by decide +kernel
theorem dX11_putFour_4 : decode cX11_putFour 4 = .ok (.ifCond .lt 42, 3) := by decide +kernel
theorem dX11_putFour_7 : decode cX11_putFour 7 = .ok (.aload_n 0, 1) := by decide +kernel
theorem dX11_putFour_8 : decode cX11_putFour 8 = .ok (.getfield 13, 3) := by decide +kernel
theorem dX11_putFour_11 : decode cX11_putFour 11 = .ok (.sipush 400, 3) := by decide +kernel
theorem dX11_putFour_14 : decode cX11_putFour 14 = .ok (.if_icmp .ge 32, 3) := by decide +kernel
theorem dX11_putFour_17 : decode cX11_putFour 17 = .ok (.aload_n 0, 1) := by decide +kernel
theorem dX11_putFour_18 : decode cX11_putFour 18 = .ok (.getfield 9, 3) := by decide +kernel
theorem dX11_putFour_21 : decode cX11_putFour 21 = .ok (.aload_n 0, 1) := by decide +kernel
theorem dX11_putFour_22 : decode cX11_putFour 22 = .ok (.getfield 13, 3) := by decide +kernel
theorem dX11_putFour_25 : decode cX11_putFour 25 = .ok (.iload_n 1, 1) := by decide +kernel
theorem dX11_putFour_26 : decode cX11_putFour 26 = .ok (.iload_n 2, 1) := by decide +kernel
theorem dX11_putFour_27 : decode cX11_putFour 27 = .ok (.iushr, 1) := by decide +kernel
theorem dX11_putFour_28 : decode cX11_putFour 28 = .ok (.i2b, 1) := by decide +kernel
theorem dX11_putFour_29 : decode cX11_putFour 29 = .ok (.bastore, 1) := by decide +kernel
theorem dX11_putFour_30 : decode cX11_putFour 30 = .ok (.aload_n 0, 1) := by decide +kernel
theorem dX11_putFour_31 : decode cX11_putFour 31 = .ok (.dup, 1) := by decide +kernel
theorem dX11_putFour_32 : decode cX11_putFour 32 = .ok (.getfield 13, 3) := by decide +kernel
theorem dX11_putFour_35 : decode cX11_putFour 35 = .ok (.iconst 1, 1) := by decide +kernel
theorem dX11_putFour_36 : decode cX11_putFour 36 = .ok (.iadd, 1) := by decide +kernel
theorem dX11_putFour_37 : decode cX11_putFour 37 = .ok (.putfield 13, 3) := by decide +kernel
theorem dX11_putFour_40 : decode cX11_putFour 40 = .ok (.iinc 2 (-8), 3) := by decide +kernel
theorem dX11_putFour_43 : decode cX11_putFour 43 = .ok (.goto (-40), 3) := by decide +kernel
theorem dX11_putFour_46 : decode cX11_putFour 46 = .ok (.return_, 1) := by decide +kernel
theorem dX11_feed_0 : decode cX11_feed 0 = .ok (.aload_n 0, 1) := by decide +kernel
theorem dX11_feed_1 : decode cX11_feed 1 = .ok (.getfield 13, 3) := by decide +kernel
theorem dX11_feed_4 : decode cX11_feed 4 = .ok (.bipush 20, 2) := by decide +kernel
theorem dX11_feed_6 : decode cX11_feed 6 = .ok (.iadd, 1) := by decide +kernel
theorem dX11_feed_7 : decode cX11_feed 7 = .ok (.sipush 400, 3) := by decide +kernel
theorem dX11_feed_10 : decode cX11_feed 10 = .ok (.if_icmp .le 5, 3) := by decide +kernel
theorem dX11_feed_15 : decode cX11_feed 15 = .ok (.aload_n 0, 1) := by decide +kernel
theorem dX11_feed_16 : decode cX11_feed 16 = .ok (.iload_n 1, 1) := by decide +kernel
theorem dX11_feed_17 : decode cX11_feed 17 = .ok (.invokevirtual 120, 3) := by decide +kernel
theorem wm_728 : (Jvm.Cond.methodLink "GrownKinds" (120 : Nat) ({ cls := "GrownKinds", name := "putFour", desc := "(I)V" } : Jvm.MethodName)) ∈ gT := gT_in (List.mem_of_getElem? (i := 728) (by decide +kernel)) (by decide +kernel)
theorem wm_730 : (Jvm.Cond.instanceMethod ({ cls := "GrownKinds", name := "putFour", desc := "(I)V" } : Jvm.MethodName)) ∈ gT := gT_in (List.mem_of_getElem? (i := 730) (by decide +kernel)) (by decide +kernel)
theorem wm_0 : Cond.selects "GrownKinds" ⟨"GrownKinds", "putFour", "(I)V"⟩ ⟨"GrownKinds", "putFour", "(I)V"⟩ ∈ gT := gT_in (List.mem_of_getElem? (i := 0) (by decide +kernel)) (by decide +kernel)
theorem wm_731 : (Jvm.Cond.code ({ cls := "GrownKinds", name := "putFour", desc := "(I)V" } : Jvm.MethodName) prog_1_method_3_code (3 : Nat) (Option.none : Option Jvm.ClassFile.FieldType)) ∈ gT := gT_in (List.mem_of_getElem? (i := 731) (by decide +kernel)) (by decide +kernel)
theorem dX11_feed_20 : decode cX11_feed 20 = .ok (.aload_n 0, 1) := by decide +kernel
theorem dX11_feed_21 : decode cX11_feed 21 = .ok (.iload_n 2, 1) := by decide +kernel
theorem dX11_feed_22 : decode cX11_feed 22 = .ok (.invokevirtual 120, 3) := by decide +kernel
theorem dX11_feed_25 : decode cX11_feed 25 = .ok (.aload_n 0, 1) := by decide +kernel
theorem dX11_feed_26 : decode cX11_feed 26 = .ok (.iload_n 3, 1) := by decide +kernel
theorem dX11_feed_27 : decode cX11_feed 27 = .ok (.invokevirtual 120, 3) := by decide +kernel
theorem dX11_feed_30 : decode cX11_feed 30 = .ok (.aload_n 0, 1) := by decide +kernel
theorem dX11_feed_31 : decode cX11_feed 31 = .ok (.iload 4, 2) := by decide +kernel
theorem dX11_feed_33 : decode cX11_feed 33 = .ok (.invokevirtual 120, 3) := by decide +kernel
theorem dX11_feed_36 : decode cX11_feed 36 = .ok (.aload_n 0, 1) := by decide +kernel
theorem dX11_feed_37 : decode cX11_feed 37 = .ok (.iload 5, 2) := by decide +kernel
theorem dX11_feed_39 : decode cX11_feed 39 = .ok (.invokevirtual 120, 3) := by decide +kernel
theorem dX11_feed_42 : decode cX11_feed 42 = .ok (.aload_n 0, 1) := by decide +kernel
theorem dX11_feed_43 : decode cX11_feed 43 = .ok (.getfield 13, 3) := by decide +kernel
theorem dX11_feed_46 : decode cX11_feed 46 = .ok (.ireturn, 1) := by decide +kernel
theorem dX12_feed_0 : decode cX12_feed 0 = .ok (.aload_n 0, 1) := by decide +kernel
theorem dX12_feed_1 : decode cX12_feed 1 = .ok (.getfield 94, 3) := by decide +kernel
theorem dX12_feed_4 : decode cX12_feed 4 = .ok (.sipush 380, 3) := by decide +kernel
theorem dX12_feed_7 : decode cX12_feed 7 = .ok (.if_icmp .le 5, 3) := by decide +kernel
theorem dX12_feed_12 : decode cX12_feed 12 = .ok (.iconst 5, 1) := by decide +kernel
theorem dX12_feed_13 : decode cX12_feed 13 = .ok (.newarray .int, 2) := by decide +kernel
theorem dX12_feed_15 : decode cX12_feed 15 = .ok (.dup, 1) := by decide +kernel
theorem dX12_feed_16 : decode cX12_feed 16 = .ok (.iconst 0, 1) := by decide +kernel
theorem dX12_feed_17 : decode cX12_feed 17 = .ok (.iload_n 1, 1) := by decide +kernel
theorem dX12_feed_18 : decode cX12_feed 18 = .ok (.iastore, 1) := by decide +kernel
theorem dX12_feed_19 : decode cX12_feed 19 = .ok (.dup, 1) := by decide +kernel
theorem dX12_feed_20 : decode cX12_feed 20 = .ok (.iconst 1, 1) := by decide +kernel
theorem dX12_feed_21 : decode cX12_feed 21 = .ok (.iload_n 2, 1) := by decide +kernel
theorem dX12_feed_22 : decode cX12_feed 22 = .ok (.iastore, 1) := by decide +kernel
theorem dX12_feed_23 : decode cX12_feed 23 = .ok (.dup, 1) := by decide +kernel
theorem dX12_feed_24 : decode cX12_feed 24 = .ok (.iconst 2, 1) := by decide +kernel
theorem dX12_feed_25 : decode cX12_feed 25 = .ok (.iload_n 3, 1) := by decide +kernel
theorem dX12_feed_26 : decode cX12_feed 26 = .ok (.iastore, 1) := by decide +kernel
theorem dX12_feed_27 : decode cX12_feed 27 = .ok (.dup, 1) := by decide +kernel
theorem dX12_feed_28 : decode cX12_feed 28 = .ok (.iconst 3, 1) := by decide +kernel
theorem dX12_feed_29 : decode cX12_feed 29 = .ok (.iload 4, 2) := by decide +kernel
theorem dX12_feed_31 : decode cX12_feed 31 = .ok (.iastore, 1) := by decide +kernel
theorem dX12_feed_32 : decode cX12_feed 32 = .ok (.dup, 1) := by decide +kernel
theorem dX12_feed_33 : decode cX12_feed 33 = .ok (.iconst 4, 1) := by decide +kernel
theorem dX12_feed_34 : decode cX12_feed 34 = .ok (.iload 5, 2) := by decide +kernel
theorem dX12_feed_36 : decode cX12_feed 36 = .ok (.iastore, 1) := by decide +kernel
theorem dX12_feed_37 : decode cX12_feed 37 = .ok (.astore 6, 2) := by decide +kernel
theorem dX12_feed_39 : decode cX12_feed 39 = .ok (.iconst 0, 1) := by decide +kernel
theorem dX12_feed_40 : decode cX12_feed 40 = .ok (.istore 7, 2) := by decide +kernel
theorem dX12_feed_42 : decode cX12_feed 42 = .ok (.iload 7, 2) := by decide +kernel
theorem dX12_feed_44 : decode cX12_feed 44 = .ok (.bipush 20, 2) := by decide +kernel
theorem dX12_feed_46 : decode cX12_feed 46 = .ok (.if_icmp .ge 43, 3) := by decide +kernel
theorem dX12_feed_49 : decode cX12_feed 49 = .ok (.aload_n 0, 1) := by decide +kernel
theorem dX12_feed_50 : decode cX12_feed 50 = .ok (.getfield 22, 3) := by decide +kernel
theorem dX12_feed_53 : decode cX12_feed 53 = .ok (.aload_n 0, 1) := by decide +kernel
theorem dX12_feed_54 : decode cX12_feed 54 = .ok (.getfield 94, 3) := by decide +kernel
theorem dX12_feed_57 : decode cX12_feed 57 = .ok (.iload 7, 2) := by decide +kernel
theorem dX12_feed_59 : decode cX12_feed 59 = .ok (.iadd, 1) := by decide +kernel
theorem dX12_feed_60 : decode cX12_feed 60 = .ok (.aload 6, 2) := by decide +kernel
theorem dX12_feed_62 : decode cX12_feed 62 = .ok (.iload 7, 2) := by decide +kernel
theorem dX12_feed_64 : decode cX12_feed 64 = .ok (.iconst 4, 1) := by decide +kernel
theorem dX12_feed_65 : decode cX12_feed 65 = .ok (.idiv, 1) := by decide +kernel
theorem dX12_feed_66 : decode cX12_feed 66 = .ok (.iaload, 1) := by decide +kernel
theorem dX12_feed_67 : decode cX12_feed 67 = .ok (.bipush 24, 2) := by decide +kernel
theorem dX12_feed_69 : decode cX12_feed 69 = .ok (.bipush 8, 2) := by decide +kernel
theorem dX12_feed_71 : decode cX12_feed 71 = .ok (.iload 7, 2) := by decide +kernel
theorem dX12_feed_73 : decode cX12_feed 73 = .ok (.iconst 4, 1) := by decide +kernel
theorem dX12_feed_74 : decode cX12_feed 74 = .ok (.irem, 1) := by decide +kernel
theorem dX12_feed_75 : decode cX12_feed 75 = .ok (.imul, 1) := by decide +kernel
theorem dX12_feed_76 : decode cX12_feed 76 = .ok (.isub, 1) := by decide +kernel
theorem dX12_feed_77 : decode cX12_feed 77 = .ok (.iushr, 1) := by decide +kernel
theorem dX12_feed_78 : decode cX12_feed 78 = .ok (.sipush 255, 3) := by decide +kernel
theorem dX12_feed_81 : decode cX12_feed 81 = .ok (.iand, 1) := by decide +kernel
theorem dX12_feed_82 : decode cX12_feed 82 = .ok (.iastore, 1) := by decide +kernel
theorem dX12_feed_83 : decode cX12_feed 83 = .ok (.iinc 7 1, 3) := by decide +kernel
theorem dX12_feed_86 : decode cX12_feed 86 = .ok (.goto (-44), 3) := by decide +kernel
theorem dX12_feed_89 : decode cX12_feed 89 = .ok (.aload_n 0, 1) := by decide +kernel
theorem dX12_feed_90 : decode cX12_feed 90 = .ok (.dup, 1) := by decide +kernel
theorem dX12_feed_91 : decode cX12_feed 91 = .ok (.getfield 94, 3) := by decide +kernel
theorem dX12_feed_94 : decode cX12_feed 94 = .ok (.bipush 20, 2) := by decide +kernel
theorem dX12_feed_96 : decode cX12_feed 96 = .ok (.iadd, 1) := by decide +kernel
theorem dX12_feed_97 : decode cX12_feed 97 = .ok (.putfield 94, 3) := by decide +kernel
theorem dX12_feed_100 : decode cX12_feed 100 = .ok (.aload_n 0, 1) := by decide +kernel
theorem dX12_feed_101 : decode cX12_feed 101 = .ok (.getfield 94, 3) := by decide +kernel
theorem dX12_feed_104 : decode cX12_feed 104 = .ok (.ireturn, 1) := by decide +kernel
theorem dX2_clear_0 : decode cX2_clear 0 = .ok (.aload_n 0, 1) := by decide +kernel
theorem dX2_clear_1 : decode cX2_clear 1 = .ok (.iconst 0, 1) := by decide +kernel
theorem dX2_clear_2 : decode cX2_clear 2 = .ok (.putfield 9, 3) := by decide +kernel
theorem dX2_clear_5 : decode cX2_clear 5 = .ok (.aload_n 0, 1) := by decide +kernel
theorem dX2_clear_6 : decode cX2_clear 6 = .ok (.iconst 0, 1) := by decide +kernel
theorem dX2_clear_7 : decode cX2_clear 7 = .ok (.putfield 15, 3) := by decide +kernel
theorem dX2_clear_10 : decode cX2_clear 10 = .ok (.aload_n 0, 1) := by decide +kernel
theorem dX2_clear_11 : decode cX2_clear 11 = .ok (.iconst 0, 1) := by decide +kernel
theorem dX2_clear_12 : decode cX2_clear 12 = .ok (.putfield 18, 3) := by decide +kernel
theorem dX2_clear_15 : decode cX2_clear 15 = .ok (.aload_n 0, 1) := by decide +kernel
theorem dX2_clear_16 : decode cX2_clear 16 = .ok (.iconst 0, 1) := by decide +kernel
theorem dX2_clear_17 : decode cX2_clear 17 = .ok (.putfield 21, 3) := by decide +kernel
theorem dX2_clear_20 : decode cX2_clear 20 = .ok (.aload_n 0, 1) := by decide +kernel
theorem dX2_clear_21 : decode cX2_clear 21 = .ok (.iconst 0, 1) := by decide +kernel
theorem dX2_clear_22 : decode cX2_clear 22 = .ok (.putfield 24, 3) := by decide +kernel
theorem dX2_clear_25 : decode cX2_clear 25 = .ok (.aload_n 0, 1) := by decide +kernel
theorem dX2_clear_26 : decode cX2_clear 26 = .ok (.getfield 43, 3) := by decide +kernel
theorem dX2_clear_29 : decode cX2_clear 29 = .ok (.iconst 0, 1) := by decide +kernel
theorem dX2_clear_30 : decode cX2_clear 30 = .ok (.invokestatic 55, 3) := by decide +kernel
theorem wm_748 : (Jvm.Cond.methodLink "GrownKinds$Grammar" (55 : Nat) ({ cls := "java/util/Arrays", name := "fill", desc := "([II)V" } : Jvm.MethodName)) ∈ gT := gT_in (List.mem_of_getElem? (i := 748) (by decide +kernel)) (by decide +kernel)
theorem wm_749 : (Jvm.Cond.static ({ cls := "java/util/Arrays", name := "fill", desc := "([II)V" } : Jvm.MethodName)) ∈ gT := gT_in (List.mem_of_getElem? (i := 749) (by decide +kernel)) (by decide +kernel)
theorem wm_188 : (Jvm.Cond.initialized "java/util/Arrays") ∈ gT := gT_in (List.mem_of_getElem? (i := 188) (by decide +kernel)) (by decide +kernel)
theorem wm_750 : (Jvm.Cond.code ({ cls := "java/util/Arrays", name := "fill", desc := "([II)V" } : Jvm.MethodName) prog_22_method_103_code (4 : Nat) (Option.none : Option Jvm.ClassFile.FieldType)) ∈ gT := gT_in (List.mem_of_getElem? (i := 750) (by decide +kernel)) (by decide +kernel)
theorem dX2_clear_33 : decode cX2_clear 33 = .ok (.aload_n 0, 1) := by decide +kernel
theorem dX2_clear_34 : decode cX2_clear 34 = .ok (.getfield 49, 3) := by decide +kernel
theorem dX2_clear_37 : decode cX2_clear 37 = .ok (.iconst 0, 1) := by decide +kernel
theorem dX2_clear_38 : decode cX2_clear 38 = .ok (.invokestatic 55, 3) := by decide +kernel
theorem dX2_clear_41 : decode cX2_clear 41 = .ok (.return_, 1) := by decide +kernel
theorem dX5_advance_0 : decode cX5_advance 0 = .ok (.aload_n 0, 1) := by decide +kernel
theorem dX5_advance_1 : decode cX5_advance 1 = .ok (.getfield 25, 3) := by decide +kernel
theorem dX5_advance_4 : decode cX5_advance 4 = .ok (.aload_n 0, 1) := by decide +kernel
theorem dX5_advance_5 : decode cX5_advance 5 = .ok (.getfield 22, 3) := by decide +kernel
theorem dX5_advance_8 : decode cX5_advance 8 = .ok (.if_icmp .ge 44, 3) := by decide +kernel
theorem dX5_advance_52 : decode cX5_advance 52 = .ok (.aload_n 0, 1) := by decide +kernel
theorem dX5_advance_53 : decode cX5_advance 53 = .ok (.aload_n 0, 1) := by decide +kernel
theorem dX5_advance_54 : decode cX5_advance 54 = .ok (.getfield 25, 3) := by decide +kernel
theorem dX5_advance_57 : decode cX5_advance 57 = .ok (.putfield 31, 3) := by decide +kernel
theorem dX5_advance_60 : decode cX5_advance 60 = .ok (.aload_n 0, 1) := by decide +kernel
theorem dX5_advance_61 : decode cX5_advance 61 = .ok (.getfield 25, 3) := by decide +kernel
theorem dX5_advance_64 : decode cX5_advance 64 = .ok (.aload_n 0, 1) := by decide +kernel
theorem dX5_advance_65 : decode cX5_advance 65 = .ok (.getfield 22, 3) := by decide +kernel
theorem dX5_advance_68 : decode cX5_advance 68 = .ok (.if_icmp .lt 9, 3) := by decide +kernel
theorem dX5_advance_71 : decode cX5_advance 71 = .ok (.aload_n 0, 1) := by decide +kernel
theorem dX5_advance_72 : decode cX5_advance 72 = .ok (.iconst 3, 1) := by decide +kernel
theorem dX5_advance_73 : decode cX5_advance 73 = .ok (.putfield 28, 3) := by decide +kernel
theorem dX5_advance_76 : decode cX5_advance 76 = .ok (.return_, 1) := by decide +kernel
theorem dX5_read_0 : decode cX5_read 0 = .ok (.aload_n 0, 1) := by decide +kernel
theorem dX5_read_1 : decode cX5_read 1 = .ok (.aload_n 1, 1) := by decide +kernel
theorem dX5_read_2 : decode cX5_read 2 = .ok (.putfield 18, 3) := by decide +kernel
theorem dX5_read_5 : decode cX5_read 5 = .ok (.aload_n 0, 1) := by decide +kernel
theorem dX5_read_6 : decode cX5_read 6 = .ok (.iload_n 2, 1) := by decide +kernel
theorem dX5_read_7 : decode cX5_read 7 = .ok (.putfield 22, 3) := by decide +kernel
theorem dX5_read_10 : decode cX5_read 10 = .ok (.aload_n 0, 1) := by decide +kernel
theorem dX5_read_11 : decode cX5_read 11 = .ok (.iconst 0, 1) := by decide +kernel
theorem dX5_read_12 : decode cX5_read 12 = .ok (.putfield 25, 3) := by decide +kernel
theorem dX5_read_15 : decode cX5_read 15 = .ok (.aload_n 0, 1) := by decide +kernel
theorem dX5_read_16 : decode cX5_read 16 = .ok (.iconst 0, 1) := by decide +kernel
theorem dX5_read_17 : decode cX5_read 17 = .ok (.putfield 9, 3) := by decide +kernel
theorem dX5_read_20 : decode cX5_read 20 = .ok (.aload_n 0, 1) := by decide +kernel
theorem dX5_read_21 : decode cX5_read 21 = .ok (.iconst (-1), 1) := by decide +kernel
theorem dX5_read_22 : decode cX5_read 22 = .ok (.putfield 15, 3) := by decide +kernel
theorem dX5_read_25 : decode cX5_read 25 = .ok (.aload_n 0, 1) := by decide +kernel
theorem dX5_read_26 : decode cX5_read 26 = .ok (.getfield 47, 3) := by decide +kernel
theorem dX5_read_29 : decode cX5_read 29 = .ok (.invokevirtual 60, 3) := by decide +kernel
theorem wm_744 : (Jvm.Cond.methodLink "GrownKinds$Reader" (60 : Nat) ({ cls := "GrownKinds$Grammar", name := "clear", desc := "()V" } : Jvm.MethodName)) ∈ gT := gT_in (List.mem_of_getElem? (i := 744) (by decide +kernel)) (by decide +kernel)
theorem wm_745 : (Jvm.Cond.instanceMethod ({ cls := "GrownKinds$Grammar", name := "clear", desc := "()V" } : Jvm.MethodName)) ∈ gT := gT_in (List.mem_of_getElem? (i := 745) (by decide +kernel)) (by decide +kernel)
theorem wm_746 : (Jvm.Cond.selects "GrownKinds$Grammar" ({ cls := "GrownKinds$Grammar", name := "clear", desc := "()V" } : Jvm.MethodName) ({ cls := "GrownKinds$Grammar", name := "clear", desc := "()V" } : Jvm.MethodName)) ∈ gT := gT_in (List.mem_of_getElem? (i := 746) (by decide +kernel)) (by decide +kernel)
theorem wm_747 : (Jvm.Cond.code ({ cls := "GrownKinds$Grammar", name := "clear", desc := "()V" } : Jvm.MethodName) prog_4_method_2_code (1 : Nat) (Option.none : Option Jvm.ClassFile.FieldType)) ∈ gT := gT_in (List.mem_of_getElem? (i := 747) (by decide +kernel)) (by decide +kernel)
theorem dX5_read_32 : decode cX5_read 32 = .ok (.aload_n 0, 1) := by decide +kernel
theorem dX5_read_33 : decode cX5_read 33 = .ok (.invokevirtual 65, 3) := by decide +kernel
theorem wm_751 : (Jvm.Cond.methodLink "GrownKinds$Reader" (65 : Nat) ({ cls := "GrownKinds$Reader", name := "advance", desc := "()V" } : Jvm.MethodName)) ∈ gT := gT_in (List.mem_of_getElem? (i := 751) (by decide +kernel)) (by decide +kernel)
theorem wm_753 : (Jvm.Cond.instanceMethod ({ cls := "GrownKinds$Reader", name := "advance", desc := "()V" } : Jvm.MethodName)) ∈ gT := gT_in (List.mem_of_getElem? (i := 753) (by decide +kernel)) (by decide +kernel)
theorem wm_1 : Cond.selects "GrownKinds$Reader" ⟨"GrownKinds$Reader", "advance", "()V"⟩ ⟨"GrownKinds$Reader", "advance", "()V"⟩ ∈ gT := gT_in (List.mem_of_getElem? (i := 1) (by decide +kernel)) (by decide +kernel)
theorem wm_754 : (Jvm.Cond.code ({ cls := "GrownKinds$Reader", name := "advance", desc := "()V" } : Jvm.MethodName) prog_7_method_7_code (2 : Nat) (Option.none : Option Jvm.ClassFile.FieldType)) ∈ gT := gT_in (List.mem_of_getElem? (i := 754) (by decide +kernel)) (by decide +kernel)
theorem dX5_read_36 : decode cX5_read 36 = .ok (.aload_n 0, 1) := by decide +kernel
theorem dX5_read_37 : decode cX5_read 37 = .ok (.getfield 28, 3) := by decide +kernel
theorem dX5_read_40 : decode cX5_read 40 = .ok (.iconst 3, 1) := by decide +kernel
theorem dX5_read_41 : decode cX5_read 41 = .ok (.if_icmp .ne 5, 3) := by decide +kernel
theorem dX5_read_44 : decode cX5_read 44 = .ok (.iconst 0, 1) := by decide +kernel
theorem dX5_read_45 : decode cX5_read 45 = .ok (.ireturn, 1) := by decide +kernel
set_option maxHeartbeats 4000000 in
set_option maxRecDepth 100000 in
theorem qX11_putFour_0 (l : Launch) {D : va_G} {cy : Nat → ClassId} {b n : Nat} (hn : 105 ≤ n) {E : Nat → va_E} {f1 : Nat → Int32} (h0 : E 0 = .inr (11, [.ref (b + 1), .int 0, .ref (b + 2), .ref (b + 12), .int 0, .int (-1), .ref (b + 33), .ref (b + 40), .ref (b + 47), .ref (b + 60), .ref (b + 67), .ref (b + 73), .ref (b + 80), .ref (b + 81), .ref (b + 82), .int 0, .int 0, .int (-1), .int (-1)])) (h1 : E 1 = .inl (cy 0, 400, .inl f1))  (a1 : Int32) : gV l yX11_putFour cX11_putFour 3 0 0 0 D cy b n E [.ref (b + 0), .int a1] (fun u => u.1 = n ∧ (∀ j, j ≠ 0 → j ≠ 1 → u.2 j = E j) ∧ u.2 0 = .inr (11, [.ref (b + 1), .int 4, .ref (b + 2), .ref (b + 12), .int 0, .int (-1), .ref (b + 33), .ref (b + 40), .ref (b + 47), .ref (b + 60), .ref (b + 67), .ref (b + 73), .ref (b + 80), .ref (b + 81), .ref (b + 82), .int 0, .int 0, .int (-1), .int (-1)]) ∧ (∃ f : Nat → Int32, u.2 1 = .inl (cy 0, 400, .inl f))) := by
  refine gV_of (by decide) (Nat.le_of_ble_eq_true rfl) ?_
  intro p e s m args below meth c S hr hlk hin hsz ls hl hG
  have hx := S.1
  have hb := S.2.1
  have hl : lv_has ls 3 [(0, .ref (b + 0)), (1, .int a1)] := hl
  refine lv_bipush (v := 24) hx hb dX11_putFour_0 (by decide) ?_
  refine lv_istore_n (lv' := [(2, .int 24), (0, .ref (b + 0)), (1, .int a1)]) hx hb dX11_putFour_2 rfl hl (by decide) rfl (fun ls hl => ?_)
  refine lv_iload_n hx hb dX11_putFour_3 rfl (lv_at hl 0 rfl) ?_
  refine lv_if_lt (tgt := 46) hx hb dX11_putFour_4 (by decide) (fun c_1 => absurd c_1 (by decide)) (fun c_1 => ?_)
  refine lv_aload_n hx hb dX11_putFour_7 rfl (lv_at hl 1 rfl) ?_
  refine g_get S hG 0 1 h0 cpX11 wm_667 dX11_putFour_8 rfl (by omega) (by decide) ?_
  refine lv_sipush (v := 400) hx hb dX11_putFour_11 (by decide) ?_
  refine lv_icmp_ge (tgt := 46) hx hb dX11_putFour_14 (by decide) (fun c_2 => absurd c_2 (by decide)) (fun c_2 => ?_)
  refine lv_aload_n hx hb dX11_putFour_17 rfl (lv_at hl 1 rfl) ?_
  refine g_get S hG 0 0 h0 cpX11 wm_666 dX11_putFour_18 rfl (by omega) (by decide) ?_
  refine lv_aload_n hx hb dX11_putFour_21 rfl (lv_at hl 1 rfl) ?_
  refine g_get S hG 0 1 h0 cpX11 wm_667 dX11_putFour_22 rfl (by omega) (by decide) ?_
  refine lv_iload_n hx hb dX11_putFour_25 rfl (lv_at hl 2 rfl) ?_
  refine lv_iload_n hx hb dX11_putFour_26 rfl (lv_at hl 0 rfl) ?_
  refine lv_iushr hx hb dX11_putFour_27 rfl ?_
  refine lv_topi (fun x_3 ex_3 => ?_)
  refine lv_i2b hx hb dX11_putFour_28 rfl ?_
  refine g_bast S hG 1 h1 (by omega) dX11_putFour_29 (by unfold vp_in; decide) (fun H locs hG => ?_)
  refine lv_aload_n hx hb dX11_putFour_30 rfl (lv_at hl 1 rfl) ?_
  refine lv_dup hx hb dX11_putFour_31 rfl ?_
  refine g_get S hG 0 1 h0 cpX11 wm_667 dX11_putFour_32 rfl (by omega) (by decide) ?_
  refine lv_iconst (v := 1) hx hb dX11_putFour_35 (by decide) ?_
  refine lv_iadd hx hb dX11_putFour_36 ?_
  refine lv_topi (fun x_4 ex_4 => ?_)
  obtain rfl : x_4 = 1 := ex_4.trans (by decide)
  refine g_put (fs' := [.ref (b + 1), .int 1, .ref (b + 2), .ref (b + 12), .int 0, .int (-1), .ref (b + 33), .ref (b + 40), .ref (b + 47), .ref (b + 60), .ref (b + 67), .ref (b + 73), .ref (b + 80), .ref (b + 81), .ref (b + 82), .int 0, .int 0, .int (-1), .int (-1)]) S hG 0 1 h0 cpX11 wm_667 dX11_putFour_37 rfl (by omega) (by decide) (Nat.le_of_ble_eq_true rfl) rfl rfl rfl (fun H locs hG => ?_)
  refine lv_iinc (v := 16) (lv' := [(2, .int 16), (0, .ref (b + 0)), (1, .int a1)]) hx hb dX11_putFour_40 hl (k := 0) rfl (by decide) (by decide) rfl (fun ls hl => ?_)
  refine lv_goto (tgt := 3) hx hb dX11_putFour_43 (by decide) ?_
  refine lv_iload_n hx hb dX11_putFour_3 rfl (lv_at hl 0 rfl) ?_
  refine lv_if_lt (tgt := 46) hx hb dX11_putFour_4 (by decide) (fun c_5 => absurd c_5 (by decide)) (fun c_5 => ?_)
  refine lv_aload_n hx hb dX11_putFour_7 rfl (lv_at hl 1 rfl) ?_
  refine g_get S hG 0 1 rfl cpX11 wm_667 dX11_putFour_8 rfl (by omega) (by decide) ?_
  refine lv_sipush (v := 400) hx hb dX11_putFour_11 (by decide) ?_
  refine lv_icmp_ge (tgt := 46) hx hb dX11_putFour_14 (by decide) (fun c_6 => absurd c_6 (by decide)) (fun c_6 => ?_)
  refine lv_aload_n hx hb dX11_putFour_17 rfl (lv_at hl 1 rfl) ?_
  refine g_get S hG 0 0 rfl cpX11 wm_666 dX11_putFour_18 rfl (by omega) (by decide) ?_
  refine lv_aload_n hx hb dX11_putFour_21 rfl (lv_at hl 1 rfl) ?_
  refine g_get S hG 0 1 rfl cpX11 wm_667 dX11_putFour_22 rfl (by omega) (by decide) ?_
  refine lv_iload_n hx hb dX11_putFour_25 rfl (lv_at hl 2 rfl) ?_
  refine lv_iload_n hx hb dX11_putFour_26 rfl (lv_at hl 0 rfl) ?_
  refine lv_iushr hx hb dX11_putFour_27 rfl ?_
  refine lv_topi (fun x_7 ex_7 => ?_)
  refine lv_i2b hx hb dX11_putFour_28 rfl ?_
  refine g_bast S hG 1 rfl (by omega) dX11_putFour_29 (by unfold vp_in; decide) (fun H locs hG => ?_)
  refine lv_aload_n hx hb dX11_putFour_30 rfl (lv_at hl 1 rfl) ?_
  refine lv_dup hx hb dX11_putFour_31 rfl ?_
  refine g_get S hG 0 1 rfl cpX11 wm_667 dX11_putFour_32 rfl (by omega) (by decide) ?_
  refine lv_iconst (v := 1) hx hb dX11_putFour_35 (by decide) ?_
  refine lv_iadd hx hb dX11_putFour_36 ?_
  refine lv_topi (fun x_8 ex_8 => ?_)
  obtain rfl : x_8 = 2 := ex_8.trans (by decide)
  refine g_put (fs' := [.ref (b + 1), .int 2, .ref (b + 2), .ref (b + 12), .int 0, .int (-1), .ref (b + 33), .ref (b + 40), .ref (b + 47), .ref (b + 60), .ref (b + 67), .ref (b + 73), .ref (b + 80), .ref (b + 81), .ref (b + 82), .int 0, .int 0, .int (-1), .int (-1)]) S hG 0 1 rfl cpX11 wm_667 dX11_putFour_37 rfl (by omega) (by decide) (Nat.le_of_ble_eq_true rfl) rfl rfl rfl (fun H locs hG => ?_)
  refine lv_iinc (v := 8) (lv' := [(2, .int 8), (0, .ref (b + 0)), (1, .int a1)]) hx hb dX11_putFour_40 hl (k := 0) rfl (by decide) (by decide) rfl (fun ls hl => ?_)
  refine lv_goto (tgt := 3) hx hb dX11_putFour_43 (by decide) ?_
  refine lv_iload_n hx hb dX11_putFour_3 rfl (lv_at hl 0 rfl) ?_
  refine lv_if_lt (tgt := 46) hx hb dX11_putFour_4 (by decide) (fun c_9 => absurd c_9 (by decide)) (fun c_9 => ?_)
  refine lv_aload_n hx hb dX11_putFour_7 rfl (lv_at hl 1 rfl) ?_
  refine g_get S hG 0 1 rfl cpX11 wm_667 dX11_putFour_8 rfl (by omega) (by decide) ?_
  refine lv_sipush (v := 400) hx hb dX11_putFour_11 (by decide) ?_
  refine lv_icmp_ge (tgt := 46) hx hb dX11_putFour_14 (by decide) (fun c_10 => absurd c_10 (by decide)) (fun c_10 => ?_)
  refine lv_aload_n hx hb dX11_putFour_17 rfl (lv_at hl 1 rfl) ?_
  refine g_get S hG 0 0 rfl cpX11 wm_666 dX11_putFour_18 rfl (by omega) (by decide) ?_
  refine lv_aload_n hx hb dX11_putFour_21 rfl (lv_at hl 1 rfl) ?_
  refine g_get S hG 0 1 rfl cpX11 wm_667 dX11_putFour_22 rfl (by omega) (by decide) ?_
  refine lv_iload_n hx hb dX11_putFour_25 rfl (lv_at hl 2 rfl) ?_
  refine lv_iload_n hx hb dX11_putFour_26 rfl (lv_at hl 0 rfl) ?_
  refine lv_iushr hx hb dX11_putFour_27 rfl ?_
  refine lv_topi (fun x_11 ex_11 => ?_)
  refine lv_i2b hx hb dX11_putFour_28 rfl ?_
  refine g_bast S hG 1 rfl (by omega) dX11_putFour_29 (by unfold vp_in; decide) (fun H locs hG => ?_)
  refine lv_aload_n hx hb dX11_putFour_30 rfl (lv_at hl 1 rfl) ?_
  refine lv_dup hx hb dX11_putFour_31 rfl ?_
  refine g_get S hG 0 1 rfl cpX11 wm_667 dX11_putFour_32 rfl (by omega) (by decide) ?_
  refine lv_iconst (v := 1) hx hb dX11_putFour_35 (by decide) ?_
  refine lv_iadd hx hb dX11_putFour_36 ?_
  refine lv_topi (fun x_12 ex_12 => ?_)
  obtain rfl : x_12 = 3 := ex_12.trans (by decide)
  refine g_put (fs' := [.ref (b + 1), .int 3, .ref (b + 2), .ref (b + 12), .int 0, .int (-1), .ref (b + 33), .ref (b + 40), .ref (b + 47), .ref (b + 60), .ref (b + 67), .ref (b + 73), .ref (b + 80), .ref (b + 81), .ref (b + 82), .int 0, .int 0, .int (-1), .int (-1)]) S hG 0 1 rfl cpX11 wm_667 dX11_putFour_37 rfl (by omega) (by decide) (Nat.le_of_ble_eq_true rfl) rfl rfl rfl (fun H locs hG => ?_)
  refine lv_iinc (v := 0) (lv' := [(2, .int 0), (0, .ref (b + 0)), (1, .int a1)]) hx hb dX11_putFour_40 hl (k := 0) rfl (by decide) (by decide) rfl (fun ls hl => ?_)
  refine lv_goto (tgt := 3) hx hb dX11_putFour_43 (by decide) ?_
  refine lv_iload_n hx hb dX11_putFour_3 rfl (lv_at hl 0 rfl) ?_
  refine lv_if_lt (tgt := 46) hx hb dX11_putFour_4 (by decide) (fun c_13 => absurd c_13 (by decide)) (fun c_13 => ?_)
  refine lv_aload_n hx hb dX11_putFour_7 rfl (lv_at hl 1 rfl) ?_
  refine g_get S hG 0 1 rfl cpX11 wm_667 dX11_putFour_8 rfl (by omega) (by decide) ?_
  refine lv_sipush (v := 400) hx hb dX11_putFour_11 (by decide) ?_
  refine lv_icmp_ge (tgt := 46) hx hb dX11_putFour_14 (by decide) (fun c_14 => absurd c_14 (by decide)) (fun c_14 => ?_)
  refine lv_aload_n hx hb dX11_putFour_17 rfl (lv_at hl 1 rfl) ?_
  refine g_get S hG 0 0 rfl cpX11 wm_666 dX11_putFour_18 rfl (by omega) (by decide) ?_
  refine lv_aload_n hx hb dX11_putFour_21 rfl (lv_at hl 1 rfl) ?_
  refine g_get S hG 0 1 rfl cpX11 wm_667 dX11_putFour_22 rfl (by omega) (by decide) ?_
  refine lv_iload_n hx hb dX11_putFour_25 rfl (lv_at hl 2 rfl) ?_
  refine lv_iload_n hx hb dX11_putFour_26 rfl (lv_at hl 0 rfl) ?_
  refine lv_iushr hx hb dX11_putFour_27 rfl ?_
  refine lv_topi (fun x_15 ex_15 => ?_)
  refine lv_i2b hx hb dX11_putFour_28 rfl ?_
  refine g_bast S hG 1 rfl (by omega) dX11_putFour_29 (by unfold vp_in; decide) (fun H locs hG => ?_)
  refine lv_aload_n hx hb dX11_putFour_30 rfl (lv_at hl 1 rfl) ?_
  refine lv_dup hx hb dX11_putFour_31 rfl ?_
  refine g_get S hG 0 1 rfl cpX11 wm_667 dX11_putFour_32 rfl (by omega) (by decide) ?_
  refine lv_iconst (v := 1) hx hb dX11_putFour_35 (by decide) ?_
  refine lv_iadd hx hb dX11_putFour_36 ?_
  refine lv_topi (fun x_16 ex_16 => ?_)
  obtain rfl : x_16 = 4 := ex_16.trans (by decide)
  refine g_put (fs' := [.ref (b + 1), .int 4, .ref (b + 2), .ref (b + 12), .int 0, .int (-1), .ref (b + 33), .ref (b + 40), .ref (b + 47), .ref (b + 60), .ref (b + 67), .ref (b + 73), .ref (b + 80), .ref (b + 81), .ref (b + 82), .int 0, .int 0, .int (-1), .int (-1)]) S hG 0 1 rfl cpX11 wm_667 dX11_putFour_37 rfl (by omega) (by decide) (Nat.le_of_ble_eq_true rfl) rfl rfl rfl (fun H locs hG => ?_)
  refine lv_iinc (v := (-8)) (lv' := [(2, .int (-8)), (0, .ref (b + 0)), (1, .int a1)]) hx hb dX11_putFour_40 hl (k := 0) rfl (by decide) (by decide) rfl (fun ls hl => ?_)
  refine lv_goto (tgt := 3) hx hb dX11_putFour_43 (by decide) ?_
  refine lv_iload_n hx hb dX11_putFour_3 rfl (lv_at hl 0 rfl) ?_
  refine lv_if_lt (tgt := 46) hx hb dX11_putFour_4 (by decide) (fun c_17 => ?_) (fun c_17 => absurd c_17 (by decide))
  exact g_vret S hr hlk hG (by omega) dX11_putFour_46 ⟨Nat.le_of_ble_eq_true rfl, Nat.le_of_ble_eq_true rfl⟩ ⟨rfl, fun j hj0 hj1 => (upE_n (by omega)).trans ((upE_n (by omega)).trans ((upE_n (by omega)).trans ((upE_n (by omega)).trans ((upE_n (by omega)).trans ((upE_n (by omega)).trans ((upE_n (by omega)).trans ((upE_n (by omega)).trans (rfl)))))))), rfl, ⟨_, rfl⟩⟩
set_option maxHeartbeats 4000000 in
set_option maxRecDepth 100000 in
theorem qX11_putFour_4 (l : Launch) {D : va_G} {cy : Nat → ClassId} {b n : Nat} (hn : 105 ≤ n) {E : Nat → va_E} {f1 : Nat → Int32} (h0 : E 0 = .inr (11, [.ref (b + 1), .int 4, .ref (b + 2), .ref (b + 12), .int 0, .int (-1), .ref (b + 33), .ref (b + 40), .ref (b + 47), .ref (b + 60), .ref (b + 67), .ref (b + 73), .ref (b + 80), .ref (b + 81), .ref (b + 82), .int 0, .int 0, .int (-1), .int (-1)])) (h1 : E 1 = .inl (cy 0, 400, .inl f1))  (a1 : Int32) : gV l yX11_putFour cX11_putFour 3 0 0 0 D cy b n E [.ref (b + 0), .int a1] (fun u => u.1 = n ∧ (∀ j, j ≠ 0 → j ≠ 1 → u.2 j = E j) ∧ u.2 0 = .inr (11, [.ref (b + 1), .int 8, .ref (b + 2), .ref (b + 12), .int 0, .int (-1), .ref (b + 33), .ref (b + 40), .ref (b + 47), .ref (b + 60), .ref (b + 67), .ref (b + 73), .ref (b + 80), .ref (b + 81), .ref (b + 82), .int 0, .int 0, .int (-1), .int (-1)]) ∧ (∃ f : Nat → Int32, u.2 1 = .inl (cy 0, 400, .inl f))) := by
  refine gV_of (by decide) (Nat.le_of_ble_eq_true rfl) ?_
  intro p e s m args below meth c S hr hlk hin hsz ls hl hG
  have hx := S.1
  have hb := S.2.1
  have hl : lv_has ls 3 [(0, .ref (b + 0)), (1, .int a1)] := hl
  refine lv_bipush (v := 24) hx hb dX11_putFour_0 (by decide) ?_
  refine lv_istore_n (lv' := [(2, .int 24), (0, .ref (b + 0)), (1, .int a1)]) hx hb dX11_putFour_2 rfl hl (by decide) rfl (fun ls hl => ?_)
  refine lv_iload_n hx hb dX11_putFour_3 rfl (lv_at hl 0 rfl) ?_
  refine lv_if_lt (tgt := 46) hx hb dX11_putFour_4 (by decide) (fun c_1 => absurd c_1 (by decide)) (fun c_1 => ?_)
  refine lv_aload_n hx hb dX11_putFour_7 rfl (lv_at hl 1 rfl) ?_
  refine g_get S hG 0 1 h0 cpX11 wm_667 dX11_putFour_8 rfl (by omega) (by decide) ?_
  refine lv_sipush (v := 400) hx hb dX11_putFour_11 (by decide) ?_
  refine lv_icmp_ge (tgt := 46) hx hb dX11_putFour_14 (by decide) (fun c_2 => absurd c_2 (by decide)) (fun c_2 => ?_)
  refine lv_aload_n hx hb dX11_putFour_17 rfl (lv_at hl 1 rfl) ?_
  refine g_get S hG 0 0 h0 cpX11 wm_666 dX11_putFour_18 rfl (by omega) (by decide) ?_
  refine lv_aload_n hx hb dX11_putFour_21 rfl (lv_at hl 1 rfl) ?_
  refine g_get S hG 0 1 h0 cpX11 wm_667 dX11_putFour_22 rfl (by omega) (by decide) ?_
  refine lv_iload_n hx hb dX11_putFour_25 rfl (lv_at hl 2 rfl) ?_
  refine lv_iload_n hx hb dX11_putFour_26 rfl (lv_at hl 0 rfl) ?_
  refine lv_iushr hx hb dX11_putFour_27 rfl ?_
  refine lv_topi (fun x_3 ex_3 => ?_)
  refine lv_i2b hx hb dX11_putFour_28 rfl ?_
  refine g_bast S hG 1 h1 (by omega) dX11_putFour_29 (by unfold vp_in; decide) (fun H locs hG => ?_)
  refine lv_aload_n hx hb dX11_putFour_30 rfl (lv_at hl 1 rfl) ?_
  refine lv_dup hx hb dX11_putFour_31 rfl ?_
  refine g_get S hG 0 1 h0 cpX11 wm_667 dX11_putFour_32 rfl (by omega) (by decide) ?_
  refine lv_iconst (v := 1) hx hb dX11_putFour_35 (by decide) ?_
  refine lv_iadd hx hb dX11_putFour_36 ?_
  refine lv_topi (fun x_4 ex_4 => ?_)
  obtain rfl : x_4 = 5 := ex_4.trans (by decide)
  refine g_put (fs' := [.ref (b + 1), .int 5, .ref (b + 2), .ref (b + 12), .int 0, .int (-1), .ref (b + 33), .ref (b + 40), .ref (b + 47), .ref (b + 60), .ref (b + 67), .ref (b + 73), .ref (b + 80), .ref (b + 81), .ref (b + 82), .int 0, .int 0, .int (-1), .int (-1)]) S hG 0 1 h0 cpX11 wm_667 dX11_putFour_37 rfl (by omega) (by decide) (Nat.le_of_ble_eq_true rfl) rfl rfl rfl (fun H locs hG => ?_)
  refine lv_iinc (v := 16) (lv' := [(2, .int 16), (0, .ref (b + 0)), (1, .int a1)]) hx hb dX11_putFour_40 hl (k := 0) rfl (by decide) (by decide) rfl (fun ls hl => ?_)
  refine lv_goto (tgt := 3) hx hb dX11_putFour_43 (by decide) ?_
  refine lv_iload_n hx hb dX11_putFour_3 rfl (lv_at hl 0 rfl) ?_
  refine lv_if_lt (tgt := 46) hx hb dX11_putFour_4 (by decide) (fun c_5 => absurd c_5 (by decide)) (fun c_5 => ?_)
  refine lv_aload_n hx hb dX11_putFour_7 rfl (lv_at hl 1 rfl) ?_
  refine g_get S hG 0 1 rfl cpX11 wm_667 dX11_putFour_8 rfl (by omega) (by decide) ?_
  refine lv_sipush (v := 400) hx hb dX11_putFour_11 (by decide) ?_
  refine lv_icmp_ge (tgt := 46) hx hb dX11_putFour_14 (by decide) (fun c_6 => absurd c_6 (by decide)) (fun c_6 => ?_)
  refine lv_aload_n hx hb dX11_putFour_17 rfl (lv_at hl 1 rfl) ?_
  refine g_get S hG 0 0 rfl cpX11 wm_666 dX11_putFour_18 rfl (by omega) (by decide) ?_
  refine lv_aload_n hx hb dX11_putFour_21 rfl (lv_at hl 1 rfl) ?_
  refine g_get S hG 0 1 rfl cpX11 wm_667 dX11_putFour_22 rfl (by omega) (by decide) ?_
  refine lv_iload_n hx hb dX11_putFour_25 rfl (lv_at hl 2 rfl) ?_
  refine lv_iload_n hx hb dX11_putFour_26 rfl (lv_at hl 0 rfl) ?_
  refine lv_iushr hx hb dX11_putFour_27 rfl ?_
  refine lv_topi (fun x_7 ex_7 => ?_)
  refine lv_i2b hx hb dX11_putFour_28 rfl ?_
  refine g_bast S hG 1 rfl (by omega) dX11_putFour_29 (by unfold vp_in; decide) (fun H locs hG => ?_)
  refine lv_aload_n hx hb dX11_putFour_30 rfl (lv_at hl 1 rfl) ?_
  refine lv_dup hx hb dX11_putFour_31 rfl ?_
  refine g_get S hG 0 1 rfl cpX11 wm_667 dX11_putFour_32 rfl (by omega) (by decide) ?_
  refine lv_iconst (v := 1) hx hb dX11_putFour_35 (by decide) ?_
  refine lv_iadd hx hb dX11_putFour_36 ?_
  refine lv_topi (fun x_8 ex_8 => ?_)
  obtain rfl : x_8 = 6 := ex_8.trans (by decide)
  refine g_put (fs' := [.ref (b + 1), .int 6, .ref (b + 2), .ref (b + 12), .int 0, .int (-1), .ref (b + 33), .ref (b + 40), .ref (b + 47), .ref (b + 60), .ref (b + 67), .ref (b + 73), .ref (b + 80), .ref (b + 81), .ref (b + 82), .int 0, .int 0, .int (-1), .int (-1)]) S hG 0 1 rfl cpX11 wm_667 dX11_putFour_37 rfl (by omega) (by decide) (Nat.le_of_ble_eq_true rfl) rfl rfl rfl (fun H locs hG => ?_)
  refine lv_iinc (v := 8) (lv' := [(2, .int 8), (0, .ref (b + 0)), (1, .int a1)]) hx hb dX11_putFour_40 hl (k := 0) rfl (by decide) (by decide) rfl (fun ls hl => ?_)
  refine lv_goto (tgt := 3) hx hb dX11_putFour_43 (by decide) ?_
  refine lv_iload_n hx hb dX11_putFour_3 rfl (lv_at hl 0 rfl) ?_
  refine lv_if_lt (tgt := 46) hx hb dX11_putFour_4 (by decide) (fun c_9 => absurd c_9 (by decide)) (fun c_9 => ?_)
  refine lv_aload_n hx hb dX11_putFour_7 rfl (lv_at hl 1 rfl) ?_
  refine g_get S hG 0 1 rfl cpX11 wm_667 dX11_putFour_8 rfl (by omega) (by decide) ?_
  refine lv_sipush (v := 400) hx hb dX11_putFour_11 (by decide) ?_
  refine lv_icmp_ge (tgt := 46) hx hb dX11_putFour_14 (by decide) (fun c_10 => absurd c_10 (by decide)) (fun c_10 => ?_)
  refine lv_aload_n hx hb dX11_putFour_17 rfl (lv_at hl 1 rfl) ?_
  refine g_get S hG 0 0 rfl cpX11 wm_666 dX11_putFour_18 rfl (by omega) (by decide) ?_
  refine lv_aload_n hx hb dX11_putFour_21 rfl (lv_at hl 1 rfl) ?_
  refine g_get S hG 0 1 rfl cpX11 wm_667 dX11_putFour_22 rfl (by omega) (by decide) ?_
  refine lv_iload_n hx hb dX11_putFour_25 rfl (lv_at hl 2 rfl) ?_
  refine lv_iload_n hx hb dX11_putFour_26 rfl (lv_at hl 0 rfl) ?_
  refine lv_iushr hx hb dX11_putFour_27 rfl ?_
  refine lv_topi (fun x_11 ex_11 => ?_)
  refine lv_i2b hx hb dX11_putFour_28 rfl ?_
  refine g_bast S hG 1 rfl (by omega) dX11_putFour_29 (by unfold vp_in; decide) (fun H locs hG => ?_)
  refine lv_aload_n hx hb dX11_putFour_30 rfl (lv_at hl 1 rfl) ?_
  refine lv_dup hx hb dX11_putFour_31 rfl ?_
  refine g_get S hG 0 1 rfl cpX11 wm_667 dX11_putFour_32 rfl (by omega) (by decide) ?_
  refine lv_iconst (v := 1) hx hb dX11_putFour_35 (by decide) ?_
  refine lv_iadd hx hb dX11_putFour_36 ?_
  refine lv_topi (fun x_12 ex_12 => ?_)
  obtain rfl : x_12 = 7 := ex_12.trans (by decide)
  refine g_put (fs' := [.ref (b + 1), .int 7, .ref (b + 2), .ref (b + 12), .int 0, .int (-1), .ref (b + 33), .ref (b + 40), .ref (b + 47), .ref (b + 60), .ref (b + 67), .ref (b + 73), .ref (b + 80), .ref (b + 81), .ref (b + 82), .int 0, .int 0, .int (-1), .int (-1)]) S hG 0 1 rfl cpX11 wm_667 dX11_putFour_37 rfl (by omega) (by decide) (Nat.le_of_ble_eq_true rfl) rfl rfl rfl (fun H locs hG => ?_)
  refine lv_iinc (v := 0) (lv' := [(2, .int 0), (0, .ref (b + 0)), (1, .int a1)]) hx hb dX11_putFour_40 hl (k := 0) rfl (by decide) (by decide) rfl (fun ls hl => ?_)
  refine lv_goto (tgt := 3) hx hb dX11_putFour_43 (by decide) ?_
  refine lv_iload_n hx hb dX11_putFour_3 rfl (lv_at hl 0 rfl) ?_
  refine lv_if_lt (tgt := 46) hx hb dX11_putFour_4 (by decide) (fun c_13 => absurd c_13 (by decide)) (fun c_13 => ?_)
  refine lv_aload_n hx hb dX11_putFour_7 rfl (lv_at hl 1 rfl) ?_
  refine g_get S hG 0 1 rfl cpX11 wm_667 dX11_putFour_8 rfl (by omega) (by decide) ?_
  refine lv_sipush (v := 400) hx hb dX11_putFour_11 (by decide) ?_
  refine lv_icmp_ge (tgt := 46) hx hb dX11_putFour_14 (by decide) (fun c_14 => absurd c_14 (by decide)) (fun c_14 => ?_)
  refine lv_aload_n hx hb dX11_putFour_17 rfl (lv_at hl 1 rfl) ?_
  refine g_get S hG 0 0 rfl cpX11 wm_666 dX11_putFour_18 rfl (by omega) (by decide) ?_
  refine lv_aload_n hx hb dX11_putFour_21 rfl (lv_at hl 1 rfl) ?_
  refine g_get S hG 0 1 rfl cpX11 wm_667 dX11_putFour_22 rfl (by omega) (by decide) ?_
  refine lv_iload_n hx hb dX11_putFour_25 rfl (lv_at hl 2 rfl) ?_
  refine lv_iload_n hx hb dX11_putFour_26 rfl (lv_at hl 0 rfl) ?_
  refine lv_iushr hx hb dX11_putFour_27 rfl ?_
  refine lv_topi (fun x_15 ex_15 => ?_)
  refine lv_i2b hx hb dX11_putFour_28 rfl ?_
  refine g_bast S hG 1 rfl (by omega) dX11_putFour_29 (by unfold vp_in; decide) (fun H locs hG => ?_)
  refine lv_aload_n hx hb dX11_putFour_30 rfl (lv_at hl 1 rfl) ?_
  refine lv_dup hx hb dX11_putFour_31 rfl ?_
  refine g_get S hG 0 1 rfl cpX11 wm_667 dX11_putFour_32 rfl (by omega) (by decide) ?_
  refine lv_iconst (v := 1) hx hb dX11_putFour_35 (by decide) ?_
  refine lv_iadd hx hb dX11_putFour_36 ?_
  refine lv_topi (fun x_16 ex_16 => ?_)
  obtain rfl : x_16 = 8 := ex_16.trans (by decide)
  refine g_put (fs' := [.ref (b + 1), .int 8, .ref (b + 2), .ref (b + 12), .int 0, .int (-1), .ref (b + 33), .ref (b + 40), .ref (b + 47), .ref (b + 60), .ref (b + 67), .ref (b + 73), .ref (b + 80), .ref (b + 81), .ref (b + 82), .int 0, .int 0, .int (-1), .int (-1)]) S hG 0 1 rfl cpX11 wm_667 dX11_putFour_37 rfl (by omega) (by decide) (Nat.le_of_ble_eq_true rfl) rfl rfl rfl (fun H locs hG => ?_)
  refine lv_iinc (v := (-8)) (lv' := [(2, .int (-8)), (0, .ref (b + 0)), (1, .int a1)]) hx hb dX11_putFour_40 hl (k := 0) rfl (by decide) (by decide) rfl (fun ls hl => ?_)
  refine lv_goto (tgt := 3) hx hb dX11_putFour_43 (by decide) ?_
  refine lv_iload_n hx hb dX11_putFour_3 rfl (lv_at hl 0 rfl) ?_
  refine lv_if_lt (tgt := 46) hx hb dX11_putFour_4 (by decide) (fun c_17 => ?_) (fun c_17 => absurd c_17 (by decide))
  exact g_vret S hr hlk hG (by omega) dX11_putFour_46 ⟨Nat.le_of_ble_eq_true rfl, Nat.le_of_ble_eq_true rfl⟩ ⟨rfl, fun j hj0 hj1 => (upE_n (by omega)).trans ((upE_n (by omega)).trans ((upE_n (by omega)).trans ((upE_n (by omega)).trans ((upE_n (by omega)).trans ((upE_n (by omega)).trans ((upE_n (by omega)).trans ((upE_n (by omega)).trans (rfl)))))))), rfl, ⟨_, rfl⟩⟩
set_option maxHeartbeats 4000000 in
set_option maxRecDepth 100000 in
theorem qX11_putFour_8 (l : Launch) {D : va_G} {cy : Nat → ClassId} {b n : Nat} (hn : 105 ≤ n) {E : Nat → va_E} {f1 : Nat → Int32} (h0 : E 0 = .inr (11, [.ref (b + 1), .int 8, .ref (b + 2), .ref (b + 12), .int 0, .int (-1), .ref (b + 33), .ref (b + 40), .ref (b + 47), .ref (b + 60), .ref (b + 67), .ref (b + 73), .ref (b + 80), .ref (b + 81), .ref (b + 82), .int 0, .int 0, .int (-1), .int (-1)])) (h1 : E 1 = .inl (cy 0, 400, .inl f1))  (a1 : Int32) : gV l yX11_putFour cX11_putFour 3 0 0 0 D cy b n E [.ref (b + 0), .int a1] (fun u => u.1 = n ∧ (∀ j, j ≠ 0 → j ≠ 1 → u.2 j = E j) ∧ u.2 0 = .inr (11, [.ref (b + 1), .int 12, .ref (b + 2), .ref (b + 12), .int 0, .int (-1), .ref (b + 33), .ref (b + 40), .ref (b + 47), .ref (b + 60), .ref (b + 67), .ref (b + 73), .ref (b + 80), .ref (b + 81), .ref (b + 82), .int 0, .int 0, .int (-1), .int (-1)]) ∧ (∃ f : Nat → Int32, u.2 1 = .inl (cy 0, 400, .inl f))) := by
  refine gV_of (by decide) (Nat.le_of_ble_eq_true rfl) ?_
  intro p e s m args below meth c S hr hlk hin hsz ls hl hG
  have hx := S.1
  have hb := S.2.1
  have hl : lv_has ls 3 [(0, .ref (b + 0)), (1, .int a1)] := hl
  refine lv_bipush (v := 24) hx hb dX11_putFour_0 (by decide) ?_
  refine lv_istore_n (lv' := [(2, .int 24), (0, .ref (b + 0)), (1, .int a1)]) hx hb dX11_putFour_2 rfl hl (by decide) rfl (fun ls hl => ?_)
  refine lv_iload_n hx hb dX11_putFour_3 rfl (lv_at hl 0 rfl) ?_
  refine lv_if_lt (tgt := 46) hx hb dX11_putFour_4 (by decide) (fun c_1 => absurd c_1 (by decide)) (fun c_1 => ?_)
  refine lv_aload_n hx hb dX11_putFour_7 rfl (lv_at hl 1 rfl) ?_
  refine g_get S hG 0 1 h0 cpX11 wm_667 dX11_putFour_8 rfl (by omega) (by decide) ?_
  refine lv_sipush (v := 400) hx hb dX11_putFour_11 (by decide) ?_
  refine lv_icmp_ge (tgt := 46) hx hb dX11_putFour_14 (by decide) (fun c_2 => absurd c_2 (by decide)) (fun c_2 => ?_)
  refine lv_aload_n hx hb dX11_putFour_17 rfl (lv_at hl 1 rfl) ?_
  refine g_get S hG 0 0 h0 cpX11 wm_666 dX11_putFour_18 rfl (by omega) (by decide) ?_
  refine lv_aload_n hx hb dX11_putFour_21 rfl (lv_at hl 1 rfl) ?_
  refine g_get S hG 0 1 h0 cpX11 wm_667 dX11_putFour_22 rfl (by omega) (by decide) ?_
  refine lv_iload_n hx hb dX11_putFour_25 rfl (lv_at hl 2 rfl) ?_
  refine lv_iload_n hx hb dX11_putFour_26 rfl (lv_at hl 0 rfl) ?_
  refine lv_iushr hx hb dX11_putFour_27 rfl ?_
  refine lv_topi (fun x_3 ex_3 => ?_)
  refine lv_i2b hx hb dX11_putFour_28 rfl ?_
  refine g_bast S hG 1 h1 (by omega) dX11_putFour_29 (by unfold vp_in; decide) (fun H locs hG => ?_)
  refine lv_aload_n hx hb dX11_putFour_30 rfl (lv_at hl 1 rfl) ?_
  refine lv_dup hx hb dX11_putFour_31 rfl ?_
  refine g_get S hG 0 1 h0 cpX11 wm_667 dX11_putFour_32 rfl (by omega) (by decide) ?_
  refine lv_iconst (v := 1) hx hb dX11_putFour_35 (by decide) ?_
  refine lv_iadd hx hb dX11_putFour_36 ?_
  refine lv_topi (fun x_4 ex_4 => ?_)
  obtain rfl : x_4 = 9 := ex_4.trans (by decide)
  refine g_put (fs' := [.ref (b + 1), .int 9, .ref (b + 2), .ref (b + 12), .int 0, .int (-1), .ref (b + 33), .ref (b + 40), .ref (b + 47), .ref (b + 60), .ref (b + 67), .ref (b + 73), .ref (b + 80), .ref (b + 81), .ref (b + 82), .int 0, .int 0, .int (-1), .int (-1)]) S hG 0 1 h0 cpX11 wm_667 dX11_putFour_37 rfl (by omega) (by decide) (Nat.le_of_ble_eq_true rfl) rfl rfl rfl (fun H locs hG => ?_)
  refine lv_iinc (v := 16) (lv' := [(2, .int 16), (0, .ref (b + 0)), (1, .int a1)]) hx hb dX11_putFour_40 hl (k := 0) rfl (by decide) (by decide) rfl (fun ls hl => ?_)
  refine lv_goto (tgt := 3) hx hb dX11_putFour_43 (by decide) ?_
  refine lv_iload_n hx hb dX11_putFour_3 rfl (lv_at hl 0 rfl) ?_
  refine lv_if_lt (tgt := 46) hx hb dX11_putFour_4 (by decide) (fun c_5 => absurd c_5 (by decide)) (fun c_5 => ?_)
  refine lv_aload_n hx hb dX11_putFour_7 rfl (lv_at hl 1 rfl) ?_
  refine g_get S hG 0 1 rfl cpX11 wm_667 dX11_putFour_8 rfl (by omega) (by decide) ?_
  refine lv_sipush (v := 400) hx hb dX11_putFour_11 (by decide) ?_
  refine lv_icmp_ge (tgt := 46) hx hb dX11_putFour_14 (by decide) (fun c_6 => absurd c_6 (by decide)) (fun c_6 => ?_)
  refine lv_aload_n hx hb dX11_putFour_17 rfl (lv_at hl 1 rfl) ?_
  refine g_get S hG 0 0 rfl cpX11 wm_666 dX11_putFour_18 rfl (by omega) (by decide) ?_
  refine lv_aload_n hx hb dX11_putFour_21 rfl (lv_at hl 1 rfl) ?_
  refine g_get S hG 0 1 rfl cpX11 wm_667 dX11_putFour_22 rfl (by omega) (by decide) ?_
  refine lv_iload_n hx hb dX11_putFour_25 rfl (lv_at hl 2 rfl) ?_
  refine lv_iload_n hx hb dX11_putFour_26 rfl (lv_at hl 0 rfl) ?_
  refine lv_iushr hx hb dX11_putFour_27 rfl ?_
  refine lv_topi (fun x_7 ex_7 => ?_)
  refine lv_i2b hx hb dX11_putFour_28 rfl ?_
  refine g_bast S hG 1 rfl (by omega) dX11_putFour_29 (by unfold vp_in; decide) (fun H locs hG => ?_)
  refine lv_aload_n hx hb dX11_putFour_30 rfl (lv_at hl 1 rfl) ?_
  refine lv_dup hx hb dX11_putFour_31 rfl ?_
  refine g_get S hG 0 1 rfl cpX11 wm_667 dX11_putFour_32 rfl (by omega) (by decide) ?_
  refine lv_iconst (v := 1) hx hb dX11_putFour_35 (by decide) ?_
  refine lv_iadd hx hb dX11_putFour_36 ?_
  refine lv_topi (fun x_8 ex_8 => ?_)
  obtain rfl : x_8 = 10 := ex_8.trans (by decide)
  refine g_put (fs' := [.ref (b + 1), .int 10, .ref (b + 2), .ref (b + 12), .int 0, .int (-1), .ref (b + 33), .ref (b + 40), .ref (b + 47), .ref (b + 60), .ref (b + 67), .ref (b + 73), .ref (b + 80), .ref (b + 81), .ref (b + 82), .int 0, .int 0, .int (-1), .int (-1)]) S hG 0 1 rfl cpX11 wm_667 dX11_putFour_37 rfl (by omega) (by decide) (Nat.le_of_ble_eq_true rfl) rfl rfl rfl (fun H locs hG => ?_)
  refine lv_iinc (v := 8) (lv' := [(2, .int 8), (0, .ref (b + 0)), (1, .int a1)]) hx hb dX11_putFour_40 hl (k := 0) rfl (by decide) (by decide) rfl (fun ls hl => ?_)
  refine lv_goto (tgt := 3) hx hb dX11_putFour_43 (by decide) ?_
  refine lv_iload_n hx hb dX11_putFour_3 rfl (lv_at hl 0 rfl) ?_
  refine lv_if_lt (tgt := 46) hx hb dX11_putFour_4 (by decide) (fun c_9 => absurd c_9 (by decide)) (fun c_9 => ?_)
  refine lv_aload_n hx hb dX11_putFour_7 rfl (lv_at hl 1 rfl) ?_
  refine g_get S hG 0 1 rfl cpX11 wm_667 dX11_putFour_8 rfl (by omega) (by decide) ?_
  refine lv_sipush (v := 400) hx hb dX11_putFour_11 (by decide) ?_
  refine lv_icmp_ge (tgt := 46) hx hb dX11_putFour_14 (by decide) (fun c_10 => absurd c_10 (by decide)) (fun c_10 => ?_)
  refine lv_aload_n hx hb dX11_putFour_17 rfl (lv_at hl 1 rfl) ?_
  refine g_get S hG 0 0 rfl cpX11 wm_666 dX11_putFour_18 rfl (by omega) (by decide) ?_
  refine lv_aload_n hx hb dX11_putFour_21 rfl (lv_at hl 1 rfl) ?_
  refine g_get S hG 0 1 rfl cpX11 wm_667 dX11_putFour_22 rfl (by omega) (by decide) ?_
  refine lv_iload_n hx hb dX11_putFour_25 rfl (lv_at hl 2 rfl) ?_
  refine lv_iload_n hx hb dX11_putFour_26 rfl (lv_at hl 0 rfl) ?_
  refine lv_iushr hx hb dX11_putFour_27 rfl ?_
  refine lv_topi (fun x_11 ex_11 => ?_)
  refine lv_i2b hx hb dX11_putFour_28 rfl ?_
  refine g_bast S hG 1 rfl (by omega) dX11_putFour_29 (by unfold vp_in; decide) (fun H locs hG => ?_)
  refine lv_aload_n hx hb dX11_putFour_30 rfl (lv_at hl 1 rfl) ?_
  refine lv_dup hx hb dX11_putFour_31 rfl ?_
  refine g_get S hG 0 1 rfl cpX11 wm_667 dX11_putFour_32 rfl (by omega) (by decide) ?_
  refine lv_iconst (v := 1) hx hb dX11_putFour_35 (by decide) ?_
  refine lv_iadd hx hb dX11_putFour_36 ?_
  refine lv_topi (fun x_12 ex_12 => ?_)
  obtain rfl : x_12 = 11 := ex_12.trans (by decide)
  refine g_put (fs' := [.ref (b + 1), .int 11, .ref (b + 2), .ref (b + 12), .int 0, .int (-1), .ref (b + 33), .ref (b + 40), .ref (b + 47), .ref (b + 60), .ref (b + 67), .ref (b + 73), .ref (b + 80), .ref (b + 81), .ref (b + 82), .int 0, .int 0, .int (-1), .int (-1)]) S hG 0 1 rfl cpX11 wm_667 dX11_putFour_37 rfl (by omega) (by decide) (Nat.le_of_ble_eq_true rfl) rfl rfl rfl (fun H locs hG => ?_)
  refine lv_iinc (v := 0) (lv' := [(2, .int 0), (0, .ref (b + 0)), (1, .int a1)]) hx hb dX11_putFour_40 hl (k := 0) rfl (by decide) (by decide) rfl (fun ls hl => ?_)
  refine lv_goto (tgt := 3) hx hb dX11_putFour_43 (by decide) ?_
  refine lv_iload_n hx hb dX11_putFour_3 rfl (lv_at hl 0 rfl) ?_
  refine lv_if_lt (tgt := 46) hx hb dX11_putFour_4 (by decide) (fun c_13 => absurd c_13 (by decide)) (fun c_13 => ?_)
  refine lv_aload_n hx hb dX11_putFour_7 rfl (lv_at hl 1 rfl) ?_
  refine g_get S hG 0 1 rfl cpX11 wm_667 dX11_putFour_8 rfl (by omega) (by decide) ?_
  refine lv_sipush (v := 400) hx hb dX11_putFour_11 (by decide) ?_
  refine lv_icmp_ge (tgt := 46) hx hb dX11_putFour_14 (by decide) (fun c_14 => absurd c_14 (by decide)) (fun c_14 => ?_)
  refine lv_aload_n hx hb dX11_putFour_17 rfl (lv_at hl 1 rfl) ?_
  refine g_get S hG 0 0 rfl cpX11 wm_666 dX11_putFour_18 rfl (by omega) (by decide) ?_
  refine lv_aload_n hx hb dX11_putFour_21 rfl (lv_at hl 1 rfl) ?_
  refine g_get S hG 0 1 rfl cpX11 wm_667 dX11_putFour_22 rfl (by omega) (by decide) ?_
  refine lv_iload_n hx hb dX11_putFour_25 rfl (lv_at hl 2 rfl) ?_
  refine lv_iload_n hx hb dX11_putFour_26 rfl (lv_at hl 0 rfl) ?_
  refine lv_iushr hx hb dX11_putFour_27 rfl ?_
  refine lv_topi (fun x_15 ex_15 => ?_)
  refine lv_i2b hx hb dX11_putFour_28 rfl ?_
  refine g_bast S hG 1 rfl (by omega) dX11_putFour_29 (by unfold vp_in; decide) (fun H locs hG => ?_)
  refine lv_aload_n hx hb dX11_putFour_30 rfl (lv_at hl 1 rfl) ?_
  refine lv_dup hx hb dX11_putFour_31 rfl ?_
  refine g_get S hG 0 1 rfl cpX11 wm_667 dX11_putFour_32 rfl (by omega) (by decide) ?_
  refine lv_iconst (v := 1) hx hb dX11_putFour_35 (by decide) ?_
  refine lv_iadd hx hb dX11_putFour_36 ?_
  refine lv_topi (fun x_16 ex_16 => ?_)
  obtain rfl : x_16 = 12 := ex_16.trans (by decide)
  refine g_put (fs' := [.ref (b + 1), .int 12, .ref (b + 2), .ref (b + 12), .int 0, .int (-1), .ref (b + 33), .ref (b + 40), .ref (b + 47), .ref (b + 60), .ref (b + 67), .ref (b + 73), .ref (b + 80), .ref (b + 81), .ref (b + 82), .int 0, .int 0, .int (-1), .int (-1)]) S hG 0 1 rfl cpX11 wm_667 dX11_putFour_37 rfl (by omega) (by decide) (Nat.le_of_ble_eq_true rfl) rfl rfl rfl (fun H locs hG => ?_)
  refine lv_iinc (v := (-8)) (lv' := [(2, .int (-8)), (0, .ref (b + 0)), (1, .int a1)]) hx hb dX11_putFour_40 hl (k := 0) rfl (by decide) (by decide) rfl (fun ls hl => ?_)
  refine lv_goto (tgt := 3) hx hb dX11_putFour_43 (by decide) ?_
  refine lv_iload_n hx hb dX11_putFour_3 rfl (lv_at hl 0 rfl) ?_
  refine lv_if_lt (tgt := 46) hx hb dX11_putFour_4 (by decide) (fun c_17 => ?_) (fun c_17 => absurd c_17 (by decide))
  exact g_vret S hr hlk hG (by omega) dX11_putFour_46 ⟨Nat.le_of_ble_eq_true rfl, Nat.le_of_ble_eq_true rfl⟩ ⟨rfl, fun j hj0 hj1 => (upE_n (by omega)).trans ((upE_n (by omega)).trans ((upE_n (by omega)).trans ((upE_n (by omega)).trans ((upE_n (by omega)).trans ((upE_n (by omega)).trans ((upE_n (by omega)).trans ((upE_n (by omega)).trans (rfl)))))))), rfl, ⟨_, rfl⟩⟩
set_option maxHeartbeats 4000000 in
set_option maxRecDepth 100000 in
theorem qX11_putFour_12 (l : Launch) {D : va_G} {cy : Nat → ClassId} {b n : Nat} (hn : 105 ≤ n) {E : Nat → va_E} {f1 : Nat → Int32} (h0 : E 0 = .inr (11, [.ref (b + 1), .int 12, .ref (b + 2), .ref (b + 12), .int 0, .int (-1), .ref (b + 33), .ref (b + 40), .ref (b + 47), .ref (b + 60), .ref (b + 67), .ref (b + 73), .ref (b + 80), .ref (b + 81), .ref (b + 82), .int 0, .int 0, .int (-1), .int (-1)])) (h1 : E 1 = .inl (cy 0, 400, .inl f1))  (a1 : Int32) : gV l yX11_putFour cX11_putFour 3 0 0 0 D cy b n E [.ref (b + 0), .int a1] (fun u => u.1 = n ∧ (∀ j, j ≠ 0 → j ≠ 1 → u.2 j = E j) ∧ u.2 0 = .inr (11, [.ref (b + 1), .int 16, .ref (b + 2), .ref (b + 12), .int 0, .int (-1), .ref (b + 33), .ref (b + 40), .ref (b + 47), .ref (b + 60), .ref (b + 67), .ref (b + 73), .ref (b + 80), .ref (b + 81), .ref (b + 82), .int 0, .int 0, .int (-1), .int (-1)]) ∧ (∃ f : Nat → Int32, u.2 1 = .inl (cy 0, 400, .inl f))) := by
  refine gV_of (by decide) (Nat.le_of_ble_eq_true rfl) ?_
  intro p e s m args below meth c S hr hlk hin hsz ls hl hG
  have hx := S.1
  have hb := S.2.1
  have hl : lv_has ls 3 [(0, .ref (b + 0)), (1, .int a1)] := hl
  refine lv_bipush (v := 24) hx hb dX11_putFour_0 (by decide) ?_
  refine lv_istore_n (lv' := [(2, .int 24), (0, .ref (b + 0)), (1, .int a1)]) hx hb dX11_putFour_2 rfl hl (by decide) rfl (fun ls hl => ?_)
  refine lv_iload_n hx hb dX11_putFour_3 rfl (lv_at hl 0 rfl) ?_
  refine lv_if_lt (tgt := 46) hx hb dX11_putFour_4 (by decide) (fun c_1 => absurd c_1 (by decide)) (fun c_1 => ?_)
  refine lv_aload_n hx hb dX11_putFour_7 rfl (lv_at hl 1 rfl) ?_
  refine g_get S hG 0 1 h0 cpX11 wm_667 dX11_putFour_8 rfl (by omega) (by decide) ?_
  refine lv_sipush (v := 400) hx hb dX11_putFour_11 (by decide) ?_
  refine lv_icmp_ge (tgt := 46) hx hb dX11_putFour_14 (by decide) (fun c_2 => absurd c_2 (by decide)) (fun c_2 => ?_)
  refine lv_aload_n hx hb dX11_putFour_17 rfl (lv_at hl 1 rfl) ?_
  refine g_get S hG 0 0 h0 cpX11 wm_666 dX11_putFour_18 rfl (by omega) (by decide) ?_
  refine lv_aload_n hx hb dX11_putFour_21 rfl (lv_at hl 1 rfl) ?_
  refine g_get S hG 0 1 h0 cpX11 wm_667 dX11_putFour_22 rfl (by omega) (by decide) ?_
  refine lv_iload_n hx hb dX11_putFour_25 rfl (lv_at hl 2 rfl) ?_
  refine lv_iload_n hx hb dX11_putFour_26 rfl (lv_at hl 0 rfl) ?_
  refine lv_iushr hx hb dX11_putFour_27 rfl ?_
  refine lv_topi (fun x_3 ex_3 => ?_)
  refine lv_i2b hx hb dX11_putFour_28 rfl ?_
  refine g_bast S hG 1 h1 (by omega) dX11_putFour_29 (by unfold vp_in; decide) (fun H locs hG => ?_)
  refine lv_aload_n hx hb dX11_putFour_30 rfl (lv_at hl 1 rfl) ?_
  refine lv_dup hx hb dX11_putFour_31 rfl ?_
  refine g_get S hG 0 1 h0 cpX11 wm_667 dX11_putFour_32 rfl (by omega) (by decide) ?_
  refine lv_iconst (v := 1) hx hb dX11_putFour_35 (by decide) ?_
  refine lv_iadd hx hb dX11_putFour_36 ?_
  refine lv_topi (fun x_4 ex_4 => ?_)
  obtain rfl : x_4 = 13 := ex_4.trans (by decide)
  refine g_put (fs' := [.ref (b + 1), .int 13, .ref (b + 2), .ref (b + 12), .int 0, .int (-1), .ref (b + 33), .ref (b + 40), .ref (b + 47), .ref (b + 60), .ref (b + 67), .ref (b + 73), .ref (b + 80), .ref (b + 81), .ref (b + 82), .int 0, .int 0, .int (-1), .int (-1)]) S hG 0 1 h0 cpX11 wm_667 dX11_putFour_37 rfl (by omega) (by decide) (Nat.le_of_ble_eq_true rfl) rfl rfl rfl (fun H locs hG => ?_)
  refine lv_iinc (v := 16) (lv' := [(2, .int 16), (0, .ref (b + 0)), (1, .int a1)]) hx hb dX11_putFour_40 hl (k := 0) rfl (by decide) (by decide) rfl (fun ls hl => ?_)
  refine lv_goto (tgt := 3) hx hb dX11_putFour_43 (by decide) ?_
  refine lv_iload_n hx hb dX11_putFour_3 rfl (lv_at hl 0 rfl) ?_
  refine lv_if_lt (tgt := 46) hx hb dX11_putFour_4 (by decide) (fun c_5 => absurd c_5 (by decide)) (fun c_5 => ?_)
  refine lv_aload_n hx hb dX11_putFour_7 rfl (lv_at hl 1 rfl) ?_
  refine g_get S hG 0 1 rfl cpX11 wm_667 dX11_putFour_8 rfl (by omega) (by decide) ?_
  refine lv_sipush (v := 400) hx hb dX11_putFour_11 (by decide) ?_
  refine lv_icmp_ge (tgt := 46) hx hb dX11_putFour_14 (by decide) (fun c_6 => absurd c_6 (by decide)) (fun c_6 => ?_)
  refine lv_aload_n hx hb dX11_putFour_17 rfl (lv_at hl 1 rfl) ?_
  refine g_get S hG 0 0 rfl cpX11 wm_666 dX11_putFour_18 rfl (by omega) (by decide) ?_
  refine lv_aload_n hx hb dX11_putFour_21 rfl (lv_at hl 1 rfl) ?_
  refine g_get S hG 0 1 rfl cpX11 wm_667 dX11_putFour_22 rfl (by omega) (by decide) ?_
  refine lv_iload_n hx hb dX11_putFour_25 rfl (lv_at hl 2 rfl) ?_
  refine lv_iload_n hx hb dX11_putFour_26 rfl (lv_at hl 0 rfl) ?_
  refine lv_iushr hx hb dX11_putFour_27 rfl ?_
  refine lv_topi (fun x_7 ex_7 => ?_)
  refine lv_i2b hx hb dX11_putFour_28 rfl ?_
  refine g_bast S hG 1 rfl (by omega) dX11_putFour_29 (by unfold vp_in; decide) (fun H locs hG => ?_)
  refine lv_aload_n hx hb dX11_putFour_30 rfl (lv_at hl 1 rfl) ?_
  refine lv_dup hx hb dX11_putFour_31 rfl ?_
  refine g_get S hG 0 1 rfl cpX11 wm_667 dX11_putFour_32 rfl (by omega) (by decide) ?_
  refine lv_iconst (v := 1) hx hb dX11_putFour_35 (by decide) ?_
  refine lv_iadd hx hb dX11_putFour_36 ?_
  refine lv_topi (fun x_8 ex_8 => ?_)
  obtain rfl : x_8 = 14 := ex_8.trans (by decide)
  refine g_put (fs' := [.ref (b + 1), .int 14, .ref (b + 2), .ref (b + 12), .int 0, .int (-1), .ref (b + 33), .ref (b + 40), .ref (b + 47), .ref (b + 60), .ref (b + 67), .ref (b + 73), .ref (b + 80), .ref (b + 81), .ref (b + 82), .int 0, .int 0, .int (-1), .int (-1)]) S hG 0 1 rfl cpX11 wm_667 dX11_putFour_37 rfl (by omega) (by decide) (Nat.le_of_ble_eq_true rfl) rfl rfl rfl (fun H locs hG => ?_)
  refine lv_iinc (v := 8) (lv' := [(2, .int 8), (0, .ref (b + 0)), (1, .int a1)]) hx hb dX11_putFour_40 hl (k := 0) rfl (by decide) (by decide) rfl (fun ls hl => ?_)
  refine lv_goto (tgt := 3) hx hb dX11_putFour_43 (by decide) ?_
  refine lv_iload_n hx hb dX11_putFour_3 rfl (lv_at hl 0 rfl) ?_
  refine lv_if_lt (tgt := 46) hx hb dX11_putFour_4 (by decide) (fun c_9 => absurd c_9 (by decide)) (fun c_9 => ?_)
  refine lv_aload_n hx hb dX11_putFour_7 rfl (lv_at hl 1 rfl) ?_
  refine g_get S hG 0 1 rfl cpX11 wm_667 dX11_putFour_8 rfl (by omega) (by decide) ?_
  refine lv_sipush (v := 400) hx hb dX11_putFour_11 (by decide) ?_
  refine lv_icmp_ge (tgt := 46) hx hb dX11_putFour_14 (by decide) (fun c_10 => absurd c_10 (by decide)) (fun c_10 => ?_)
  refine lv_aload_n hx hb dX11_putFour_17 rfl (lv_at hl 1 rfl) ?_
  refine g_get S hG 0 0 rfl cpX11 wm_666 dX11_putFour_18 rfl (by omega) (by decide) ?_
  refine lv_aload_n hx hb dX11_putFour_21 rfl (lv_at hl 1 rfl) ?_
  refine g_get S hG 0 1 rfl cpX11 wm_667 dX11_putFour_22 rfl (by omega) (by decide) ?_
  refine lv_iload_n hx hb dX11_putFour_25 rfl (lv_at hl 2 rfl) ?_
  refine lv_iload_n hx hb dX11_putFour_26 rfl (lv_at hl 0 rfl) ?_
  refine lv_iushr hx hb dX11_putFour_27 rfl ?_
  refine lv_topi (fun x_11 ex_11 => ?_)
  refine lv_i2b hx hb dX11_putFour_28 rfl ?_
  refine g_bast S hG 1 rfl (by omega) dX11_putFour_29 (by unfold vp_in; decide) (fun H locs hG => ?_)
  refine lv_aload_n hx hb dX11_putFour_30 rfl (lv_at hl 1 rfl) ?_
  refine lv_dup hx hb dX11_putFour_31 rfl ?_
  refine g_get S hG 0 1 rfl cpX11 wm_667 dX11_putFour_32 rfl (by omega) (by decide) ?_
  refine lv_iconst (v := 1) hx hb dX11_putFour_35 (by decide) ?_
  refine lv_iadd hx hb dX11_putFour_36 ?_
  refine lv_topi (fun x_12 ex_12 => ?_)
  obtain rfl : x_12 = 15 := ex_12.trans (by decide)
  refine g_put (fs' := [.ref (b + 1), .int 15, .ref (b + 2), .ref (b + 12), .int 0, .int (-1), .ref (b + 33), .ref (b + 40), .ref (b + 47), .ref (b + 60), .ref (b + 67), .ref (b + 73), .ref (b + 80), .ref (b + 81), .ref (b + 82), .int 0, .int 0, .int (-1), .int (-1)]) S hG 0 1 rfl cpX11 wm_667 dX11_putFour_37 rfl (by omega) (by decide) (Nat.le_of_ble_eq_true rfl) rfl rfl rfl (fun H locs hG => ?_)
  refine lv_iinc (v := 0) (lv' := [(2, .int 0), (0, .ref (b + 0)), (1, .int a1)]) hx hb dX11_putFour_40 hl (k := 0) rfl (by decide) (by decide) rfl (fun ls hl => ?_)
  refine lv_goto (tgt := 3) hx hb dX11_putFour_43 (by decide) ?_
  refine lv_iload_n hx hb dX11_putFour_3 rfl (lv_at hl 0 rfl) ?_
  refine lv_if_lt (tgt := 46) hx hb dX11_putFour_4 (by decide) (fun c_13 => absurd c_13 (by decide)) (fun c_13 => ?_)
  refine lv_aload_n hx hb dX11_putFour_7 rfl (lv_at hl 1 rfl) ?_
  refine g_get S hG 0 1 rfl cpX11 wm_667 dX11_putFour_8 rfl (by omega) (by decide) ?_
  refine lv_sipush (v := 400) hx hb dX11_putFour_11 (by decide) ?_
  refine lv_icmp_ge (tgt := 46) hx hb dX11_putFour_14 (by decide) (fun c_14 => absurd c_14 (by decide)) (fun c_14 => ?_)
  refine lv_aload_n hx hb dX11_putFour_17 rfl (lv_at hl 1 rfl) ?_
  refine g_get S hG 0 0 rfl cpX11 wm_666 dX11_putFour_18 rfl (by omega) (by decide) ?_
  refine lv_aload_n hx hb dX11_putFour_21 rfl (lv_at hl 1 rfl) ?_
  refine g_get S hG 0 1 rfl cpX11 wm_667 dX11_putFour_22 rfl (by omega) (by decide) ?_
  refine lv_iload_n hx hb dX11_putFour_25 rfl (lv_at hl 2 rfl) ?_
  refine lv_iload_n hx hb dX11_putFour_26 rfl (lv_at hl 0 rfl) ?_
  refine lv_iushr hx hb dX11_putFour_27 rfl ?_
  refine lv_topi (fun x_15 ex_15 => ?_)
  refine lv_i2b hx hb dX11_putFour_28 rfl ?_
  refine g_bast S hG 1 rfl (by omega) dX11_putFour_29 (by unfold vp_in; decide) (fun H locs hG => ?_)
  refine lv_aload_n hx hb dX11_putFour_30 rfl (lv_at hl 1 rfl) ?_
  refine lv_dup hx hb dX11_putFour_31 rfl ?_
  refine g_get S hG 0 1 rfl cpX11 wm_667 dX11_putFour_32 rfl (by omega) (by decide) ?_
  refine lv_iconst (v := 1) hx hb dX11_putFour_35 (by decide) ?_
  refine lv_iadd hx hb dX11_putFour_36 ?_
  refine lv_topi (fun x_16 ex_16 => ?_)
  obtain rfl : x_16 = 16 := ex_16.trans (by decide)
  refine g_put (fs' := [.ref (b + 1), .int 16, .ref (b + 2), .ref (b + 12), .int 0, .int (-1), .ref (b + 33), .ref (b + 40), .ref (b + 47), .ref (b + 60), .ref (b + 67), .ref (b + 73), .ref (b + 80), .ref (b + 81), .ref (b + 82), .int 0, .int 0, .int (-1), .int (-1)]) S hG 0 1 rfl cpX11 wm_667 dX11_putFour_37 rfl (by omega) (by decide) (Nat.le_of_ble_eq_true rfl) rfl rfl rfl (fun H locs hG => ?_)
  refine lv_iinc (v := (-8)) (lv' := [(2, .int (-8)), (0, .ref (b + 0)), (1, .int a1)]) hx hb dX11_putFour_40 hl (k := 0) rfl (by decide) (by decide) rfl (fun ls hl => ?_)
  refine lv_goto (tgt := 3) hx hb dX11_putFour_43 (by decide) ?_
  refine lv_iload_n hx hb dX11_putFour_3 rfl (lv_at hl 0 rfl) ?_
  refine lv_if_lt (tgt := 46) hx hb dX11_putFour_4 (by decide) (fun c_17 => ?_) (fun c_17 => absurd c_17 (by decide))
  exact g_vret S hr hlk hG (by omega) dX11_putFour_46 ⟨Nat.le_of_ble_eq_true rfl, Nat.le_of_ble_eq_true rfl⟩ ⟨rfl, fun j hj0 hj1 => (upE_n (by omega)).trans ((upE_n (by omega)).trans ((upE_n (by omega)).trans ((upE_n (by omega)).trans ((upE_n (by omega)).trans ((upE_n (by omega)).trans ((upE_n (by omega)).trans ((upE_n (by omega)).trans (rfl)))))))), rfl, ⟨_, rfl⟩⟩
set_option maxHeartbeats 4000000 in
set_option maxRecDepth 100000 in
theorem qX11_putFour_16 (l : Launch) {D : va_G} {cy : Nat → ClassId} {b n : Nat} (hn : 105 ≤ n) {E : Nat → va_E} {f1 : Nat → Int32} (h0 : E 0 = .inr (11, [.ref (b + 1), .int 16, .ref (b + 2), .ref (b + 12), .int 0, .int (-1), .ref (b + 33), .ref (b + 40), .ref (b + 47), .ref (b + 60), .ref (b + 67), .ref (b + 73), .ref (b + 80), .ref (b + 81), .ref (b + 82), .int 0, .int 0, .int (-1), .int (-1)])) (h1 : E 1 = .inl (cy 0, 400, .inl f1))  (a1 : Int32) : gV l yX11_putFour cX11_putFour 3 0 0 0 D cy b n E [.ref (b + 0), .int a1] (fun u => u.1 = n ∧ (∀ j, j ≠ 0 → j ≠ 1 → u.2 j = E j) ∧ u.2 0 = .inr (11, [.ref (b + 1), .int 20, .ref (b + 2), .ref (b + 12), .int 0, .int (-1), .ref (b + 33), .ref (b + 40), .ref (b + 47), .ref (b + 60), .ref (b + 67), .ref (b + 73), .ref (b + 80), .ref (b + 81), .ref (b + 82), .int 0, .int 0, .int (-1), .int (-1)]) ∧ (∃ f : Nat → Int32, u.2 1 = .inl (cy 0, 400, .inl f))) := by
  refine gV_of (by decide) (Nat.le_of_ble_eq_true rfl) ?_
  intro p e s m args below meth c S hr hlk hin hsz ls hl hG
  have hx := S.1
  have hb := S.2.1
  have hl : lv_has ls 3 [(0, .ref (b + 0)), (1, .int a1)] := hl
  refine lv_bipush (v := 24) hx hb dX11_putFour_0 (by decide) ?_
  refine lv_istore_n (lv' := [(2, .int 24), (0, .ref (b + 0)), (1, .int a1)]) hx hb dX11_putFour_2 rfl hl (by decide) rfl (fun ls hl => ?_)
  refine lv_iload_n hx hb dX11_putFour_3 rfl (lv_at hl 0 rfl) ?_
  refine lv_if_lt (tgt := 46) hx hb dX11_putFour_4 (by decide) (fun c_1 => absurd c_1 (by decide)) (fun c_1 => ?_)
  refine lv_aload_n hx hb dX11_putFour_7 rfl (lv_at hl 1 rfl) ?_
  refine g_get S hG 0 1 h0 cpX11 wm_667 dX11_putFour_8 rfl (by omega) (by decide) ?_
  refine lv_sipush (v := 400) hx hb dX11_putFour_11 (by decide) ?_
  refine lv_icmp_ge (tgt := 46) hx hb dX11_putFour_14 (by decide) (fun c_2 => absurd c_2 (by decide)) (fun c_2 => ?_)
  refine lv_aload_n hx hb dX11_putFour_17 rfl (lv_at hl 1 rfl) ?_
  refine g_get S hG 0 0 h0 cpX11 wm_666 dX11_putFour_18 rfl (by omega) (by decide) ?_
  refine lv_aload_n hx hb dX11_putFour_21 rfl (lv_at hl 1 rfl) ?_
  refine g_get S hG 0 1 h0 cpX11 wm_667 dX11_putFour_22 rfl (by omega) (by decide) ?_
  refine lv_iload_n hx hb dX11_putFour_25 rfl (lv_at hl 2 rfl) ?_
  refine lv_iload_n hx hb dX11_putFour_26 rfl (lv_at hl 0 rfl) ?_
  refine lv_iushr hx hb dX11_putFour_27 rfl ?_
  refine lv_topi (fun x_3 ex_3 => ?_)
  refine lv_i2b hx hb dX11_putFour_28 rfl ?_
  refine g_bast S hG 1 h1 (by omega) dX11_putFour_29 (by unfold vp_in; decide) (fun H locs hG => ?_)
  refine lv_aload_n hx hb dX11_putFour_30 rfl (lv_at hl 1 rfl) ?_
  refine lv_dup hx hb dX11_putFour_31 rfl ?_
  refine g_get S hG 0 1 h0 cpX11 wm_667 dX11_putFour_32 rfl (by omega) (by decide) ?_
  refine lv_iconst (v := 1) hx hb dX11_putFour_35 (by decide) ?_
  refine lv_iadd hx hb dX11_putFour_36 ?_
  refine lv_topi (fun x_4 ex_4 => ?_)
  obtain rfl : x_4 = 17 := ex_4.trans (by decide)
  refine g_put (fs' := [.ref (b + 1), .int 17, .ref (b + 2), .ref (b + 12), .int 0, .int (-1), .ref (b + 33), .ref (b + 40), .ref (b + 47), .ref (b + 60), .ref (b + 67), .ref (b + 73), .ref (b + 80), .ref (b + 81), .ref (b + 82), .int 0, .int 0, .int (-1), .int (-1)]) S hG 0 1 h0 cpX11 wm_667 dX11_putFour_37 rfl (by omega) (by decide) (Nat.le_of_ble_eq_true rfl) rfl rfl rfl (fun H locs hG => ?_)
  refine lv_iinc (v := 16) (lv' := [(2, .int 16), (0, .ref (b + 0)), (1, .int a1)]) hx hb dX11_putFour_40 hl (k := 0) rfl (by decide) (by decide) rfl (fun ls hl => ?_)
  refine lv_goto (tgt := 3) hx hb dX11_putFour_43 (by decide) ?_
  refine lv_iload_n hx hb dX11_putFour_3 rfl (lv_at hl 0 rfl) ?_
  refine lv_if_lt (tgt := 46) hx hb dX11_putFour_4 (by decide) (fun c_5 => absurd c_5 (by decide)) (fun c_5 => ?_)
  refine lv_aload_n hx hb dX11_putFour_7 rfl (lv_at hl 1 rfl) ?_
  refine g_get S hG 0 1 rfl cpX11 wm_667 dX11_putFour_8 rfl (by omega) (by decide) ?_
  refine lv_sipush (v := 400) hx hb dX11_putFour_11 (by decide) ?_
  refine lv_icmp_ge (tgt := 46) hx hb dX11_putFour_14 (by decide) (fun c_6 => absurd c_6 (by decide)) (fun c_6 => ?_)
  refine lv_aload_n hx hb dX11_putFour_17 rfl (lv_at hl 1 rfl) ?_
  refine g_get S hG 0 0 rfl cpX11 wm_666 dX11_putFour_18 rfl (by omega) (by decide) ?_
  refine lv_aload_n hx hb dX11_putFour_21 rfl (lv_at hl 1 rfl) ?_
  refine g_get S hG 0 1 rfl cpX11 wm_667 dX11_putFour_22 rfl (by omega) (by decide) ?_
  refine lv_iload_n hx hb dX11_putFour_25 rfl (lv_at hl 2 rfl) ?_
  refine lv_iload_n hx hb dX11_putFour_26 rfl (lv_at hl 0 rfl) ?_
  refine lv_iushr hx hb dX11_putFour_27 rfl ?_
  refine lv_topi (fun x_7 ex_7 => ?_)
  refine lv_i2b hx hb dX11_putFour_28 rfl ?_
  refine g_bast S hG 1 rfl (by omega) dX11_putFour_29 (by unfold vp_in; decide) (fun H locs hG => ?_)
  refine lv_aload_n hx hb dX11_putFour_30 rfl (lv_at hl 1 rfl) ?_
  refine lv_dup hx hb dX11_putFour_31 rfl ?_
  refine g_get S hG 0 1 rfl cpX11 wm_667 dX11_putFour_32 rfl (by omega) (by decide) ?_
  refine lv_iconst (v := 1) hx hb dX11_putFour_35 (by decide) ?_
  refine lv_iadd hx hb dX11_putFour_36 ?_
  refine lv_topi (fun x_8 ex_8 => ?_)
  obtain rfl : x_8 = 18 := ex_8.trans (by decide)
  refine g_put (fs' := [.ref (b + 1), .int 18, .ref (b + 2), .ref (b + 12), .int 0, .int (-1), .ref (b + 33), .ref (b + 40), .ref (b + 47), .ref (b + 60), .ref (b + 67), .ref (b + 73), .ref (b + 80), .ref (b + 81), .ref (b + 82), .int 0, .int 0, .int (-1), .int (-1)]) S hG 0 1 rfl cpX11 wm_667 dX11_putFour_37 rfl (by omega) (by decide) (Nat.le_of_ble_eq_true rfl) rfl rfl rfl (fun H locs hG => ?_)
  refine lv_iinc (v := 8) (lv' := [(2, .int 8), (0, .ref (b + 0)), (1, .int a1)]) hx hb dX11_putFour_40 hl (k := 0) rfl (by decide) (by decide) rfl (fun ls hl => ?_)
  refine lv_goto (tgt := 3) hx hb dX11_putFour_43 (by decide) ?_
  refine lv_iload_n hx hb dX11_putFour_3 rfl (lv_at hl 0 rfl) ?_
  refine lv_if_lt (tgt := 46) hx hb dX11_putFour_4 (by decide) (fun c_9 => absurd c_9 (by decide)) (fun c_9 => ?_)
  refine lv_aload_n hx hb dX11_putFour_7 rfl (lv_at hl 1 rfl) ?_
  refine g_get S hG 0 1 rfl cpX11 wm_667 dX11_putFour_8 rfl (by omega) (by decide) ?_
  refine lv_sipush (v := 400) hx hb dX11_putFour_11 (by decide) ?_
  refine lv_icmp_ge (tgt := 46) hx hb dX11_putFour_14 (by decide) (fun c_10 => absurd c_10 (by decide)) (fun c_10 => ?_)
  refine lv_aload_n hx hb dX11_putFour_17 rfl (lv_at hl 1 rfl) ?_
  refine g_get S hG 0 0 rfl cpX11 wm_666 dX11_putFour_18 rfl (by omega) (by decide) ?_
  refine lv_aload_n hx hb dX11_putFour_21 rfl (lv_at hl 1 rfl) ?_
  refine g_get S hG 0 1 rfl cpX11 wm_667 dX11_putFour_22 rfl (by omega) (by decide) ?_
  refine lv_iload_n hx hb dX11_putFour_25 rfl (lv_at hl 2 rfl) ?_
  refine lv_iload_n hx hb dX11_putFour_26 rfl (lv_at hl 0 rfl) ?_
  refine lv_iushr hx hb dX11_putFour_27 rfl ?_
  refine lv_topi (fun x_11 ex_11 => ?_)
  refine lv_i2b hx hb dX11_putFour_28 rfl ?_
  refine g_bast S hG 1 rfl (by omega) dX11_putFour_29 (by unfold vp_in; decide) (fun H locs hG => ?_)
  refine lv_aload_n hx hb dX11_putFour_30 rfl (lv_at hl 1 rfl) ?_
  refine lv_dup hx hb dX11_putFour_31 rfl ?_
  refine g_get S hG 0 1 rfl cpX11 wm_667 dX11_putFour_32 rfl (by omega) (by decide) ?_
  refine lv_iconst (v := 1) hx hb dX11_putFour_35 (by decide) ?_
  refine lv_iadd hx hb dX11_putFour_36 ?_
  refine lv_topi (fun x_12 ex_12 => ?_)
  obtain rfl : x_12 = 19 := ex_12.trans (by decide)
  refine g_put (fs' := [.ref (b + 1), .int 19, .ref (b + 2), .ref (b + 12), .int 0, .int (-1), .ref (b + 33), .ref (b + 40), .ref (b + 47), .ref (b + 60), .ref (b + 67), .ref (b + 73), .ref (b + 80), .ref (b + 81), .ref (b + 82), .int 0, .int 0, .int (-1), .int (-1)]) S hG 0 1 rfl cpX11 wm_667 dX11_putFour_37 rfl (by omega) (by decide) (Nat.le_of_ble_eq_true rfl) rfl rfl rfl (fun H locs hG => ?_)
  refine lv_iinc (v := 0) (lv' := [(2, .int 0), (0, .ref (b + 0)), (1, .int a1)]) hx hb dX11_putFour_40 hl (k := 0) rfl (by decide) (by decide) rfl (fun ls hl => ?_)
  refine lv_goto (tgt := 3) hx hb dX11_putFour_43 (by decide) ?_
  refine lv_iload_n hx hb dX11_putFour_3 rfl (lv_at hl 0 rfl) ?_
  refine lv_if_lt (tgt := 46) hx hb dX11_putFour_4 (by decide) (fun c_13 => absurd c_13 (by decide)) (fun c_13 => ?_)
  refine lv_aload_n hx hb dX11_putFour_7 rfl (lv_at hl 1 rfl) ?_
  refine g_get S hG 0 1 rfl cpX11 wm_667 dX11_putFour_8 rfl (by omega) (by decide) ?_
  refine lv_sipush (v := 400) hx hb dX11_putFour_11 (by decide) ?_
  refine lv_icmp_ge (tgt := 46) hx hb dX11_putFour_14 (by decide) (fun c_14 => absurd c_14 (by decide)) (fun c_14 => ?_)
  refine lv_aload_n hx hb dX11_putFour_17 rfl (lv_at hl 1 rfl) ?_
  refine g_get S hG 0 0 rfl cpX11 wm_666 dX11_putFour_18 rfl (by omega) (by decide) ?_
  refine lv_aload_n hx hb dX11_putFour_21 rfl (lv_at hl 1 rfl) ?_
  refine g_get S hG 0 1 rfl cpX11 wm_667 dX11_putFour_22 rfl (by omega) (by decide) ?_
  refine lv_iload_n hx hb dX11_putFour_25 rfl (lv_at hl 2 rfl) ?_
  refine lv_iload_n hx hb dX11_putFour_26 rfl (lv_at hl 0 rfl) ?_
  refine lv_iushr hx hb dX11_putFour_27 rfl ?_
  refine lv_topi (fun x_15 ex_15 => ?_)
  refine lv_i2b hx hb dX11_putFour_28 rfl ?_
  refine g_bast S hG 1 rfl (by omega) dX11_putFour_29 (by unfold vp_in; decide) (fun H locs hG => ?_)
  refine lv_aload_n hx hb dX11_putFour_30 rfl (lv_at hl 1 rfl) ?_
  refine lv_dup hx hb dX11_putFour_31 rfl ?_
  refine g_get S hG 0 1 rfl cpX11 wm_667 dX11_putFour_32 rfl (by omega) (by decide) ?_
  refine lv_iconst (v := 1) hx hb dX11_putFour_35 (by decide) ?_
  refine lv_iadd hx hb dX11_putFour_36 ?_
  refine lv_topi (fun x_16 ex_16 => ?_)
  obtain rfl : x_16 = 20 := ex_16.trans (by decide)
  refine g_put (fs' := [.ref (b + 1), .int 20, .ref (b + 2), .ref (b + 12), .int 0, .int (-1), .ref (b + 33), .ref (b + 40), .ref (b + 47), .ref (b + 60), .ref (b + 67), .ref (b + 73), .ref (b + 80), .ref (b + 81), .ref (b + 82), .int 0, .int 0, .int (-1), .int (-1)]) S hG 0 1 rfl cpX11 wm_667 dX11_putFour_37 rfl (by omega) (by decide) (Nat.le_of_ble_eq_true rfl) rfl rfl rfl (fun H locs hG => ?_)
  refine lv_iinc (v := (-8)) (lv' := [(2, .int (-8)), (0, .ref (b + 0)), (1, .int a1)]) hx hb dX11_putFour_40 hl (k := 0) rfl (by decide) (by decide) rfl (fun ls hl => ?_)
  refine lv_goto (tgt := 3) hx hb dX11_putFour_43 (by decide) ?_
  refine lv_iload_n hx hb dX11_putFour_3 rfl (lv_at hl 0 rfl) ?_
  refine lv_if_lt (tgt := 46) hx hb dX11_putFour_4 (by decide) (fun c_17 => ?_) (fun c_17 => absurd c_17 (by decide))
  exact g_vret S hr hlk hG (by omega) dX11_putFour_46 ⟨Nat.le_of_ble_eq_true rfl, Nat.le_of_ble_eq_true rfl⟩ ⟨rfl, fun j hj0 hj1 => (upE_n (by omega)).trans ((upE_n (by omega)).trans ((upE_n (by omega)).trans ((upE_n (by omega)).trans ((upE_n (by omega)).trans ((upE_n (by omega)).trans ((upE_n (by omega)).trans ((upE_n (by omega)).trans (rfl)))))))), rfl, ⟨_, rfl⟩⟩
theorem wV_11_120 : gWV "GrownKinds" 120 yX11_putFour cX11_putFour 3 none := ⟨wm_728, wm_730, wm_0, wm_176, wm_731, by decide +kernel, by decide +kernel⟩
set_option maxHeartbeats 4000000 in
set_option maxRecDepth 100000 in
theorem qX11_feed (l : Launch) {D : va_G} {cy : Nat → ClassId} {b n : Nat} (hn : 105 ≤ n) {E : Nat → va_E}  (h0 : E 0 = Z0 b cy) (h1 : E 1 = Z1 b cy)  (a1 : Int32) (a2 : Int32) (a3 : Int32) (a4 : Int32) (a5 : Int32) : gI l yX11_feed cX11_feed 6 (some .int) 1 0 0 D cy b n E [.ref (b + 0), .int a1, .int a2, .int a3, .int a4, .int a5] (fun r u => r = 20 ∧ u.1 = n ∧ ∀ j, 83 ≤ j → u.2 j = E j) := by
  refine gI_of (by decide) (Nat.le_of_ble_eq_true rfl) ?_
  intro p e s m args below meth c S hr hlk hin hsz ls hl hG
  have hx := S.1
  have hb := S.2.1
  have hl : lv_has ls 6 [(0, .ref (b + 0)), (1, .int a1), (2, .int a2), (3, .int a3), (4, .int a4), (5, .int a5)] := hl
  refine lv_aload_n hx hb dX11_feed_0 rfl (lv_at hl 0 rfl) ?_
  refine g_get S hG 0 1 h0 cpX11 wm_667 dX11_feed_1 rfl (by omega) (by decide) ?_
  refine lv_bipush (v := 20) hx hb dX11_feed_4 (by decide) ?_
  refine lv_iadd hx hb dX11_feed_6 ?_
  refine lv_topi (fun x_1 ex_1 => ?_)
  obtain rfl : x_1 = 20 := ex_1.trans (by decide)
  refine lv_sipush (v := 400) hx hb dX11_feed_7 (by decide) ?_
  refine lv_icmp_le (tgt := 15) hx hb dX11_feed_10 (by decide) (fun c_2 => ?_) (fun c_2 => absurd c_2 (by decide))
  refine lv_aload_n hx hb dX11_feed_15 rfl (lv_at hl 0 rfl) ?_
  refine lv_iload_n hx hb dX11_feed_16 rfl (lv_at hl 1 rfl) ?_
  refine g_vv (As := [.int a1]) (rest := []) S hG (by omega) (qX11_putFour_0 l hn (by exact h0) (by exact h1) a1) wV_11_120 h0 cpX11 (by omega) dX11_feed_17 rfl hl.1 (ar := 1) (by decide +kernel) rfl ⟨Nat.le_of_ble_eq_true rfl, Nat.le_of_ble_eq_true rfl, Nat.le_of_ble_eq_true rfl, Nat.le_of_ble_eq_true rfl⟩ (Nat.le_of_ble_eq_true rfl) (fun u_E_3 H locs hp_4 hG => ?_)
  obtain ⟨n_E_3, E_3⟩ := u_E_3
  dsimp only at hp_4 hG
  obtain ⟨en_6, hlo_5, g_7, ⟨F_9, g_8⟩⟩ := hp_4
  have hG := gW_eq2 hG en_6 rfl
  refine lv_aload_n hx hb dX11_feed_20 rfl (lv_at hl 0 rfl) ?_
  refine lv_iload_n hx hb dX11_feed_21 rfl (lv_at hl 2 rfl) ?_
  refine g_vv (As := [.int a2]) (rest := []) S hG (by omega) (qX11_putFour_4 l hn (by exact g_7) (by exact g_8) a2) wV_11_120 g_7 cpX11 (by omega) dX11_feed_22 rfl hl.1 (ar := 1) (by decide +kernel) rfl ⟨Nat.le_of_ble_eq_true rfl, Nat.le_of_ble_eq_true rfl, Nat.le_of_ble_eq_true rfl, Nat.le_of_ble_eq_true rfl⟩ (Nat.le_of_ble_eq_true rfl) (fun u_E_10 H locs hp_11 hG => ?_)
  obtain ⟨n_E_10, E_10⟩ := u_E_10
  dsimp only at hp_11 hG
  obtain ⟨en_13, hlo_12, g_14, ⟨F_16, g_15⟩⟩ := hp_11
  have hG := gW_eq2 hG en_13 rfl
  refine lv_aload_n hx hb dX11_feed_25 rfl (lv_at hl 0 rfl) ?_
  refine lv_iload_n hx hb dX11_feed_26 rfl (lv_at hl 3 rfl) ?_
  refine g_vv (As := [.int a3]) (rest := []) S hG (by omega) (qX11_putFour_8 l hn (by exact g_14) (by exact g_15) a3) wV_11_120 g_14 cpX11 (by omega) dX11_feed_27 rfl hl.1 (ar := 1) (by decide +kernel) rfl ⟨Nat.le_of_ble_eq_true rfl, Nat.le_of_ble_eq_true rfl, Nat.le_of_ble_eq_true rfl, Nat.le_of_ble_eq_true rfl⟩ (Nat.le_of_ble_eq_true rfl) (fun u_E_17 H locs hp_18 hG => ?_)
  obtain ⟨n_E_17, E_17⟩ := u_E_17
  dsimp only at hp_18 hG
  obtain ⟨en_20, hlo_19, g_21, ⟨F_23, g_22⟩⟩ := hp_18
  have hG := gW_eq2 hG en_20 rfl
  refine lv_aload_n hx hb dX11_feed_30 rfl (lv_at hl 0 rfl) ?_
  refine lv_iload hx hb dX11_feed_31 (lv_at hl 4 rfl) ?_
  refine g_vv (As := [.int a4]) (rest := []) S hG (by omega) (qX11_putFour_12 l hn (by exact g_21) (by exact g_22) a4) wV_11_120 g_21 cpX11 (by omega) dX11_feed_33 rfl hl.1 (ar := 1) (by decide +kernel) rfl ⟨Nat.le_of_ble_eq_true rfl, Nat.le_of_ble_eq_true rfl, Nat.le_of_ble_eq_true rfl, Nat.le_of_ble_eq_true rfl⟩ (Nat.le_of_ble_eq_true rfl) (fun u_E_24 H locs hp_25 hG => ?_)
  obtain ⟨n_E_24, E_24⟩ := u_E_24
  dsimp only at hp_25 hG
  obtain ⟨en_27, hlo_26, g_28, ⟨F_30, g_29⟩⟩ := hp_25
  have hG := gW_eq2 hG en_27 rfl
  refine lv_aload_n hx hb dX11_feed_36 rfl (lv_at hl 0 rfl) ?_
  refine lv_iload hx hb dX11_feed_37 (lv_at hl 5 rfl) ?_
  refine g_vv (As := [.int a5]) (rest := []) S hG (by omega) (qX11_putFour_16 l hn (by exact g_28) (by exact g_29) a5) wV_11_120 g_28 cpX11 (by omega) dX11_feed_39 rfl hl.1 (ar := 1) (by decide +kernel) rfl ⟨Nat.le_of_ble_eq_true rfl, Nat.le_of_ble_eq_true rfl, Nat.le_of_ble_eq_true rfl, Nat.le_of_ble_eq_true rfl⟩ (Nat.le_of_ble_eq_true rfl) (fun u_E_31 H locs hp_32 hG => ?_)
  obtain ⟨n_E_31, E_31⟩ := u_E_31
  dsimp only at hp_32 hG
  obtain ⟨en_34, hlo_33, g_35, ⟨F_37, g_36⟩⟩ := hp_32
  have hG := gW_eq2 hG en_34 rfl
  refine lv_aload_n hx hb dX11_feed_42 rfl (lv_at hl 0 rfl) ?_
  refine g_get S hG 0 1 g_35 cpX11 wm_667 dX11_feed_43 rfl (by omega) (by decide) ?_
  exact g_iret S hr hlk hG (by omega) dX11_feed_46 ⟨Nat.le_of_ble_eq_true rfl, Nat.le_of_ble_eq_true rfl⟩ ⟨rfl, rfl, fun j hj => (hlo_33 j (by omega) (by omega) ).trans ((hlo_26 j (by omega) (by omega) ).trans ((hlo_19 j (by omega) (by omega) ).trans ((hlo_12 j (by omega) (by omega) ).trans ((hlo_5 j (by omega) (by omega) ).trans (rfl)))))⟩
set_option maxHeartbeats 4000000 in
set_option maxRecDepth 100000 in
theorem qX12_feed (l : Launch) {D : va_G} {cy : Nat → ClassId} {b n : Nat} (hn : 105 ≤ n) {E : Nat → va_E}  (h83 : E 83 = Z83 b cy) (h86 : E 86 = Z86 b cy)  (a1 : Int32) (a2 : Int32) (a3 : Int32) (a4 : Int32) (a5 : Int32) : gI l yX12_feed cX12_feed 8 (some .int) 0 1 5 D cy b n E [.ref (b + 83), .int a1, .int a2, .int a3, .int a4, .int a5] (fun r _ => r = 20) := by
  refine gI_of (by decide) (Nat.le_of_ble_eq_true rfl) ?_
  intro p e s m args below meth c S hr hlk hin hsz ls hl hG
  have hx := S.1
  have hb := S.2.1
  have hl : lv_has ls 8 [(0, .ref (b + 83)), (1, .int a1), (2, .int a2), (3, .int a3), (4, .int a4), (5, .int a5)] := hl
  refine lv_aload_n hx hb dX12_feed_0 rfl (lv_at hl 0 rfl) ?_
  refine g_get S hG 83 3 h83 cpX12 wm_1677 dX12_feed_1 rfl (by omega) (by decide) ?_
  refine lv_sipush (v := 380) hx hb dX12_feed_4 (by decide) ?_
  refine lv_icmp_le (tgt := 12) hx hb dX12_feed_7 (by decide) (fun c_1 => ?_) (fun c_1 => absurd c_1 (by decide))
  refine lv_iconst (v := 5) hx hb dX12_feed_12 (by decide) ?_
  refine g_newa (atype := .int) (ty := .int) (N := 5) (a0 := (5, .inl (fun _ => 0))) S hG (by omega) 1 rfl rfl (fun h => h) wm_305 (fun _ => rfl) dX12_feed_13 (by decide) (by decide) (by decide) ⟨Nat.le_of_ble_eq_true rfl, Nat.le_of_ble_eq_true rfl⟩ (fun H hG => ?_)
  refine lv_dup hx hb dX12_feed_15 rfl ?_
  refine lv_iconst (v := 0) hx hb dX12_feed_16 (by decide) ?_
  refine lv_iload_n hx hb dX12_feed_17 rfl (lv_at hl 1 rfl) ?_
  refine g_iast S hG n upE_s (by omega) dX12_feed_18 (by unfold vp_in; decide) (fun H locs hG => ?_)
  refine lv_dup hx hb dX12_feed_19 rfl ?_
  refine lv_iconst (v := 1) hx hb dX12_feed_20 (by decide) ?_
  refine lv_iload_n hx hb dX12_feed_21 rfl (lv_at hl 2 rfl) ?_
  refine g_iast S hG n upE_s (by omega) dX12_feed_22 (by unfold vp_in; decide) (fun H locs hG => ?_)
  refine lv_dup hx hb dX12_feed_23 rfl ?_
  refine lv_iconst (v := 2) hx hb dX12_feed_24 (by decide) ?_
  refine lv_iload_n hx hb dX12_feed_25 rfl (lv_at hl 3 rfl) ?_
  refine g_iast S hG n upE_s (by omega) dX12_feed_26 (by unfold vp_in; decide) (fun H locs hG => ?_)
  refine lv_dup hx hb dX12_feed_27 rfl ?_
  refine lv_iconst (v := 3) hx hb dX12_feed_28 (by decide) ?_
  refine lv_iload hx hb dX12_feed_29 (lv_at hl 4 rfl) ?_
  refine g_iast S hG n upE_s (by omega) dX12_feed_31 (by unfold vp_in; decide) (fun H locs hG => ?_)
  refine lv_dup hx hb dX12_feed_32 rfl ?_
  refine lv_iconst (v := 4) hx hb dX12_feed_33 (by decide) ?_
  refine lv_iload hx hb dX12_feed_34 (lv_at hl 5 rfl) ?_
  refine g_iast S hG n upE_s (by omega) dX12_feed_36 (by unfold vp_in; decide) (fun H locs hG => ?_)
  refine lv_astore (lv' := [(6, .ref (b + n)), (0, .ref (b + 83)), (1, .int a1), (2, .int a2), (3, .int a3), (4, .int a4), (5, .int a5)]) hx hb dX12_feed_37 hl (by decide) rfl (fun ls hl => ?_)
  refine lv_iconst (v := 0) hx hb dX12_feed_39 (by decide) ?_
  refine lv_istore (lv' := [(7, .int 0), (6, .ref (b + n)), (0, .ref (b + 83)), (1, .int a1), (2, .int a2), (3, .int a3), (4, .int a4), (5, .int a5)]) hx hb dX12_feed_40 hl (by decide) rfl (fun ls hl => ?_)
  refine lv_iload hx hb dX12_feed_42 (lv_at hl 0 rfl) ?_
  refine lv_bipush (v := 20) hx hb dX12_feed_44 (by decide) ?_
  refine lv_icmp_ge (tgt := 89) hx hb dX12_feed_46 (by decide) (fun c_2 => absurd c_2 (by decide)) (fun c_2 => ?_)
  refine lv_aload_n hx hb dX12_feed_49 rfl (lv_at hl 2 rfl) ?_
  refine g_get S hG 83 2 ((upE_n (by omega)).trans ((upE_n (by omega)).trans ((upE_n (by omega)).trans ((upE_n (by omega)).trans ((upE_n (by omega)).trans ((upE_n (by omega)).trans h83)))))) cpX12 wm_1676 dX12_feed_50 rfl (by omega) (by decide) ?_
  refine lv_aload_n hx hb dX12_feed_53 rfl (lv_at hl 2 rfl) ?_
  refine g_get S hG 83 3 ((upE_n (by omega)).trans ((upE_n (by omega)).trans ((upE_n (by omega)).trans ((upE_n (by omega)).trans ((upE_n (by omega)).trans ((upE_n (by omega)).trans h83)))))) cpX12 wm_1677 dX12_feed_54 rfl (by omega) (by decide) ?_
  refine lv_iload hx hb dX12_feed_57 (lv_at hl 0 rfl) ?_
  refine lv_iadd hx hb dX12_feed_59 ?_
  refine lv_topi (fun x_3 ex_3 => ?_)
  obtain rfl : x_3 = 0 := ex_3.trans (by decide)
  refine lv_aload hx hb dX12_feed_60 (lv_at hl 1 rfl) ?_
  refine lv_iload hx hb dX12_feed_62 (lv_at hl 0 rfl) ?_
  refine lv_iconst (v := 4) hx hb dX12_feed_64 (by decide) ?_
  refine lv_idiv hx hb dX12_feed_65 (by decide) ?_
  refine lv_topi (fun x_4 ex_4 => ?_)
  obtain rfl : x_4 = 0 := ex_4.trans (by decide)
  refine g_iald S hG n upE_s (by omega) dX12_feed_66 (by unfold vp_in; decide) ?_
  refine lv_bipush (v := 24) hx hb dX12_feed_67 (by decide) ?_
  refine lv_bipush (v := 8) hx hb dX12_feed_69 (by decide) ?_
  refine lv_iload hx hb dX12_feed_71 (lv_at hl 0 rfl) ?_
  refine lv_iconst (v := 4) hx hb dX12_feed_73 (by decide) ?_
  refine lv_irem hx hb dX12_feed_74 (by decide) ?_
  refine lv_topi (fun x_5 ex_5 => ?_)
  obtain rfl : x_5 = 0 := ex_5.trans (by decide)
  refine lv_imul hx hb dX12_feed_75 ?_
  refine lv_topi (fun x_6 ex_6 => ?_)
  obtain rfl : x_6 = 0 := ex_6.trans (by decide)
  refine lv_isub hx hb dX12_feed_76 ?_
  refine lv_topi (fun x_7 ex_7 => ?_)
  obtain rfl : x_7 = 24 := ex_7.trans (by decide)
  refine lv_iushr hx hb dX12_feed_77 rfl ?_
  refine lv_topi (fun x_8 ex_8 => ?_)
  refine lv_sipush (v := 255) hx hb dX12_feed_78 (by decide) ?_
  refine lv_iand hx hb dX12_feed_81 ?_
  refine g_iast S hG 86 ((upE_n (by omega)).trans ((upE_n (by omega)).trans ((upE_n (by omega)).trans ((upE_n (by omega)).trans ((upE_n (by omega)).trans ((upE_n (by omega)).trans h86)))))) (by omega) dX12_feed_82 (by unfold vp_in; decide) (fun H locs hG => ?_)
  refine lv_iinc (v := 1) (lv' := [(7, .int 1), (6, .ref (b + n)), (0, .ref (b + 83)), (1, .int a1), (2, .int a2), (3, .int a3), (4, .int a4), (5, .int a5)]) hx hb dX12_feed_83 hl (k := 0) rfl (by decide) (by decide) rfl (fun ls hl => ?_)
  refine lv_goto (tgt := 42) hx hb dX12_feed_86 (by decide) ?_
  refine lv_iload hx hb dX12_feed_42 (lv_at hl 0 rfl) ?_
  refine lv_bipush (v := 20) hx hb dX12_feed_44 (by decide) ?_
  refine lv_icmp_ge (tgt := 89) hx hb dX12_feed_46 (by decide) (fun c_9 => absurd c_9 (by decide)) (fun c_9 => ?_)
  refine lv_aload_n hx hb dX12_feed_49 rfl (lv_at hl 2 rfl) ?_
  refine g_get S hG 83 2 ((upE_n (by omega)).trans ((upE_n (by omega)).trans ((upE_n (by omega)).trans ((upE_n (by omega)).trans ((upE_n (by omega)).trans ((upE_n (by omega)).trans ((upE_n (by omega)).trans h83))))))) cpX12 wm_1676 dX12_feed_50 rfl (by omega) (by decide) ?_
  refine lv_aload_n hx hb dX12_feed_53 rfl (lv_at hl 2 rfl) ?_
  refine g_get S hG 83 3 ((upE_n (by omega)).trans ((upE_n (by omega)).trans ((upE_n (by omega)).trans ((upE_n (by omega)).trans ((upE_n (by omega)).trans ((upE_n (by omega)).trans ((upE_n (by omega)).trans h83))))))) cpX12 wm_1677 dX12_feed_54 rfl (by omega) (by decide) ?_
  refine lv_iload hx hb dX12_feed_57 (lv_at hl 0 rfl) ?_
  refine lv_iadd hx hb dX12_feed_59 ?_
  refine lv_topi (fun x_10 ex_10 => ?_)
  obtain rfl : x_10 = 1 := ex_10.trans (by decide)
  refine lv_aload hx hb dX12_feed_60 (lv_at hl 1 rfl) ?_
  refine lv_iload hx hb dX12_feed_62 (lv_at hl 0 rfl) ?_
  refine lv_iconst (v := 4) hx hb dX12_feed_64 (by decide) ?_
  refine lv_idiv hx hb dX12_feed_65 (by decide) ?_
  refine lv_topi (fun x_11 ex_11 => ?_)
  obtain rfl : x_11 = 0 := ex_11.trans (by decide)
  refine g_iald S hG n ((upE_n (by omega)).trans upE_s) (by omega) dX12_feed_66 (by unfold vp_in; decide) ?_
  refine lv_bipush (v := 24) hx hb dX12_feed_67 (by decide) ?_
  refine lv_bipush (v := 8) hx hb dX12_feed_69 (by decide) ?_
  refine lv_iload hx hb dX12_feed_71 (lv_at hl 0 rfl) ?_
  refine lv_iconst (v := 4) hx hb dX12_feed_73 (by decide) ?_
  refine lv_irem hx hb dX12_feed_74 (by decide) ?_
  refine lv_topi (fun x_12 ex_12 => ?_)
  obtain rfl : x_12 = 1 := ex_12.trans (by decide)
  refine lv_imul hx hb dX12_feed_75 ?_
  refine lv_topi (fun x_13 ex_13 => ?_)
  obtain rfl : x_13 = 8 := ex_13.trans (by decide)
  refine lv_isub hx hb dX12_feed_76 ?_
  refine lv_topi (fun x_14 ex_14 => ?_)
  obtain rfl : x_14 = 16 := ex_14.trans (by decide)
  refine lv_iushr hx hb dX12_feed_77 rfl ?_
  refine lv_topi (fun x_15 ex_15 => ?_)
  refine lv_sipush (v := 255) hx hb dX12_feed_78 (by decide) ?_
  refine lv_iand hx hb dX12_feed_81 ?_
  refine g_iast S hG 86 upE_s (by omega) dX12_feed_82 (by unfold vp_in; decide) (fun H locs hG => ?_)
  refine lv_iinc (v := 2) (lv' := [(7, .int 2), (6, .ref (b + n)), (0, .ref (b + 83)), (1, .int a1), (2, .int a2), (3, .int a3), (4, .int a4), (5, .int a5)]) hx hb dX12_feed_83 hl (k := 0) rfl (by decide) (by decide) rfl (fun ls hl => ?_)
  refine lv_goto (tgt := 42) hx hb dX12_feed_86 (by decide) ?_
  refine lv_iload hx hb dX12_feed_42 (lv_at hl 0 rfl) ?_
  refine lv_bipush (v := 20) hx hb dX12_feed_44 (by decide) ?_
  refine lv_icmp_ge (tgt := 89) hx hb dX12_feed_46 (by decide) (fun c_16 => absurd c_16 (by decide)) (fun c_16 => ?_)
  refine lv_aload_n hx hb dX12_feed_49 rfl (lv_at hl 2 rfl) ?_
  refine g_get S hG 83 2 ((upE_n (by omega)).trans ((upE_n (by omega)).trans ((upE_n (by omega)).trans ((upE_n (by omega)).trans ((upE_n (by omega)).trans ((upE_n (by omega)).trans ((upE_n (by omega)).trans ((upE_n (by omega)).trans h83)))))))) cpX12 wm_1676 dX12_feed_50 rfl (by omega) (by decide) ?_
  refine lv_aload_n hx hb dX12_feed_53 rfl (lv_at hl 2 rfl) ?_
  refine g_get S hG 83 3 ((upE_n (by omega)).trans ((upE_n (by omega)).trans ((upE_n (by omega)).trans ((upE_n (by omega)).trans ((upE_n (by omega)).trans ((upE_n (by omega)).trans ((upE_n (by omega)).trans ((upE_n (by omega)).trans h83)))))))) cpX12 wm_1677 dX12_feed_54 rfl (by omega) (by decide) ?_
  refine lv_iload hx hb dX12_feed_57 (lv_at hl 0 rfl) ?_
  refine lv_iadd hx hb dX12_feed_59 ?_
  refine lv_topi (fun x_17 ex_17 => ?_)
  obtain rfl : x_17 = 2 := ex_17.trans (by decide)
  refine lv_aload hx hb dX12_feed_60 (lv_at hl 1 rfl) ?_
  refine lv_iload hx hb dX12_feed_62 (lv_at hl 0 rfl) ?_
  refine lv_iconst (v := 4) hx hb dX12_feed_64 (by decide) ?_
  refine lv_idiv hx hb dX12_feed_65 (by decide) ?_
  refine lv_topi (fun x_18 ex_18 => ?_)
  obtain rfl : x_18 = 0 := ex_18.trans (by decide)
  refine g_iald S hG n ((upE_n (by omega)).trans ((upE_n (by omega)).trans upE_s)) (by omega) dX12_feed_66 (by unfold vp_in; decide) ?_
  refine lv_bipush (v := 24) hx hb dX12_feed_67 (by decide) ?_
  refine lv_bipush (v := 8) hx hb dX12_feed_69 (by decide) ?_
  refine lv_iload hx hb dX12_feed_71 (lv_at hl 0 rfl) ?_
  refine lv_iconst (v := 4) hx hb dX12_feed_73 (by decide) ?_
  refine lv_irem hx hb dX12_feed_74 (by decide) ?_
  refine lv_topi (fun x_19 ex_19 => ?_)
  obtain rfl : x_19 = 2 := ex_19.trans (by decide)
  refine lv_imul hx hb dX12_feed_75 ?_
  refine lv_topi (fun x_20 ex_20 => ?_)
  obtain rfl : x_20 = 16 := ex_20.trans (by decide)
  refine lv_isub hx hb dX12_feed_76 ?_
  refine lv_topi (fun x_21 ex_21 => ?_)
  obtain rfl : x_21 = 8 := ex_21.trans (by decide)
  refine lv_iushr hx hb dX12_feed_77 rfl ?_
  refine lv_topi (fun x_22 ex_22 => ?_)
  refine lv_sipush (v := 255) hx hb dX12_feed_78 (by decide) ?_
  refine lv_iand hx hb dX12_feed_81 ?_
  refine g_iast S hG 86 upE_s (by omega) dX12_feed_82 (by unfold vp_in; decide) (fun H locs hG => ?_)
  refine lv_iinc (v := 3) (lv' := [(7, .int 3), (6, .ref (b + n)), (0, .ref (b + 83)), (1, .int a1), (2, .int a2), (3, .int a3), (4, .int a4), (5, .int a5)]) hx hb dX12_feed_83 hl (k := 0) rfl (by decide) (by decide) rfl (fun ls hl => ?_)
  refine lv_goto (tgt := 42) hx hb dX12_feed_86 (by decide) ?_
  refine lv_iload hx hb dX12_feed_42 (lv_at hl 0 rfl) ?_
  refine lv_bipush (v := 20) hx hb dX12_feed_44 (by decide) ?_
  refine lv_icmp_ge (tgt := 89) hx hb dX12_feed_46 (by decide) (fun c_23 => absurd c_23 (by decide)) (fun c_23 => ?_)
  refine lv_aload_n hx hb dX12_feed_49 rfl (lv_at hl 2 rfl) ?_
  refine g_get S hG 83 2 ((upE_n (by omega)).trans ((upE_n (by omega)).trans ((upE_n (by omega)).trans ((upE_n (by omega)).trans ((upE_n (by omega)).trans ((upE_n (by omega)).trans ((upE_n (by omega)).trans ((upE_n (by omega)).trans ((upE_n (by omega)).trans h83))))))))) cpX12 wm_1676 dX12_feed_50 rfl (by omega) (by decide) ?_
  refine lv_aload_n hx hb dX12_feed_53 rfl (lv_at hl 2 rfl) ?_
  refine g_get S hG 83 3 ((upE_n (by omega)).trans ((upE_n (by omega)).trans ((upE_n (by omega)).trans ((upE_n (by omega)).trans ((upE_n (by omega)).trans ((upE_n (by omega)).trans ((upE_n (by omega)).trans ((upE_n (by omega)).trans ((upE_n (by omega)).trans h83))))))))) cpX12 wm_1677 dX12_feed_54 rfl (by omega) (by decide) ?_
  refine lv_iload hx hb dX12_feed_57 (lv_at hl 0 rfl) ?_
  refine lv_iadd hx hb dX12_feed_59 ?_
  refine lv_topi (fun x_24 ex_24 => ?_)
  obtain rfl : x_24 = 3 := ex_24.trans (by decide)
  refine lv_aload hx hb dX12_feed_60 (lv_at hl 1 rfl) ?_
  refine lv_iload hx hb dX12_feed_62 (lv_at hl 0 rfl) ?_
  refine lv_iconst (v := 4) hx hb dX12_feed_64 (by decide) ?_
  refine lv_idiv hx hb dX12_feed_65 (by decide) ?_
  refine lv_topi (fun x_25 ex_25 => ?_)
  obtain rfl : x_25 = 0 := ex_25.trans (by decide)
  refine g_iald S hG n ((upE_n (by omega)).trans ((upE_n (by omega)).trans ((upE_n (by omega)).trans upE_s))) (by omega) dX12_feed_66 (by unfold vp_in; decide) ?_
  refine lv_bipush (v := 24) hx hb dX12_feed_67 (by decide) ?_
  refine lv_bipush (v := 8) hx hb dX12_feed_69 (by decide) ?_
  refine lv_iload hx hb dX12_feed_71 (lv_at hl 0 rfl) ?_
  refine lv_iconst (v := 4) hx hb dX12_feed_73 (by decide) ?_
  refine lv_irem hx hb dX12_feed_74 (by decide) ?_
  refine lv_topi (fun x_26 ex_26 => ?_)
  obtain rfl : x_26 = 3 := ex_26.trans (by decide)
  refine lv_imul hx hb dX12_feed_75 ?_
  refine lv_topi (fun x_27 ex_27 => ?_)
  obtain rfl : x_27 = 24 := ex_27.trans (by decide)
  refine lv_isub hx hb dX12_feed_76 ?_
  refine lv_topi (fun x_28 ex_28 => ?_)
  obtain rfl : x_28 = 0 := ex_28.trans (by decide)
  refine lv_iushr hx hb dX12_feed_77 rfl ?_
  refine lv_topi (fun x_29 ex_29 => ?_)
  refine lv_sipush (v := 255) hx hb dX12_feed_78 (by decide) ?_
  refine lv_iand hx hb dX12_feed_81 ?_
  refine g_iast S hG 86 upE_s (by omega) dX12_feed_82 (by unfold vp_in; decide) (fun H locs hG => ?_)
  refine lv_iinc (v := 4) (lv' := [(7, .int 4), (6, .ref (b + n)), (0, .ref (b + 83)), (1, .int a1), (2, .int a2), (3, .int a3), (4, .int a4), (5, .int a5)]) hx hb dX12_feed_83 hl (k := 0) rfl (by decide) (by decide) rfl (fun ls hl => ?_)
  refine lv_goto (tgt := 42) hx hb dX12_feed_86 (by decide) ?_
  refine lv_iload hx hb dX12_feed_42 (lv_at hl 0 rfl) ?_
  refine lv_bipush (v := 20) hx hb dX12_feed_44 (by decide) ?_
  refine lv_icmp_ge (tgt := 89) hx hb dX12_feed_46 (by decide) (fun c_30 => absurd c_30 (by decide)) (fun c_30 => ?_)
  refine lv_aload_n hx hb dX12_feed_49 rfl (lv_at hl 2 rfl) ?_
  refine g_get S hG 83 2 ((upE_n (by omega)).trans ((upE_n (by omega)).trans ((upE_n (by omega)).trans ((upE_n (by omega)).trans ((upE_n (by omega)).trans ((upE_n (by omega)).trans ((upE_n (by omega)).trans ((upE_n (by omega)).trans ((upE_n (by omega)).trans ((upE_n (by omega)).trans h83)))))))))) cpX12 wm_1676 dX12_feed_50 rfl (by omega) (by decide) ?_
  refine lv_aload_n hx hb dX12_feed_53 rfl (lv_at hl 2 rfl) ?_
  refine g_get S hG 83 3 ((upE_n (by omega)).trans ((upE_n (by omega)).trans ((upE_n (by omega)).trans ((upE_n (by omega)).trans ((upE_n (by omega)).trans ((upE_n (by omega)).trans ((upE_n (by omega)).trans ((upE_n (by omega)).trans ((upE_n (by omega)).trans ((upE_n (by omega)).trans h83)))))))))) cpX12 wm_1677 dX12_feed_54 rfl (by omega) (by decide) ?_
  refine lv_iload hx hb dX12_feed_57 (lv_at hl 0 rfl) ?_
  refine lv_iadd hx hb dX12_feed_59 ?_
  refine lv_topi (fun x_31 ex_31 => ?_)
  obtain rfl : x_31 = 4 := ex_31.trans (by decide)
  refine lv_aload hx hb dX12_feed_60 (lv_at hl 1 rfl) ?_
  refine lv_iload hx hb dX12_feed_62 (lv_at hl 0 rfl) ?_
  refine lv_iconst (v := 4) hx hb dX12_feed_64 (by decide) ?_
  refine lv_idiv hx hb dX12_feed_65 (by decide) ?_
  refine lv_topi (fun x_32 ex_32 => ?_)
  obtain rfl : x_32 = 1 := ex_32.trans (by decide)
  refine g_iald S hG n ((upE_n (by omega)).trans ((upE_n (by omega)).trans ((upE_n (by omega)).trans ((upE_n (by omega)).trans upE_s)))) (by omega) dX12_feed_66 (by unfold vp_in; decide) ?_
  refine lv_bipush (v := 24) hx hb dX12_feed_67 (by decide) ?_
  refine lv_bipush (v := 8) hx hb dX12_feed_69 (by decide) ?_
  refine lv_iload hx hb dX12_feed_71 (lv_at hl 0 rfl) ?_
  refine lv_iconst (v := 4) hx hb dX12_feed_73 (by decide) ?_
  refine lv_irem hx hb dX12_feed_74 (by decide) ?_
  refine lv_topi (fun x_33 ex_33 => ?_)
  obtain rfl : x_33 = 0 := ex_33.trans (by decide)
  refine lv_imul hx hb dX12_feed_75 ?_
  refine lv_topi (fun x_34 ex_34 => ?_)
  obtain rfl : x_34 = 0 := ex_34.trans (by decide)
  refine lv_isub hx hb dX12_feed_76 ?_
  refine lv_topi (fun x_35 ex_35 => ?_)
  obtain rfl : x_35 = 24 := ex_35.trans (by decide)
  refine lv_iushr hx hb dX12_feed_77 rfl ?_
  refine lv_topi (fun x_36 ex_36 => ?_)
  refine lv_sipush (v := 255) hx hb dX12_feed_78 (by decide) ?_
  refine lv_iand hx hb dX12_feed_81 ?_
  refine g_iast S hG 86 upE_s (by omega) dX12_feed_82 (by unfold vp_in; decide) (fun H locs hG => ?_)
  refine lv_iinc (v := 5) (lv' := [(7, .int 5), (6, .ref (b + n)), (0, .ref (b + 83)), (1, .int a1), (2, .int a2), (3, .int a3), (4, .int a4), (5, .int a5)]) hx hb dX12_feed_83 hl (k := 0) rfl (by decide) (by decide) rfl (fun ls hl => ?_)
  refine lv_goto (tgt := 42) hx hb dX12_feed_86 (by decide) ?_
  refine lv_iload hx hb dX12_feed_42 (lv_at hl 0 rfl) ?_
  refine lv_bipush (v := 20) hx hb dX12_feed_44 (by decide) ?_
  refine lv_icmp_ge (tgt := 89) hx hb dX12_feed_46 (by decide) (fun c_37 => absurd c_37 (by decide)) (fun c_37 => ?_)
  refine lv_aload_n hx hb dX12_feed_49 rfl (lv_at hl 2 rfl) ?_
  refine g_get S hG 83 2 ((upE_n (by omega)).trans ((upE_n (by omega)).trans ((upE_n (by omega)).trans ((upE_n (by omega)).trans ((upE_n (by omega)).trans ((upE_n (by omega)).trans ((upE_n (by omega)).trans ((upE_n (by omega)).trans ((upE_n (by omega)).trans ((upE_n (by omega)).trans ((upE_n (by omega)).trans h83))))))))))) cpX12 wm_1676 dX12_feed_50 rfl (by omega) (by decide) ?_
  refine lv_aload_n hx hb dX12_feed_53 rfl (lv_at hl 2 rfl) ?_
  refine g_get S hG 83 3 ((upE_n (by omega)).trans ((upE_n (by omega)).trans ((upE_n (by omega)).trans ((upE_n (by omega)).trans ((upE_n (by omega)).trans ((upE_n (by omega)).trans ((upE_n (by omega)).trans ((upE_n (by omega)).trans ((upE_n (by omega)).trans ((upE_n (by omega)).trans ((upE_n (by omega)).trans h83))))))))))) cpX12 wm_1677 dX12_feed_54 rfl (by omega) (by decide) ?_
  refine lv_iload hx hb dX12_feed_57 (lv_at hl 0 rfl) ?_
  refine lv_iadd hx hb dX12_feed_59 ?_
  refine lv_topi (fun x_38 ex_38 => ?_)
  obtain rfl : x_38 = 5 := ex_38.trans (by decide)
  refine lv_aload hx hb dX12_feed_60 (lv_at hl 1 rfl) ?_
  refine lv_iload hx hb dX12_feed_62 (lv_at hl 0 rfl) ?_
  refine lv_iconst (v := 4) hx hb dX12_feed_64 (by decide) ?_
  refine lv_idiv hx hb dX12_feed_65 (by decide) ?_
  refine lv_topi (fun x_39 ex_39 => ?_)
  obtain rfl : x_39 = 1 := ex_39.trans (by decide)
  refine g_iald S hG n ((upE_n (by omega)).trans ((upE_n (by omega)).trans ((upE_n (by omega)).trans ((upE_n (by omega)).trans ((upE_n (by omega)).trans upE_s))))) (by omega) dX12_feed_66 (by unfold vp_in; decide) ?_
  refine lv_bipush (v := 24) hx hb dX12_feed_67 (by decide) ?_
  refine lv_bipush (v := 8) hx hb dX12_feed_69 (by decide) ?_
  refine lv_iload hx hb dX12_feed_71 (lv_at hl 0 rfl) ?_
  refine lv_iconst (v := 4) hx hb dX12_feed_73 (by decide) ?_
  refine lv_irem hx hb dX12_feed_74 (by decide) ?_
  refine lv_topi (fun x_40 ex_40 => ?_)
  obtain rfl : x_40 = 1 := ex_40.trans (by decide)
  refine lv_imul hx hb dX12_feed_75 ?_
  refine lv_topi (fun x_41 ex_41 => ?_)
  obtain rfl : x_41 = 8 := ex_41.trans (by decide)
  refine lv_isub hx hb dX12_feed_76 ?_
  refine lv_topi (fun x_42 ex_42 => ?_)
  obtain rfl : x_42 = 16 := ex_42.trans (by decide)
  refine lv_iushr hx hb dX12_feed_77 rfl ?_
  refine lv_topi (fun x_43 ex_43 => ?_)
  refine lv_sipush (v := 255) hx hb dX12_feed_78 (by decide) ?_
  refine lv_iand hx hb dX12_feed_81 ?_
  refine g_iast S hG 86 upE_s (by omega) dX12_feed_82 (by unfold vp_in; decide) (fun H locs hG => ?_)
  refine lv_iinc (v := 6) (lv' := [(7, .int 6), (6, .ref (b + n)), (0, .ref (b + 83)), (1, .int a1), (2, .int a2), (3, .int a3), (4, .int a4), (5, .int a5)]) hx hb dX12_feed_83 hl (k := 0) rfl (by decide) (by decide) rfl (fun ls hl => ?_)
  refine lv_goto (tgt := 42) hx hb dX12_feed_86 (by decide) ?_
  refine lv_iload hx hb dX12_feed_42 (lv_at hl 0 rfl) ?_
  refine lv_bipush (v := 20) hx hb dX12_feed_44 (by decide) ?_
  refine lv_icmp_ge (tgt := 89) hx hb dX12_feed_46 (by decide) (fun c_44 => absurd c_44 (by decide)) (fun c_44 => ?_)
  refine lv_aload_n hx hb dX12_feed_49 rfl (lv_at hl 2 rfl) ?_
  refine g_get S hG 83 2 ((upE_n (by omega)).trans ((upE_n (by omega)).trans ((upE_n (by omega)).trans ((upE_n (by omega)).trans ((upE_n (by omega)).trans ((upE_n (by omega)).trans ((upE_n (by omega)).trans ((upE_n (by omega)).trans ((upE_n (by omega)).trans ((upE_n (by omega)).trans ((upE_n (by omega)).trans ((upE_n (by omega)).trans h83)))))))))))) cpX12 wm_1676 dX12_feed_50 rfl (by omega) (by decide) ?_
  refine lv_aload_n hx hb dX12_feed_53 rfl (lv_at hl 2 rfl) ?_
  refine g_get S hG 83 3 ((upE_n (by omega)).trans ((upE_n (by omega)).trans ((upE_n (by omega)).trans ((upE_n (by omega)).trans ((upE_n (by omega)).trans ((upE_n (by omega)).trans ((upE_n (by omega)).trans ((upE_n (by omega)).trans ((upE_n (by omega)).trans ((upE_n (by omega)).trans ((upE_n (by omega)).trans ((upE_n (by omega)).trans h83)))))))))))) cpX12 wm_1677 dX12_feed_54 rfl (by omega) (by decide) ?_
  refine lv_iload hx hb dX12_feed_57 (lv_at hl 0 rfl) ?_
  refine lv_iadd hx hb dX12_feed_59 ?_
  refine lv_topi (fun x_45 ex_45 => ?_)
  obtain rfl : x_45 = 6 := ex_45.trans (by decide)
  refine lv_aload hx hb dX12_feed_60 (lv_at hl 1 rfl) ?_
  refine lv_iload hx hb dX12_feed_62 (lv_at hl 0 rfl) ?_
  refine lv_iconst (v := 4) hx hb dX12_feed_64 (by decide) ?_
  refine lv_idiv hx hb dX12_feed_65 (by decide) ?_
  refine lv_topi (fun x_46 ex_46 => ?_)
  obtain rfl : x_46 = 1 := ex_46.trans (by decide)
  refine g_iald S hG n ((upE_n (by omega)).trans ((upE_n (by omega)).trans ((upE_n (by omega)).trans ((upE_n (by omega)).trans ((upE_n (by omega)).trans ((upE_n (by omega)).trans upE_s)))))) (by omega) dX12_feed_66 (by unfold vp_in; decide) ?_
  refine lv_bipush (v := 24) hx hb dX12_feed_67 (by decide) ?_
  refine lv_bipush (v := 8) hx hb dX12_feed_69 (by decide) ?_
  refine lv_iload hx hb dX12_feed_71 (lv_at hl 0 rfl) ?_
  refine lv_iconst (v := 4) hx hb dX12_feed_73 (by decide) ?_
  refine lv_irem hx hb dX12_feed_74 (by decide) ?_
  refine lv_topi (fun x_47 ex_47 => ?_)
  obtain rfl : x_47 = 2 := ex_47.trans (by decide)
  refine lv_imul hx hb dX12_feed_75 ?_
  refine lv_topi (fun x_48 ex_48 => ?_)
  obtain rfl : x_48 = 16 := ex_48.trans (by decide)
  refine lv_isub hx hb dX12_feed_76 ?_
  refine lv_topi (fun x_49 ex_49 => ?_)
  obtain rfl : x_49 = 8 := ex_49.trans (by decide)
  refine lv_iushr hx hb dX12_feed_77 rfl ?_
  refine lv_topi (fun x_50 ex_50 => ?_)
  refine lv_sipush (v := 255) hx hb dX12_feed_78 (by decide) ?_
  refine lv_iand hx hb dX12_feed_81 ?_
  refine g_iast S hG 86 upE_s (by omega) dX12_feed_82 (by unfold vp_in; decide) (fun H locs hG => ?_)
  refine lv_iinc (v := 7) (lv' := [(7, .int 7), (6, .ref (b + n)), (0, .ref (b + 83)), (1, .int a1), (2, .int a2), (3, .int a3), (4, .int a4), (5, .int a5)]) hx hb dX12_feed_83 hl (k := 0) rfl (by decide) (by decide) rfl (fun ls hl => ?_)
  refine lv_goto (tgt := 42) hx hb dX12_feed_86 (by decide) ?_
  refine lv_iload hx hb dX12_feed_42 (lv_at hl 0 rfl) ?_
  refine lv_bipush (v := 20) hx hb dX12_feed_44 (by decide) ?_
  refine lv_icmp_ge (tgt := 89) hx hb dX12_feed_46 (by decide) (fun c_51 => absurd c_51 (by decide)) (fun c_51 => ?_)
  refine lv_aload_n hx hb dX12_feed_49 rfl (lv_at hl 2 rfl) ?_
  refine g_get S hG 83 2 ((upE_n (by omega)).trans ((upE_n (by omega)).trans ((upE_n (by omega)).trans ((upE_n (by omega)).trans ((upE_n (by omega)).trans ((upE_n (by omega)).trans ((upE_n (by omega)).trans ((upE_n (by omega)).trans ((upE_n (by omega)).trans ((upE_n (by omega)).trans ((upE_n (by omega)).trans ((upE_n (by omega)).trans ((upE_n (by omega)).trans h83))))))))))))) cpX12 wm_1676 dX12_feed_50 rfl (by omega) (by decide) ?_
  refine lv_aload_n hx hb dX12_feed_53 rfl (lv_at hl 2 rfl) ?_
  refine g_get S hG 83 3 ((upE_n (by omega)).trans ((upE_n (by omega)).trans ((upE_n (by omega)).trans ((upE_n (by omega)).trans ((upE_n (by omega)).trans ((upE_n (by omega)).trans ((upE_n (by omega)).trans ((upE_n (by omega)).trans ((upE_n (by omega)).trans ((upE_n (by omega)).trans ((upE_n (by omega)).trans ((upE_n (by omega)).trans ((upE_n (by omega)).trans h83))))))))))))) cpX12 wm_1677 dX12_feed_54 rfl (by omega) (by decide) ?_
  refine lv_iload hx hb dX12_feed_57 (lv_at hl 0 rfl) ?_
  refine lv_iadd hx hb dX12_feed_59 ?_
  refine lv_topi (fun x_52 ex_52 => ?_)
  obtain rfl : x_52 = 7 := ex_52.trans (by decide)
  refine lv_aload hx hb dX12_feed_60 (lv_at hl 1 rfl) ?_
  refine lv_iload hx hb dX12_feed_62 (lv_at hl 0 rfl) ?_
  refine lv_iconst (v := 4) hx hb dX12_feed_64 (by decide) ?_
  refine lv_idiv hx hb dX12_feed_65 (by decide) ?_
  refine lv_topi (fun x_53 ex_53 => ?_)
  obtain rfl : x_53 = 1 := ex_53.trans (by decide)
  refine g_iald S hG n ((upE_n (by omega)).trans ((upE_n (by omega)).trans ((upE_n (by omega)).trans ((upE_n (by omega)).trans ((upE_n (by omega)).trans ((upE_n (by omega)).trans ((upE_n (by omega)).trans upE_s))))))) (by omega) dX12_feed_66 (by unfold vp_in; decide) ?_
  refine lv_bipush (v := 24) hx hb dX12_feed_67 (by decide) ?_
  refine lv_bipush (v := 8) hx hb dX12_feed_69 (by decide) ?_
  refine lv_iload hx hb dX12_feed_71 (lv_at hl 0 rfl) ?_
  refine lv_iconst (v := 4) hx hb dX12_feed_73 (by decide) ?_
  refine lv_irem hx hb dX12_feed_74 (by decide) ?_
  refine lv_topi (fun x_54 ex_54 => ?_)
  obtain rfl : x_54 = 3 := ex_54.trans (by decide)
  refine lv_imul hx hb dX12_feed_75 ?_
  refine lv_topi (fun x_55 ex_55 => ?_)
  obtain rfl : x_55 = 24 := ex_55.trans (by decide)
  refine lv_isub hx hb dX12_feed_76 ?_
  refine lv_topi (fun x_56 ex_56 => ?_)
  obtain rfl : x_56 = 0 := ex_56.trans (by decide)
  refine lv_iushr hx hb dX12_feed_77 rfl ?_
  refine lv_topi (fun x_57 ex_57 => ?_)
  refine lv_sipush (v := 255) hx hb dX12_feed_78 (by decide) ?_
  refine lv_iand hx hb dX12_feed_81 ?_
  refine g_iast S hG 86 upE_s (by omega) dX12_feed_82 (by unfold vp_in; decide) (fun H locs hG => ?_)
  refine lv_iinc (v := 8) (lv' := [(7, .int 8), (6, .ref (b + n)), (0, .ref (b + 83)), (1, .int a1), (2, .int a2), (3, .int a3), (4, .int a4), (5, .int a5)]) hx hb dX12_feed_83 hl (k := 0) rfl (by decide) (by decide) rfl (fun ls hl => ?_)
  refine lv_goto (tgt := 42) hx hb dX12_feed_86 (by decide) ?_
  refine lv_iload hx hb dX12_feed_42 (lv_at hl 0 rfl) ?_
  refine lv_bipush (v := 20) hx hb dX12_feed_44 (by decide) ?_
  refine lv_icmp_ge (tgt := 89) hx hb dX12_feed_46 (by decide) (fun c_58 => absurd c_58 (by decide)) (fun c_58 => ?_)
  refine lv_aload_n hx hb dX12_feed_49 rfl (lv_at hl 2 rfl) ?_
  refine g_get S hG 83 2 ((upE_n (by omega)).trans ((upE_n (by omega)).trans ((upE_n (by omega)).trans ((upE_n (by omega)).trans ((upE_n (by omega)).trans ((upE_n (by omega)).trans ((upE_n (by omega)).trans ((upE_n (by omega)).trans ((upE_n (by omega)).trans ((upE_n (by omega)).trans ((upE_n (by omega)).trans ((upE_n (by omega)).trans ((upE_n (by omega)).trans ((upE_n (by omega)).trans h83)))))))))))))) cpX12 wm_1676 dX12_feed_50 rfl (by omega) (by decide) ?_
  refine lv_aload_n hx hb dX12_feed_53 rfl (lv_at hl 2 rfl) ?_
  refine g_get S hG 83 3 ((upE_n (by omega)).trans ((upE_n (by omega)).trans ((upE_n (by omega)).trans ((upE_n (by omega)).trans ((upE_n (by omega)).trans ((upE_n (by omega)).trans ((upE_n (by omega)).trans ((upE_n (by omega)).trans ((upE_n (by omega)).trans ((upE_n (by omega)).trans ((upE_n (by omega)).trans ((upE_n (by omega)).trans ((upE_n (by omega)).trans ((upE_n (by omega)).trans h83)))))))))))))) cpX12 wm_1677 dX12_feed_54 rfl (by omega) (by decide) ?_
  refine lv_iload hx hb dX12_feed_57 (lv_at hl 0 rfl) ?_
  refine lv_iadd hx hb dX12_feed_59 ?_
  refine lv_topi (fun x_59 ex_59 => ?_)
  obtain rfl : x_59 = 8 := ex_59.trans (by decide)
  refine lv_aload hx hb dX12_feed_60 (lv_at hl 1 rfl) ?_
  refine lv_iload hx hb dX12_feed_62 (lv_at hl 0 rfl) ?_
  refine lv_iconst (v := 4) hx hb dX12_feed_64 (by decide) ?_
  refine lv_idiv hx hb dX12_feed_65 (by decide) ?_
  refine lv_topi (fun x_60 ex_60 => ?_)
  obtain rfl : x_60 = 2 := ex_60.trans (by decide)
  refine g_iald S hG n ((upE_n (by omega)).trans ((upE_n (by omega)).trans ((upE_n (by omega)).trans ((upE_n (by omega)).trans ((upE_n (by omega)).trans ((upE_n (by omega)).trans ((upE_n (by omega)).trans ((upE_n (by omega)).trans upE_s)))))))) (by omega) dX12_feed_66 (by unfold vp_in; decide) ?_
  refine lv_bipush (v := 24) hx hb dX12_feed_67 (by decide) ?_
  refine lv_bipush (v := 8) hx hb dX12_feed_69 (by decide) ?_
  refine lv_iload hx hb dX12_feed_71 (lv_at hl 0 rfl) ?_
  refine lv_iconst (v := 4) hx hb dX12_feed_73 (by decide) ?_
  refine lv_irem hx hb dX12_feed_74 (by decide) ?_
  refine lv_topi (fun x_61 ex_61 => ?_)
  obtain rfl : x_61 = 0 := ex_61.trans (by decide)
  refine lv_imul hx hb dX12_feed_75 ?_
  refine lv_topi (fun x_62 ex_62 => ?_)
  obtain rfl : x_62 = 0 := ex_62.trans (by decide)
  refine lv_isub hx hb dX12_feed_76 ?_
  refine lv_topi (fun x_63 ex_63 => ?_)
  obtain rfl : x_63 = 24 := ex_63.trans (by decide)
  refine lv_iushr hx hb dX12_feed_77 rfl ?_
  refine lv_topi (fun x_64 ex_64 => ?_)
  refine lv_sipush (v := 255) hx hb dX12_feed_78 (by decide) ?_
  refine lv_iand hx hb dX12_feed_81 ?_
  refine g_iast S hG 86 upE_s (by omega) dX12_feed_82 (by unfold vp_in; decide) (fun H locs hG => ?_)
  refine lv_iinc (v := 9) (lv' := [(7, .int 9), (6, .ref (b + n)), (0, .ref (b + 83)), (1, .int a1), (2, .int a2), (3, .int a3), (4, .int a4), (5, .int a5)]) hx hb dX12_feed_83 hl (k := 0) rfl (by decide) (by decide) rfl (fun ls hl => ?_)
  refine lv_goto (tgt := 42) hx hb dX12_feed_86 (by decide) ?_
  refine lv_iload hx hb dX12_feed_42 (lv_at hl 0 rfl) ?_
  refine lv_bipush (v := 20) hx hb dX12_feed_44 (by decide) ?_
  refine lv_icmp_ge (tgt := 89) hx hb dX12_feed_46 (by decide) (fun c_65 => absurd c_65 (by decide)) (fun c_65 => ?_)
  refine lv_aload_n hx hb dX12_feed_49 rfl (lv_at hl 2 rfl) ?_
  refine g_get S hG 83 2 ((upE_n (by omega)).trans ((upE_n (by omega)).trans ((upE_n (by omega)).trans ((upE_n (by omega)).trans ((upE_n (by omega)).trans ((upE_n (by omega)).trans ((upE_n (by omega)).trans ((upE_n (by omega)).trans ((upE_n (by omega)).trans ((upE_n (by omega)).trans ((upE_n (by omega)).trans ((upE_n (by omega)).trans ((upE_n (by omega)).trans ((upE_n (by omega)).trans ((upE_n (by omega)).trans h83))))))))))))))) cpX12 wm_1676 dX12_feed_50 rfl (by omega) (by decide) ?_
  refine lv_aload_n hx hb dX12_feed_53 rfl (lv_at hl 2 rfl) ?_
  refine g_get S hG 83 3 ((upE_n (by omega)).trans ((upE_n (by omega)).trans ((upE_n (by omega)).trans ((upE_n (by omega)).trans ((upE_n (by omega)).trans ((upE_n (by omega)).trans ((upE_n (by omega)).trans ((upE_n (by omega)).trans ((upE_n (by omega)).trans ((upE_n (by omega)).trans ((upE_n (by omega)).trans ((upE_n (by omega)).trans ((upE_n (by omega)).trans ((upE_n (by omega)).trans ((upE_n (by omega)).trans h83))))))))))))))) cpX12 wm_1677 dX12_feed_54 rfl (by omega) (by decide) ?_
  refine lv_iload hx hb dX12_feed_57 (lv_at hl 0 rfl) ?_
  refine lv_iadd hx hb dX12_feed_59 ?_
  refine lv_topi (fun x_66 ex_66 => ?_)
  obtain rfl : x_66 = 9 := ex_66.trans (by decide)
  refine lv_aload hx hb dX12_feed_60 (lv_at hl 1 rfl) ?_
  refine lv_iload hx hb dX12_feed_62 (lv_at hl 0 rfl) ?_
  refine lv_iconst (v := 4) hx hb dX12_feed_64 (by decide) ?_
  refine lv_idiv hx hb dX12_feed_65 (by decide) ?_
  refine lv_topi (fun x_67 ex_67 => ?_)
  obtain rfl : x_67 = 2 := ex_67.trans (by decide)
  refine g_iald S hG n ((upE_n (by omega)).trans ((upE_n (by omega)).trans ((upE_n (by omega)).trans ((upE_n (by omega)).trans ((upE_n (by omega)).trans ((upE_n (by omega)).trans ((upE_n (by omega)).trans ((upE_n (by omega)).trans ((upE_n (by omega)).trans upE_s))))))))) (by omega) dX12_feed_66 (by unfold vp_in; decide) ?_
  refine lv_bipush (v := 24) hx hb dX12_feed_67 (by decide) ?_
  refine lv_bipush (v := 8) hx hb dX12_feed_69 (by decide) ?_
  refine lv_iload hx hb dX12_feed_71 (lv_at hl 0 rfl) ?_
  refine lv_iconst (v := 4) hx hb dX12_feed_73 (by decide) ?_
  refine lv_irem hx hb dX12_feed_74 (by decide) ?_
  refine lv_topi (fun x_68 ex_68 => ?_)
  obtain rfl : x_68 = 1 := ex_68.trans (by decide)
  refine lv_imul hx hb dX12_feed_75 ?_
  refine lv_topi (fun x_69 ex_69 => ?_)
  obtain rfl : x_69 = 8 := ex_69.trans (by decide)
  refine lv_isub hx hb dX12_feed_76 ?_
  refine lv_topi (fun x_70 ex_70 => ?_)
  obtain rfl : x_70 = 16 := ex_70.trans (by decide)
  refine lv_iushr hx hb dX12_feed_77 rfl ?_
  refine lv_topi (fun x_71 ex_71 => ?_)
  refine lv_sipush (v := 255) hx hb dX12_feed_78 (by decide) ?_
  refine lv_iand hx hb dX12_feed_81 ?_
  refine g_iast S hG 86 upE_s (by omega) dX12_feed_82 (by unfold vp_in; decide) (fun H locs hG => ?_)
  refine lv_iinc (v := 10) (lv' := [(7, .int 10), (6, .ref (b + n)), (0, .ref (b + 83)), (1, .int a1), (2, .int a2), (3, .int a3), (4, .int a4), (5, .int a5)]) hx hb dX12_feed_83 hl (k := 0) rfl (by decide) (by decide) rfl (fun ls hl => ?_)
  refine lv_goto (tgt := 42) hx hb dX12_feed_86 (by decide) ?_
  refine lv_iload hx hb dX12_feed_42 (lv_at hl 0 rfl) ?_
  refine lv_bipush (v := 20) hx hb dX12_feed_44 (by decide) ?_
  refine lv_icmp_ge (tgt := 89) hx hb dX12_feed_46 (by decide) (fun c_72 => absurd c_72 (by decide)) (fun c_72 => ?_)
  refine lv_aload_n hx hb dX12_feed_49 rfl (lv_at hl 2 rfl) ?_
  refine g_get S hG 83 2 ((upE_n (by omega)).trans ((upE_n (by omega)).trans ((upE_n (by omega)).trans ((upE_n (by omega)).trans ((upE_n (by omega)).trans ((upE_n (by omega)).trans ((upE_n (by omega)).trans ((upE_n (by omega)).trans ((upE_n (by omega)).trans ((upE_n (by omega)).trans ((upE_n (by omega)).trans ((upE_n (by omega)).trans ((upE_n (by omega)).trans ((upE_n (by omega)).trans ((upE_n (by omega)).trans ((upE_n (by omega)).trans h83)))))))))))))))) cpX12 wm_1676 dX12_feed_50 rfl (by omega) (by decide) ?_
  refine lv_aload_n hx hb dX12_feed_53 rfl (lv_at hl 2 rfl) ?_
  refine g_get S hG 83 3 ((upE_n (by omega)).trans ((upE_n (by omega)).trans ((upE_n (by omega)).trans ((upE_n (by omega)).trans ((upE_n (by omega)).trans ((upE_n (by omega)).trans ((upE_n (by omega)).trans ((upE_n (by omega)).trans ((upE_n (by omega)).trans ((upE_n (by omega)).trans ((upE_n (by omega)).trans ((upE_n (by omega)).trans ((upE_n (by omega)).trans ((upE_n (by omega)).trans ((upE_n (by omega)).trans ((upE_n (by omega)).trans h83)))))))))))))))) cpX12 wm_1677 dX12_feed_54 rfl (by omega) (by decide) ?_
  refine lv_iload hx hb dX12_feed_57 (lv_at hl 0 rfl) ?_
  refine lv_iadd hx hb dX12_feed_59 ?_
  refine lv_topi (fun x_73 ex_73 => ?_)
  obtain rfl : x_73 = 10 := ex_73.trans (by decide)
  refine lv_aload hx hb dX12_feed_60 (lv_at hl 1 rfl) ?_
  refine lv_iload hx hb dX12_feed_62 (lv_at hl 0 rfl) ?_
  refine lv_iconst (v := 4) hx hb dX12_feed_64 (by decide) ?_
  refine lv_idiv hx hb dX12_feed_65 (by decide) ?_
  refine lv_topi (fun x_74 ex_74 => ?_)
  obtain rfl : x_74 = 2 := ex_74.trans (by decide)
  refine g_iald S hG n ((upE_n (by omega)).trans ((upE_n (by omega)).trans ((upE_n (by omega)).trans ((upE_n (by omega)).trans ((upE_n (by omega)).trans ((upE_n (by omega)).trans ((upE_n (by omega)).trans ((upE_n (by omega)).trans ((upE_n (by omega)).trans ((upE_n (by omega)).trans upE_s)))))))))) (by omega) dX12_feed_66 (by unfold vp_in; decide) ?_
  refine lv_bipush (v := 24) hx hb dX12_feed_67 (by decide) ?_
  refine lv_bipush (v := 8) hx hb dX12_feed_69 (by decide) ?_
  refine lv_iload hx hb dX12_feed_71 (lv_at hl 0 rfl) ?_
  refine lv_iconst (v := 4) hx hb dX12_feed_73 (by decide) ?_
  refine lv_irem hx hb dX12_feed_74 (by decide) ?_
  refine lv_topi (fun x_75 ex_75 => ?_)
  obtain rfl : x_75 = 2 := ex_75.trans (by decide)
  refine lv_imul hx hb dX12_feed_75 ?_
  refine lv_topi (fun x_76 ex_76 => ?_)
  obtain rfl : x_76 = 16 := ex_76.trans (by decide)
  refine lv_isub hx hb dX12_feed_76 ?_
  refine lv_topi (fun x_77 ex_77 => ?_)
  obtain rfl : x_77 = 8 := ex_77.trans (by decide)
  refine lv_iushr hx hb dX12_feed_77 rfl ?_
  refine lv_topi (fun x_78 ex_78 => ?_)
  refine lv_sipush (v := 255) hx hb dX12_feed_78 (by decide) ?_
  refine lv_iand hx hb dX12_feed_81 ?_
  refine g_iast S hG 86 upE_s (by omega) dX12_feed_82 (by unfold vp_in; decide) (fun H locs hG => ?_)
  refine lv_iinc (v := 11) (lv' := [(7, .int 11), (6, .ref (b + n)), (0, .ref (b + 83)), (1, .int a1), (2, .int a2), (3, .int a3), (4, .int a4), (5, .int a5)]) hx hb dX12_feed_83 hl (k := 0) rfl (by decide) (by decide) rfl (fun ls hl => ?_)
  refine lv_goto (tgt := 42) hx hb dX12_feed_86 (by decide) ?_
  refine lv_iload hx hb dX12_feed_42 (lv_at hl 0 rfl) ?_
  refine lv_bipush (v := 20) hx hb dX12_feed_44 (by decide) ?_
  refine lv_icmp_ge (tgt := 89) hx hb dX12_feed_46 (by decide) (fun c_79 => absurd c_79 (by decide)) (fun c_79 => ?_)
  refine lv_aload_n hx hb dX12_feed_49 rfl (lv_at hl 2 rfl) ?_
  refine g_get S hG 83 2 ((upE_n (by omega)).trans ((upE_n (by omega)).trans ((upE_n (by omega)).trans ((upE_n (by omega)).trans ((upE_n (by omega)).trans ((upE_n (by omega)).trans ((upE_n (by omega)).trans ((upE_n (by omega)).trans ((upE_n (by omega)).trans ((upE_n (by omega)).trans ((upE_n (by omega)).trans ((upE_n (by omega)).trans ((upE_n (by omega)).trans ((upE_n (by omega)).trans ((upE_n (by omega)).trans ((upE_n (by omega)).trans ((upE_n (by omega)).trans h83))))))))))))))))) cpX12 wm_1676 dX12_feed_50 rfl (by omega) (by decide) ?_
  refine lv_aload_n hx hb dX12_feed_53 rfl (lv_at hl 2 rfl) ?_
  refine g_get S hG 83 3 ((upE_n (by omega)).trans ((upE_n (by omega)).trans ((upE_n (by omega)).trans ((upE_n (by omega)).trans ((upE_n (by omega)).trans ((upE_n (by omega)).trans ((upE_n (by omega)).trans ((upE_n (by omega)).trans ((upE_n (by omega)).trans ((upE_n (by omega)).trans ((upE_n (by omega)).trans ((upE_n (by omega)).trans ((upE_n (by omega)).trans ((upE_n (by omega)).trans ((upE_n (by omega)).trans ((upE_n (by omega)).trans ((upE_n (by omega)).trans h83))))))))))))))))) cpX12 wm_1677 dX12_feed_54 rfl (by omega) (by decide) ?_
  refine lv_iload hx hb dX12_feed_57 (lv_at hl 0 rfl) ?_
  refine lv_iadd hx hb dX12_feed_59 ?_
  refine lv_topi (fun x_80 ex_80 => ?_)
  obtain rfl : x_80 = 11 := ex_80.trans (by decide)
  refine lv_aload hx hb dX12_feed_60 (lv_at hl 1 rfl) ?_
  refine lv_iload hx hb dX12_feed_62 (lv_at hl 0 rfl) ?_
  refine lv_iconst (v := 4) hx hb dX12_feed_64 (by decide) ?_
  refine lv_idiv hx hb dX12_feed_65 (by decide) ?_
  refine lv_topi (fun x_81 ex_81 => ?_)
  obtain rfl : x_81 = 2 := ex_81.trans (by decide)
  refine g_iald S hG n ((upE_n (by omega)).trans ((upE_n (by omega)).trans ((upE_n (by omega)).trans ((upE_n (by omega)).trans ((upE_n (by omega)).trans ((upE_n (by omega)).trans ((upE_n (by omega)).trans ((upE_n (by omega)).trans ((upE_n (by omega)).trans ((upE_n (by omega)).trans ((upE_n (by omega)).trans upE_s))))))))))) (by omega) dX12_feed_66 (by unfold vp_in; decide) ?_
  refine lv_bipush (v := 24) hx hb dX12_feed_67 (by decide) ?_
  refine lv_bipush (v := 8) hx hb dX12_feed_69 (by decide) ?_
  refine lv_iload hx hb dX12_feed_71 (lv_at hl 0 rfl) ?_
  refine lv_iconst (v := 4) hx hb dX12_feed_73 (by decide) ?_
  refine lv_irem hx hb dX12_feed_74 (by decide) ?_
  refine lv_topi (fun x_82 ex_82 => ?_)
  obtain rfl : x_82 = 3 := ex_82.trans (by decide)
  refine lv_imul hx hb dX12_feed_75 ?_
  refine lv_topi (fun x_83 ex_83 => ?_)
  obtain rfl : x_83 = 24 := ex_83.trans (by decide)
  refine lv_isub hx hb dX12_feed_76 ?_
  refine lv_topi (fun x_84 ex_84 => ?_)
  obtain rfl : x_84 = 0 := ex_84.trans (by decide)
  refine lv_iushr hx hb dX12_feed_77 rfl ?_
  refine lv_topi (fun x_85 ex_85 => ?_)
  refine lv_sipush (v := 255) hx hb dX12_feed_78 (by decide) ?_
  refine lv_iand hx hb dX12_feed_81 ?_
  refine g_iast S hG 86 upE_s (by omega) dX12_feed_82 (by unfold vp_in; decide) (fun H locs hG => ?_)
  refine lv_iinc (v := 12) (lv' := [(7, .int 12), (6, .ref (b + n)), (0, .ref (b + 83)), (1, .int a1), (2, .int a2), (3, .int a3), (4, .int a4), (5, .int a5)]) hx hb dX12_feed_83 hl (k := 0) rfl (by decide) (by decide) rfl (fun ls hl => ?_)
  refine lv_goto (tgt := 42) hx hb dX12_feed_86 (by decide) ?_
  refine lv_iload hx hb dX12_feed_42 (lv_at hl 0 rfl) ?_
  refine lv_bipush (v := 20) hx hb dX12_feed_44 (by decide) ?_
  refine lv_icmp_ge (tgt := 89) hx hb dX12_feed_46 (by decide) (fun c_86 => absurd c_86 (by decide)) (fun c_86 => ?_)
  refine lv_aload_n hx hb dX12_feed_49 rfl (lv_at hl 2 rfl) ?_
  refine g_get S hG 83 2 ((upE_n (by omega)).trans ((upE_n (by omega)).trans ((upE_n (by omega)).trans ((upE_n (by omega)).trans ((upE_n (by omega)).trans ((upE_n (by omega)).trans ((upE_n (by omega)).trans ((upE_n (by omega)).trans ((upE_n (by omega)).trans ((upE_n (by omega)).trans ((upE_n (by omega)).trans ((upE_n (by omega)).trans ((upE_n (by omega)).trans ((upE_n (by omega)).trans ((upE_n (by omega)).trans ((upE_n (by omega)).trans ((upE_n (by omega)).trans ((upE_n (by omega)).trans h83)))))))))))))))))) cpX12 wm_1676 dX12_feed_50 rfl (by omega) (by decide) ?_
  refine lv_aload_n hx hb dX12_feed_53 rfl (lv_at hl 2 rfl) ?_
  refine g_get S hG 83 3 ((upE_n (by omega)).trans ((upE_n (by omega)).trans ((upE_n (by omega)).trans ((upE_n (by omega)).trans ((upE_n (by omega)).trans ((upE_n (by omega)).trans ((upE_n (by omega)).trans ((upE_n (by omega)).trans ((upE_n (by omega)).trans ((upE_n (by omega)).trans ((upE_n (by omega)).trans ((upE_n (by omega)).trans ((upE_n (by omega)).trans ((upE_n (by omega)).trans ((upE_n (by omega)).trans ((upE_n (by omega)).trans ((upE_n (by omega)).trans ((upE_n (by omega)).trans h83)))))))))))))))))) cpX12 wm_1677 dX12_feed_54 rfl (by omega) (by decide) ?_
  refine lv_iload hx hb dX12_feed_57 (lv_at hl 0 rfl) ?_
  refine lv_iadd hx hb dX12_feed_59 ?_
  refine lv_topi (fun x_87 ex_87 => ?_)
  obtain rfl : x_87 = 12 := ex_87.trans (by decide)
  refine lv_aload hx hb dX12_feed_60 (lv_at hl 1 rfl) ?_
  refine lv_iload hx hb dX12_feed_62 (lv_at hl 0 rfl) ?_
  refine lv_iconst (v := 4) hx hb dX12_feed_64 (by decide) ?_
  refine lv_idiv hx hb dX12_feed_65 (by decide) ?_
  refine lv_topi (fun x_88 ex_88 => ?_)
  obtain rfl : x_88 = 3 := ex_88.trans (by decide)
  refine g_iald S hG n ((upE_n (by omega)).trans ((upE_n (by omega)).trans ((upE_n (by omega)).trans ((upE_n (by omega)).trans ((upE_n (by omega)).trans ((upE_n (by omega)).trans ((upE_n (by omega)).trans ((upE_n (by omega)).trans ((upE_n (by omega)).trans ((upE_n (by omega)).trans ((upE_n (by omega)).trans ((upE_n (by omega)).trans upE_s)))))))))))) (by omega) dX12_feed_66 (by unfold vp_in; decide) ?_
  refine lv_bipush (v := 24) hx hb dX12_feed_67 (by decide) ?_
  refine lv_bipush (v := 8) hx hb dX12_feed_69 (by decide) ?_
  refine lv_iload hx hb dX12_feed_71 (lv_at hl 0 rfl) ?_
  refine lv_iconst (v := 4) hx hb dX12_feed_73 (by decide) ?_
  refine lv_irem hx hb dX12_feed_74 (by decide) ?_
  refine lv_topi (fun x_89 ex_89 => ?_)
  obtain rfl : x_89 = 0 := ex_89.trans (by decide)
  refine lv_imul hx hb dX12_feed_75 ?_
  refine lv_topi (fun x_90 ex_90 => ?_)
  obtain rfl : x_90 = 0 := ex_90.trans (by decide)
  refine lv_isub hx hb dX12_feed_76 ?_
  refine lv_topi (fun x_91 ex_91 => ?_)
  obtain rfl : x_91 = 24 := ex_91.trans (by decide)
  refine lv_iushr hx hb dX12_feed_77 rfl ?_
  refine lv_topi (fun x_92 ex_92 => ?_)
  refine lv_sipush (v := 255) hx hb dX12_feed_78 (by decide) ?_
  refine lv_iand hx hb dX12_feed_81 ?_
  refine g_iast S hG 86 upE_s (by omega) dX12_feed_82 (by unfold vp_in; decide) (fun H locs hG => ?_)
  refine lv_iinc (v := 13) (lv' := [(7, .int 13), (6, .ref (b + n)), (0, .ref (b + 83)), (1, .int a1), (2, .int a2), (3, .int a3), (4, .int a4), (5, .int a5)]) hx hb dX12_feed_83 hl (k := 0) rfl (by decide) (by decide) rfl (fun ls hl => ?_)
  refine lv_goto (tgt := 42) hx hb dX12_feed_86 (by decide) ?_
  refine lv_iload hx hb dX12_feed_42 (lv_at hl 0 rfl) ?_
  refine lv_bipush (v := 20) hx hb dX12_feed_44 (by decide) ?_
  refine lv_icmp_ge (tgt := 89) hx hb dX12_feed_46 (by decide) (fun c_93 => absurd c_93 (by decide)) (fun c_93 => ?_)
  refine lv_aload_n hx hb dX12_feed_49 rfl (lv_at hl 2 rfl) ?_
  refine g_get S hG 83 2 ((upE_n (by omega)).trans ((upE_n (by omega)).trans ((upE_n (by omega)).trans ((upE_n (by omega)).trans ((upE_n (by omega)).trans ((upE_n (by omega)).trans ((upE_n (by omega)).trans ((upE_n (by omega)).trans ((upE_n (by omega)).trans ((upE_n (by omega)).trans ((upE_n (by omega)).trans ((upE_n (by omega)).trans ((upE_n (by omega)).trans ((upE_n (by omega)).trans ((upE_n (by omega)).trans ((upE_n (by omega)).trans ((upE_n (by omega)).trans ((upE_n (by omega)).trans ((upE_n (by omega)).trans h83))))))))))))))))))) cpX12 wm_1676 dX12_feed_50 rfl (by omega) (by decide) ?_
  refine lv_aload_n hx hb dX12_feed_53 rfl (lv_at hl 2 rfl) ?_
  refine g_get S hG 83 3 ((upE_n (by omega)).trans ((upE_n (by omega)).trans ((upE_n (by omega)).trans ((upE_n (by omega)).trans ((upE_n (by omega)).trans ((upE_n (by omega)).trans ((upE_n (by omega)).trans ((upE_n (by omega)).trans ((upE_n (by omega)).trans ((upE_n (by omega)).trans ((upE_n (by omega)).trans ((upE_n (by omega)).trans ((upE_n (by omega)).trans ((upE_n (by omega)).trans ((upE_n (by omega)).trans ((upE_n (by omega)).trans ((upE_n (by omega)).trans ((upE_n (by omega)).trans ((upE_n (by omega)).trans h83))))))))))))))))))) cpX12 wm_1677 dX12_feed_54 rfl (by omega) (by decide) ?_
  refine lv_iload hx hb dX12_feed_57 (lv_at hl 0 rfl) ?_
  refine lv_iadd hx hb dX12_feed_59 ?_
  refine lv_topi (fun x_94 ex_94 => ?_)
  obtain rfl : x_94 = 13 := ex_94.trans (by decide)
  refine lv_aload hx hb dX12_feed_60 (lv_at hl 1 rfl) ?_
  refine lv_iload hx hb dX12_feed_62 (lv_at hl 0 rfl) ?_
  refine lv_iconst (v := 4) hx hb dX12_feed_64 (by decide) ?_
  refine lv_idiv hx hb dX12_feed_65 (by decide) ?_
  refine lv_topi (fun x_95 ex_95 => ?_)
  obtain rfl : x_95 = 3 := ex_95.trans (by decide)
  refine g_iald S hG n ((upE_n (by omega)).trans ((upE_n (by omega)).trans ((upE_n (by omega)).trans ((upE_n (by omega)).trans ((upE_n (by omega)).trans ((upE_n (by omega)).trans ((upE_n (by omega)).trans ((upE_n (by omega)).trans ((upE_n (by omega)).trans ((upE_n (by omega)).trans ((upE_n (by omega)).trans ((upE_n (by omega)).trans ((upE_n (by omega)).trans upE_s))))))))))))) (by omega) dX12_feed_66 (by unfold vp_in; decide) ?_
  refine lv_bipush (v := 24) hx hb dX12_feed_67 (by decide) ?_
  refine lv_bipush (v := 8) hx hb dX12_feed_69 (by decide) ?_
  refine lv_iload hx hb dX12_feed_71 (lv_at hl 0 rfl) ?_
  refine lv_iconst (v := 4) hx hb dX12_feed_73 (by decide) ?_
  refine lv_irem hx hb dX12_feed_74 (by decide) ?_
  refine lv_topi (fun x_96 ex_96 => ?_)
  obtain rfl : x_96 = 1 := ex_96.trans (by decide)
  refine lv_imul hx hb dX12_feed_75 ?_
  refine lv_topi (fun x_97 ex_97 => ?_)
  obtain rfl : x_97 = 8 := ex_97.trans (by decide)
  refine lv_isub hx hb dX12_feed_76 ?_
  refine lv_topi (fun x_98 ex_98 => ?_)
  obtain rfl : x_98 = 16 := ex_98.trans (by decide)
  refine lv_iushr hx hb dX12_feed_77 rfl ?_
  refine lv_topi (fun x_99 ex_99 => ?_)
  refine lv_sipush (v := 255) hx hb dX12_feed_78 (by decide) ?_
  refine lv_iand hx hb dX12_feed_81 ?_
  refine g_iast S hG 86 upE_s (by omega) dX12_feed_82 (by unfold vp_in; decide) (fun H locs hG => ?_)
  refine lv_iinc (v := 14) (lv' := [(7, .int 14), (6, .ref (b + n)), (0, .ref (b + 83)), (1, .int a1), (2, .int a2), (3, .int a3), (4, .int a4), (5, .int a5)]) hx hb dX12_feed_83 hl (k := 0) rfl (by decide) (by decide) rfl (fun ls hl => ?_)
  refine lv_goto (tgt := 42) hx hb dX12_feed_86 (by decide) ?_
  refine lv_iload hx hb dX12_feed_42 (lv_at hl 0 rfl) ?_
  refine lv_bipush (v := 20) hx hb dX12_feed_44 (by decide) ?_
  refine lv_icmp_ge (tgt := 89) hx hb dX12_feed_46 (by decide) (fun c_100 => absurd c_100 (by decide)) (fun c_100 => ?_)
  refine lv_aload_n hx hb dX12_feed_49 rfl (lv_at hl 2 rfl) ?_
  refine g_get S hG 83 2 ((upE_n (by omega)).trans ((upE_n (by omega)).trans ((upE_n (by omega)).trans ((upE_n (by omega)).trans ((upE_n (by omega)).trans ((upE_n (by omega)).trans ((upE_n (by omega)).trans ((upE_n (by omega)).trans ((upE_n (by omega)).trans ((upE_n (by omega)).trans ((upE_n (by omega)).trans ((upE_n (by omega)).trans ((upE_n (by omega)).trans ((upE_n (by omega)).trans ((upE_n (by omega)).trans ((upE_n (by omega)).trans ((upE_n (by omega)).trans ((upE_n (by omega)).trans ((upE_n (by omega)).trans ((upE_n (by omega)).trans h83)))))))))))))))))))) cpX12 wm_1676 dX12_feed_50 rfl (by omega) (by decide) ?_
  refine lv_aload_n hx hb dX12_feed_53 rfl (lv_at hl 2 rfl) ?_
  refine g_get S hG 83 3 ((upE_n (by omega)).trans ((upE_n (by omega)).trans ((upE_n (by omega)).trans ((upE_n (by omega)).trans ((upE_n (by omega)).trans ((upE_n (by omega)).trans ((upE_n (by omega)).trans ((upE_n (by omega)).trans ((upE_n (by omega)).trans ((upE_n (by omega)).trans ((upE_n (by omega)).trans ((upE_n (by omega)).trans ((upE_n (by omega)).trans ((upE_n (by omega)).trans ((upE_n (by omega)).trans ((upE_n (by omega)).trans ((upE_n (by omega)).trans ((upE_n (by omega)).trans ((upE_n (by omega)).trans ((upE_n (by omega)).trans h83)))))))))))))))))))) cpX12 wm_1677 dX12_feed_54 rfl (by omega) (by decide) ?_
  refine lv_iload hx hb dX12_feed_57 (lv_at hl 0 rfl) ?_
  refine lv_iadd hx hb dX12_feed_59 ?_
  refine lv_topi (fun x_101 ex_101 => ?_)
  obtain rfl : x_101 = 14 := ex_101.trans (by decide)
  refine lv_aload hx hb dX12_feed_60 (lv_at hl 1 rfl) ?_
  refine lv_iload hx hb dX12_feed_62 (lv_at hl 0 rfl) ?_
  refine lv_iconst (v := 4) hx hb dX12_feed_64 (by decide) ?_
  refine lv_idiv hx hb dX12_feed_65 (by decide) ?_
  refine lv_topi (fun x_102 ex_102 => ?_)
  obtain rfl : x_102 = 3 := ex_102.trans (by decide)
  refine g_iald S hG n ((upE_n (by omega)).trans ((upE_n (by omega)).trans ((upE_n (by omega)).trans ((upE_n (by omega)).trans ((upE_n (by omega)).trans ((upE_n (by omega)).trans ((upE_n (by omega)).trans ((upE_n (by omega)).trans ((upE_n (by omega)).trans ((upE_n (by omega)).trans ((upE_n (by omega)).trans ((upE_n (by omega)).trans ((upE_n (by omega)).trans ((upE_n (by omega)).trans upE_s)))))))))))))) (by omega) dX12_feed_66 (by unfold vp_in; decide) ?_
  refine lv_bipush (v := 24) hx hb dX12_feed_67 (by decide) ?_
  refine lv_bipush (v := 8) hx hb dX12_feed_69 (by decide) ?_
  refine lv_iload hx hb dX12_feed_71 (lv_at hl 0 rfl) ?_
  refine lv_iconst (v := 4) hx hb dX12_feed_73 (by decide) ?_
  refine lv_irem hx hb dX12_feed_74 (by decide) ?_
  refine lv_topi (fun x_103 ex_103 => ?_)
  obtain rfl : x_103 = 2 := ex_103.trans (by decide)
  refine lv_imul hx hb dX12_feed_75 ?_
  refine lv_topi (fun x_104 ex_104 => ?_)
  obtain rfl : x_104 = 16 := ex_104.trans (by decide)
  refine lv_isub hx hb dX12_feed_76 ?_
  refine lv_topi (fun x_105 ex_105 => ?_)
  obtain rfl : x_105 = 8 := ex_105.trans (by decide)
  refine lv_iushr hx hb dX12_feed_77 rfl ?_
  refine lv_topi (fun x_106 ex_106 => ?_)
  refine lv_sipush (v := 255) hx hb dX12_feed_78 (by decide) ?_
  refine lv_iand hx hb dX12_feed_81 ?_
  refine g_iast S hG 86 upE_s (by omega) dX12_feed_82 (by unfold vp_in; decide) (fun H locs hG => ?_)
  refine lv_iinc (v := 15) (lv' := [(7, .int 15), (6, .ref (b + n)), (0, .ref (b + 83)), (1, .int a1), (2, .int a2), (3, .int a3), (4, .int a4), (5, .int a5)]) hx hb dX12_feed_83 hl (k := 0) rfl (by decide) (by decide) rfl (fun ls hl => ?_)
  refine lv_goto (tgt := 42) hx hb dX12_feed_86 (by decide) ?_
  refine lv_iload hx hb dX12_feed_42 (lv_at hl 0 rfl) ?_
  refine lv_bipush (v := 20) hx hb dX12_feed_44 (by decide) ?_
  refine lv_icmp_ge (tgt := 89) hx hb dX12_feed_46 (by decide) (fun c_107 => absurd c_107 (by decide)) (fun c_107 => ?_)
  refine lv_aload_n hx hb dX12_feed_49 rfl (lv_at hl 2 rfl) ?_
  refine g_get S hG 83 2 ((upE_n (by omega)).trans ((upE_n (by omega)).trans ((upE_n (by omega)).trans ((upE_n (by omega)).trans ((upE_n (by omega)).trans ((upE_n (by omega)).trans ((upE_n (by omega)).trans ((upE_n (by omega)).trans ((upE_n (by omega)).trans ((upE_n (by omega)).trans ((upE_n (by omega)).trans ((upE_n (by omega)).trans ((upE_n (by omega)).trans ((upE_n (by omega)).trans ((upE_n (by omega)).trans ((upE_n (by omega)).trans ((upE_n (by omega)).trans ((upE_n (by omega)).trans ((upE_n (by omega)).trans ((upE_n (by omega)).trans ((upE_n (by omega)).trans h83))))))))))))))))))))) cpX12 wm_1676 dX12_feed_50 rfl (by omega) (by decide) ?_
  refine lv_aload_n hx hb dX12_feed_53 rfl (lv_at hl 2 rfl) ?_
  refine g_get S hG 83 3 ((upE_n (by omega)).trans ((upE_n (by omega)).trans ((upE_n (by omega)).trans ((upE_n (by omega)).trans ((upE_n (by omega)).trans ((upE_n (by omega)).trans ((upE_n (by omega)).trans ((upE_n (by omega)).trans ((upE_n (by omega)).trans ((upE_n (by omega)).trans ((upE_n (by omega)).trans ((upE_n (by omega)).trans ((upE_n (by omega)).trans ((upE_n (by omega)).trans ((upE_n (by omega)).trans ((upE_n (by omega)).trans ((upE_n (by omega)).trans ((upE_n (by omega)).trans ((upE_n (by omega)).trans ((upE_n (by omega)).trans ((upE_n (by omega)).trans h83))))))))))))))))))))) cpX12 wm_1677 dX12_feed_54 rfl (by omega) (by decide) ?_
  refine lv_iload hx hb dX12_feed_57 (lv_at hl 0 rfl) ?_
  refine lv_iadd hx hb dX12_feed_59 ?_
  refine lv_topi (fun x_108 ex_108 => ?_)
  obtain rfl : x_108 = 15 := ex_108.trans (by decide)
  refine lv_aload hx hb dX12_feed_60 (lv_at hl 1 rfl) ?_
  refine lv_iload hx hb dX12_feed_62 (lv_at hl 0 rfl) ?_
  refine lv_iconst (v := 4) hx hb dX12_feed_64 (by decide) ?_
  refine lv_idiv hx hb dX12_feed_65 (by decide) ?_
  refine lv_topi (fun x_109 ex_109 => ?_)
  obtain rfl : x_109 = 3 := ex_109.trans (by decide)
  refine g_iald S hG n ((upE_n (by omega)).trans ((upE_n (by omega)).trans ((upE_n (by omega)).trans ((upE_n (by omega)).trans ((upE_n (by omega)).trans ((upE_n (by omega)).trans ((upE_n (by omega)).trans ((upE_n (by omega)).trans ((upE_n (by omega)).trans ((upE_n (by omega)).trans ((upE_n (by omega)).trans ((upE_n (by omega)).trans ((upE_n (by omega)).trans ((upE_n (by omega)).trans ((upE_n (by omega)).trans upE_s))))))))))))))) (by omega) dX12_feed_66 (by unfold vp_in; decide) ?_
  refine lv_bipush (v := 24) hx hb dX12_feed_67 (by decide) ?_
  refine lv_bipush (v := 8) hx hb dX12_feed_69 (by decide) ?_
  refine lv_iload hx hb dX12_feed_71 (lv_at hl 0 rfl) ?_
  refine lv_iconst (v := 4) hx hb dX12_feed_73 (by decide) ?_
  refine lv_irem hx hb dX12_feed_74 (by decide) ?_
  refine lv_topi (fun x_110 ex_110 => ?_)
  obtain rfl : x_110 = 3 := ex_110.trans (by decide)
  refine lv_imul hx hb dX12_feed_75 ?_
  refine lv_topi (fun x_111 ex_111 => ?_)
  obtain rfl : x_111 = 24 := ex_111.trans (by decide)
  refine lv_isub hx hb dX12_feed_76 ?_
  refine lv_topi (fun x_112 ex_112 => ?_)
  obtain rfl : x_112 = 0 := ex_112.trans (by decide)
  refine lv_iushr hx hb dX12_feed_77 rfl ?_
  refine lv_topi (fun x_113 ex_113 => ?_)
  refine lv_sipush (v := 255) hx hb dX12_feed_78 (by decide) ?_
  refine lv_iand hx hb dX12_feed_81 ?_
  refine g_iast S hG 86 upE_s (by omega) dX12_feed_82 (by unfold vp_in; decide) (fun H locs hG => ?_)
  refine lv_iinc (v := 16) (lv' := [(7, .int 16), (6, .ref (b + n)), (0, .ref (b + 83)), (1, .int a1), (2, .int a2), (3, .int a3), (4, .int a4), (5, .int a5)]) hx hb dX12_feed_83 hl (k := 0) rfl (by decide) (by decide) rfl (fun ls hl => ?_)
  refine lv_goto (tgt := 42) hx hb dX12_feed_86 (by decide) ?_
  refine lv_iload hx hb dX12_feed_42 (lv_at hl 0 rfl) ?_
  refine lv_bipush (v := 20) hx hb dX12_feed_44 (by decide) ?_
  refine lv_icmp_ge (tgt := 89) hx hb dX12_feed_46 (by decide) (fun c_114 => absurd c_114 (by decide)) (fun c_114 => ?_)
  refine lv_aload_n hx hb dX12_feed_49 rfl (lv_at hl 2 rfl) ?_
  refine g_get S hG 83 2 ((upE_n (by omega)).trans ((upE_n (by omega)).trans ((upE_n (by omega)).trans ((upE_n (by omega)).trans ((upE_n (by omega)).trans ((upE_n (by omega)).trans ((upE_n (by omega)).trans ((upE_n (by omega)).trans ((upE_n (by omega)).trans ((upE_n (by omega)).trans ((upE_n (by omega)).trans ((upE_n (by omega)).trans ((upE_n (by omega)).trans ((upE_n (by omega)).trans ((upE_n (by omega)).trans ((upE_n (by omega)).trans ((upE_n (by omega)).trans ((upE_n (by omega)).trans ((upE_n (by omega)).trans ((upE_n (by omega)).trans ((upE_n (by omega)).trans ((upE_n (by omega)).trans h83)))))))))))))))))))))) cpX12 wm_1676 dX12_feed_50 rfl (by omega) (by decide) ?_
  refine lv_aload_n hx hb dX12_feed_53 rfl (lv_at hl 2 rfl) ?_
  refine g_get S hG 83 3 ((upE_n (by omega)).trans ((upE_n (by omega)).trans ((upE_n (by omega)).trans ((upE_n (by omega)).trans ((upE_n (by omega)).trans ((upE_n (by omega)).trans ((upE_n (by omega)).trans ((upE_n (by omega)).trans ((upE_n (by omega)).trans ((upE_n (by omega)).trans ((upE_n (by omega)).trans ((upE_n (by omega)).trans ((upE_n (by omega)).trans ((upE_n (by omega)).trans ((upE_n (by omega)).trans ((upE_n (by omega)).trans ((upE_n (by omega)).trans ((upE_n (by omega)).trans ((upE_n (by omega)).trans ((upE_n (by omega)).trans ((upE_n (by omega)).trans ((upE_n (by omega)).trans h83)))))))))))))))))))))) cpX12 wm_1677 dX12_feed_54 rfl (by omega) (by decide) ?_
  refine lv_iload hx hb dX12_feed_57 (lv_at hl 0 rfl) ?_
  refine lv_iadd hx hb dX12_feed_59 ?_
  refine lv_topi (fun x_115 ex_115 => ?_)
  obtain rfl : x_115 = 16 := ex_115.trans (by decide)
  refine lv_aload hx hb dX12_feed_60 (lv_at hl 1 rfl) ?_
  refine lv_iload hx hb dX12_feed_62 (lv_at hl 0 rfl) ?_
  refine lv_iconst (v := 4) hx hb dX12_feed_64 (by decide) ?_
  refine lv_idiv hx hb dX12_feed_65 (by decide) ?_
  refine lv_topi (fun x_116 ex_116 => ?_)
  obtain rfl : x_116 = 4 := ex_116.trans (by decide)
  refine g_iald S hG n ((upE_n (by omega)).trans ((upE_n (by omega)).trans ((upE_n (by omega)).trans ((upE_n (by omega)).trans ((upE_n (by omega)).trans ((upE_n (by omega)).trans ((upE_n (by omega)).trans ((upE_n (by omega)).trans ((upE_n (by omega)).trans ((upE_n (by omega)).trans ((upE_n (by omega)).trans ((upE_n (by omega)).trans ((upE_n (by omega)).trans ((upE_n (by omega)).trans ((upE_n (by omega)).trans ((upE_n (by omega)).trans upE_s)))))))))))))))) (by omega) dX12_feed_66 (by unfold vp_in; decide) ?_
  refine lv_bipush (v := 24) hx hb dX12_feed_67 (by decide) ?_
  refine lv_bipush (v := 8) hx hb dX12_feed_69 (by decide) ?_
  refine lv_iload hx hb dX12_feed_71 (lv_at hl 0 rfl) ?_
  refine lv_iconst (v := 4) hx hb dX12_feed_73 (by decide) ?_
  refine lv_irem hx hb dX12_feed_74 (by decide) ?_
  refine lv_topi (fun x_117 ex_117 => ?_)
  obtain rfl : x_117 = 0 := ex_117.trans (by decide)
  refine lv_imul hx hb dX12_feed_75 ?_
  refine lv_topi (fun x_118 ex_118 => ?_)
  obtain rfl : x_118 = 0 := ex_118.trans (by decide)
  refine lv_isub hx hb dX12_feed_76 ?_
  refine lv_topi (fun x_119 ex_119 => ?_)
  obtain rfl : x_119 = 24 := ex_119.trans (by decide)
  refine lv_iushr hx hb dX12_feed_77 rfl ?_
  refine lv_topi (fun x_120 ex_120 => ?_)
  refine lv_sipush (v := 255) hx hb dX12_feed_78 (by decide) ?_
  refine lv_iand hx hb dX12_feed_81 ?_
  refine g_iast S hG 86 upE_s (by omega) dX12_feed_82 (by unfold vp_in; decide) (fun H locs hG => ?_)
  refine lv_iinc (v := 17) (lv' := [(7, .int 17), (6, .ref (b + n)), (0, .ref (b + 83)), (1, .int a1), (2, .int a2), (3, .int a3), (4, .int a4), (5, .int a5)]) hx hb dX12_feed_83 hl (k := 0) rfl (by decide) (by decide) rfl (fun ls hl => ?_)
  refine lv_goto (tgt := 42) hx hb dX12_feed_86 (by decide) ?_
  refine lv_iload hx hb dX12_feed_42 (lv_at hl 0 rfl) ?_
  refine lv_bipush (v := 20) hx hb dX12_feed_44 (by decide) ?_
  refine lv_icmp_ge (tgt := 89) hx hb dX12_feed_46 (by decide) (fun c_121 => absurd c_121 (by decide)) (fun c_121 => ?_)
  refine lv_aload_n hx hb dX12_feed_49 rfl (lv_at hl 2 rfl) ?_
  refine g_get S hG 83 2 ((upE_n (by omega)).trans ((upE_n (by omega)).trans ((upE_n (by omega)).trans ((upE_n (by omega)).trans ((upE_n (by omega)).trans ((upE_n (by omega)).trans ((upE_n (by omega)).trans ((upE_n (by omega)).trans ((upE_n (by omega)).trans ((upE_n (by omega)).trans ((upE_n (by omega)).trans ((upE_n (by omega)).trans ((upE_n (by omega)).trans ((upE_n (by omega)).trans ((upE_n (by omega)).trans ((upE_n (by omega)).trans ((upE_n (by omega)).trans ((upE_n (by omega)).trans ((upE_n (by omega)).trans ((upE_n (by omega)).trans ((upE_n (by omega)).trans ((upE_n (by omega)).trans ((upE_n (by omega)).trans h83))))))))))))))))))))))) cpX12 wm_1676 dX12_feed_50 rfl (by omega) (by decide) ?_
  refine lv_aload_n hx hb dX12_feed_53 rfl (lv_at hl 2 rfl) ?_
  refine g_get S hG 83 3 ((upE_n (by omega)).trans ((upE_n (by omega)).trans ((upE_n (by omega)).trans ((upE_n (by omega)).trans ((upE_n (by omega)).trans ((upE_n (by omega)).trans ((upE_n (by omega)).trans ((upE_n (by omega)).trans ((upE_n (by omega)).trans ((upE_n (by omega)).trans ((upE_n (by omega)).trans ((upE_n (by omega)).trans ((upE_n (by omega)).trans ((upE_n (by omega)).trans ((upE_n (by omega)).trans ((upE_n (by omega)).trans ((upE_n (by omega)).trans ((upE_n (by omega)).trans ((upE_n (by omega)).trans ((upE_n (by omega)).trans ((upE_n (by omega)).trans ((upE_n (by omega)).trans ((upE_n (by omega)).trans h83))))))))))))))))))))))) cpX12 wm_1677 dX12_feed_54 rfl (by omega) (by decide) ?_
  refine lv_iload hx hb dX12_feed_57 (lv_at hl 0 rfl) ?_
  refine lv_iadd hx hb dX12_feed_59 ?_
  refine lv_topi (fun x_122 ex_122 => ?_)
  obtain rfl : x_122 = 17 := ex_122.trans (by decide)
  refine lv_aload hx hb dX12_feed_60 (lv_at hl 1 rfl) ?_
  refine lv_iload hx hb dX12_feed_62 (lv_at hl 0 rfl) ?_
  refine lv_iconst (v := 4) hx hb dX12_feed_64 (by decide) ?_
  refine lv_idiv hx hb dX12_feed_65 (by decide) ?_
  refine lv_topi (fun x_123 ex_123 => ?_)
  obtain rfl : x_123 = 4 := ex_123.trans (by decide)
  refine g_iald S hG n ((upE_n (by omega)).trans ((upE_n (by omega)).trans ((upE_n (by omega)).trans ((upE_n (by omega)).trans ((upE_n (by omega)).trans ((upE_n (by omega)).trans ((upE_n (by omega)).trans ((upE_n (by omega)).trans ((upE_n (by omega)).trans ((upE_n (by omega)).trans ((upE_n (by omega)).trans ((upE_n (by omega)).trans ((upE_n (by omega)).trans ((upE_n (by omega)).trans ((upE_n (by omega)).trans ((upE_n (by omega)).trans ((upE_n (by omega)).trans upE_s))))))))))))))))) (by omega) dX12_feed_66 (by unfold vp_in; decide) ?_
  refine lv_bipush (v := 24) hx hb dX12_feed_67 (by decide) ?_
  refine lv_bipush (v := 8) hx hb dX12_feed_69 (by decide) ?_
  refine lv_iload hx hb dX12_feed_71 (lv_at hl 0 rfl) ?_
  refine lv_iconst (v := 4) hx hb dX12_feed_73 (by decide) ?_
  refine lv_irem hx hb dX12_feed_74 (by decide) ?_
  refine lv_topi (fun x_124 ex_124 => ?_)
  obtain rfl : x_124 = 1 := ex_124.trans (by decide)
  refine lv_imul hx hb dX12_feed_75 ?_
  refine lv_topi (fun x_125 ex_125 => ?_)
  obtain rfl : x_125 = 8 := ex_125.trans (by decide)
  refine lv_isub hx hb dX12_feed_76 ?_
  refine lv_topi (fun x_126 ex_126 => ?_)
  obtain rfl : x_126 = 16 := ex_126.trans (by decide)
  refine lv_iushr hx hb dX12_feed_77 rfl ?_
  refine lv_topi (fun x_127 ex_127 => ?_)
  refine lv_sipush (v := 255) hx hb dX12_feed_78 (by decide) ?_
  refine lv_iand hx hb dX12_feed_81 ?_
  refine g_iast S hG 86 upE_s (by omega) dX12_feed_82 (by unfold vp_in; decide) (fun H locs hG => ?_)
  refine lv_iinc (v := 18) (lv' := [(7, .int 18), (6, .ref (b + n)), (0, .ref (b + 83)), (1, .int a1), (2, .int a2), (3, .int a3), (4, .int a4), (5, .int a5)]) hx hb dX12_feed_83 hl (k := 0) rfl (by decide) (by decide) rfl (fun ls hl => ?_)
  refine lv_goto (tgt := 42) hx hb dX12_feed_86 (by decide) ?_
  refine lv_iload hx hb dX12_feed_42 (lv_at hl 0 rfl) ?_
  refine lv_bipush (v := 20) hx hb dX12_feed_44 (by decide) ?_
  refine lv_icmp_ge (tgt := 89) hx hb dX12_feed_46 (by decide) (fun c_128 => absurd c_128 (by decide)) (fun c_128 => ?_)
  refine lv_aload_n hx hb dX12_feed_49 rfl (lv_at hl 2 rfl) ?_
  refine g_get S hG 83 2 ((upE_n (by omega)).trans ((upE_n (by omega)).trans ((upE_n (by omega)).trans ((upE_n (by omega)).trans ((upE_n (by omega)).trans ((upE_n (by omega)).trans ((upE_n (by omega)).trans ((upE_n (by omega)).trans ((upE_n (by omega)).trans ((upE_n (by omega)).trans ((upE_n (by omega)).trans ((upE_n (by omega)).trans ((upE_n (by omega)).trans ((upE_n (by omega)).trans ((upE_n (by omega)).trans ((upE_n (by omega)).trans ((upE_n (by omega)).trans ((upE_n (by omega)).trans ((upE_n (by omega)).trans ((upE_n (by omega)).trans ((upE_n (by omega)).trans ((upE_n (by omega)).trans ((upE_n (by omega)).trans ((upE_n (by omega)).trans h83)))))))))))))))))))))))) cpX12 wm_1676 dX12_feed_50 rfl (by omega) (by decide) ?_
  refine lv_aload_n hx hb dX12_feed_53 rfl (lv_at hl 2 rfl) ?_
  refine g_get S hG 83 3 ((upE_n (by omega)).trans ((upE_n (by omega)).trans ((upE_n (by omega)).trans ((upE_n (by omega)).trans ((upE_n (by omega)).trans ((upE_n (by omega)).trans ((upE_n (by omega)).trans ((upE_n (by omega)).trans ((upE_n (by omega)).trans ((upE_n (by omega)).trans ((upE_n (by omega)).trans ((upE_n (by omega)).trans ((upE_n (by omega)).trans ((upE_n (by omega)).trans ((upE_n (by omega)).trans ((upE_n (by omega)).trans ((upE_n (by omega)).trans ((upE_n (by omega)).trans ((upE_n (by omega)).trans ((upE_n (by omega)).trans ((upE_n (by omega)).trans ((upE_n (by omega)).trans ((upE_n (by omega)).trans ((upE_n (by omega)).trans h83)))))))))))))))))))))))) cpX12 wm_1677 dX12_feed_54 rfl (by omega) (by decide) ?_
  refine lv_iload hx hb dX12_feed_57 (lv_at hl 0 rfl) ?_
  refine lv_iadd hx hb dX12_feed_59 ?_
  refine lv_topi (fun x_129 ex_129 => ?_)
  obtain rfl : x_129 = 18 := ex_129.trans (by decide)
  refine lv_aload hx hb dX12_feed_60 (lv_at hl 1 rfl) ?_
  refine lv_iload hx hb dX12_feed_62 (lv_at hl 0 rfl) ?_
  refine lv_iconst (v := 4) hx hb dX12_feed_64 (by decide) ?_
  refine lv_idiv hx hb dX12_feed_65 (by decide) ?_
  refine lv_topi (fun x_130 ex_130 => ?_)
  obtain rfl : x_130 = 4 := ex_130.trans (by decide)
  refine g_iald S hG n ((upE_n (by omega)).trans ((upE_n (by omega)).trans ((upE_n (by omega)).trans ((upE_n (by omega)).trans ((upE_n (by omega)).trans ((upE_n (by omega)).trans ((upE_n (by omega)).trans ((upE_n (by omega)).trans ((upE_n (by omega)).trans ((upE_n (by omega)).trans ((upE_n (by omega)).trans ((upE_n (by omega)).trans ((upE_n (by omega)).trans ((upE_n (by omega)).trans ((upE_n (by omega)).trans ((upE_n (by omega)).trans ((upE_n (by omega)).trans ((upE_n (by omega)).trans upE_s)))))))))))))))))) (by omega) dX12_feed_66 (by unfold vp_in; decide) ?_
  refine lv_bipush (v := 24) hx hb dX12_feed_67 (by decide) ?_
  refine lv_bipush (v := 8) hx hb dX12_feed_69 (by decide) ?_
  refine lv_iload hx hb dX12_feed_71 (lv_at hl 0 rfl) ?_
  refine lv_iconst (v := 4) hx hb dX12_feed_73 (by decide) ?_
  refine lv_irem hx hb dX12_feed_74 (by decide) ?_
  refine lv_topi (fun x_131 ex_131 => ?_)
  obtain rfl : x_131 = 2 := ex_131.trans (by decide)
  refine lv_imul hx hb dX12_feed_75 ?_
  refine lv_topi (fun x_132 ex_132 => ?_)
  obtain rfl : x_132 = 16 := ex_132.trans (by decide)
  refine lv_isub hx hb dX12_feed_76 ?_
  refine lv_topi (fun x_133 ex_133 => ?_)
  obtain rfl : x_133 = 8 := ex_133.trans (by decide)
  refine lv_iushr hx hb dX12_feed_77 rfl ?_
  refine lv_topi (fun x_134 ex_134 => ?_)
  refine lv_sipush (v := 255) hx hb dX12_feed_78 (by decide) ?_
  refine lv_iand hx hb dX12_feed_81 ?_
  refine g_iast S hG 86 upE_s (by omega) dX12_feed_82 (by unfold vp_in; decide) (fun H locs hG => ?_)
  refine lv_iinc (v := 19) (lv' := [(7, .int 19), (6, .ref (b + n)), (0, .ref (b + 83)), (1, .int a1), (2, .int a2), (3, .int a3), (4, .int a4), (5, .int a5)]) hx hb dX12_feed_83 hl (k := 0) rfl (by decide) (by decide) rfl (fun ls hl => ?_)
  refine lv_goto (tgt := 42) hx hb dX12_feed_86 (by decide) ?_
  refine lv_iload hx hb dX12_feed_42 (lv_at hl 0 rfl) ?_
  refine lv_bipush (v := 20) hx hb dX12_feed_44 (by decide) ?_
  refine lv_icmp_ge (tgt := 89) hx hb dX12_feed_46 (by decide) (fun c_135 => absurd c_135 (by decide)) (fun c_135 => ?_)
  refine lv_aload_n hx hb dX12_feed_49 rfl (lv_at hl 2 rfl) ?_
  refine g_get S hG 83 2 ((upE_n (by omega)).trans ((upE_n (by omega)).trans ((upE_n (by omega)).trans ((upE_n (by omega)).trans ((upE_n (by omega)).trans ((upE_n (by omega)).trans ((upE_n (by omega)).trans ((upE_n (by omega)).trans ((upE_n (by omega)).trans ((upE_n (by omega)).trans ((upE_n (by omega)).trans ((upE_n (by omega)).trans ((upE_n (by omega)).trans ((upE_n (by omega)).trans ((upE_n (by omega)).trans ((upE_n (by omega)).trans ((upE_n (by omega)).trans ((upE_n (by omega)).trans ((upE_n (by omega)).trans ((upE_n (by omega)).trans ((upE_n (by omega)).trans ((upE_n (by omega)).trans ((upE_n (by omega)).trans ((upE_n (by omega)).trans ((upE_n (by omega)).trans h83))))))))))))))))))))))))) cpX12 wm_1676 dX12_feed_50 rfl (by omega) (by decide) ?_
  refine lv_aload_n hx hb dX12_feed_53 rfl (lv_at hl 2 rfl) ?_
  refine g_get S hG 83 3 ((upE_n (by omega)).trans ((upE_n (by omega)).trans ((upE_n (by omega)).trans ((upE_n (by omega)).trans ((upE_n (by omega)).trans ((upE_n (by omega)).trans ((upE_n (by omega)).trans ((upE_n (by omega)).trans ((upE_n (by omega)).trans ((upE_n (by omega)).trans ((upE_n (by omega)).trans ((upE_n (by omega)).trans ((upE_n (by omega)).trans ((upE_n (by omega)).trans ((upE_n (by omega)).trans ((upE_n (by omega)).trans ((upE_n (by omega)).trans ((upE_n (by omega)).trans ((upE_n (by omega)).trans ((upE_n (by omega)).trans ((upE_n (by omega)).trans ((upE_n (by omega)).trans ((upE_n (by omega)).trans ((upE_n (by omega)).trans ((upE_n (by omega)).trans h83))))))))))))))))))))))))) cpX12 wm_1677 dX12_feed_54 rfl (by omega) (by decide) ?_
  refine lv_iload hx hb dX12_feed_57 (lv_at hl 0 rfl) ?_
  refine lv_iadd hx hb dX12_feed_59 ?_
  refine lv_topi (fun x_136 ex_136 => ?_)
  obtain rfl : x_136 = 19 := ex_136.trans (by decide)
  refine lv_aload hx hb dX12_feed_60 (lv_at hl 1 rfl) ?_
  refine lv_iload hx hb dX12_feed_62 (lv_at hl 0 rfl) ?_
  refine lv_iconst (v := 4) hx hb dX12_feed_64 (by decide) ?_
  refine lv_idiv hx hb dX12_feed_65 (by decide) ?_
  refine lv_topi (fun x_137 ex_137 => ?_)
  obtain rfl : x_137 = 4 := ex_137.trans (by decide)
  refine g_iald S hG n ((upE_n (by omega)).trans ((upE_n (by omega)).trans ((upE_n (by omega)).trans ((upE_n (by omega)).trans ((upE_n (by omega)).trans ((upE_n (by omega)).trans ((upE_n (by omega)).trans ((upE_n (by omega)).trans ((upE_n (by omega)).trans ((upE_n (by omega)).trans ((upE_n (by omega)).trans ((upE_n (by omega)).trans ((upE_n (by omega)).trans ((upE_n (by omega)).trans ((upE_n (by omega)).trans ((upE_n (by omega)).trans ((upE_n (by omega)).trans ((upE_n (by omega)).trans ((upE_n (by omega)).trans upE_s))))))))))))))))))) (by omega) dX12_feed_66 (by unfold vp_in; decide) ?_
  refine lv_bipush (v := 24) hx hb dX12_feed_67 (by decide) ?_
  refine lv_bipush (v := 8) hx hb dX12_feed_69 (by decide) ?_
  refine lv_iload hx hb dX12_feed_71 (lv_at hl 0 rfl) ?_
  refine lv_iconst (v := 4) hx hb dX12_feed_73 (by decide) ?_
  refine lv_irem hx hb dX12_feed_74 (by decide) ?_
  refine lv_topi (fun x_138 ex_138 => ?_)
  obtain rfl : x_138 = 3 := ex_138.trans (by decide)
  refine lv_imul hx hb dX12_feed_75 ?_
  refine lv_topi (fun x_139 ex_139 => ?_)
  obtain rfl : x_139 = 24 := ex_139.trans (by decide)
  refine lv_isub hx hb dX12_feed_76 ?_
  refine lv_topi (fun x_140 ex_140 => ?_)
  obtain rfl : x_140 = 0 := ex_140.trans (by decide)
  refine lv_iushr hx hb dX12_feed_77 rfl ?_
  refine lv_topi (fun x_141 ex_141 => ?_)
  refine lv_sipush (v := 255) hx hb dX12_feed_78 (by decide) ?_
  refine lv_iand hx hb dX12_feed_81 ?_
  refine g_iast S hG 86 upE_s (by omega) dX12_feed_82 (by unfold vp_in; decide) (fun H locs hG => ?_)
  refine lv_iinc (v := 20) (lv' := [(7, .int 20), (6, .ref (b + n)), (0, .ref (b + 83)), (1, .int a1), (2, .int a2), (3, .int a3), (4, .int a4), (5, .int a5)]) hx hb dX12_feed_83 hl (k := 0) rfl (by decide) (by decide) rfl (fun ls hl => ?_)
  refine lv_goto (tgt := 42) hx hb dX12_feed_86 (by decide) ?_
  refine lv_iload hx hb dX12_feed_42 (lv_at hl 0 rfl) ?_
  refine lv_bipush (v := 20) hx hb dX12_feed_44 (by decide) ?_
  refine lv_icmp_ge (tgt := 89) hx hb dX12_feed_46 (by decide) (fun c_142 => ?_) (fun c_142 => absurd c_142 (by decide))
  refine lv_aload_n hx hb dX12_feed_89 rfl (lv_at hl 2 rfl) ?_
  refine lv_dup hx hb dX12_feed_90 rfl ?_
  refine g_get S hG 83 3 ((upE_n (by omega)).trans ((upE_n (by omega)).trans ((upE_n (by omega)).trans ((upE_n (by omega)).trans ((upE_n (by omega)).trans ((upE_n (by omega)).trans ((upE_n (by omega)).trans ((upE_n (by omega)).trans ((upE_n (by omega)).trans ((upE_n (by omega)).trans ((upE_n (by omega)).trans ((upE_n (by omega)).trans ((upE_n (by omega)).trans ((upE_n (by omega)).trans ((upE_n (by omega)).trans ((upE_n (by omega)).trans ((upE_n (by omega)).trans ((upE_n (by omega)).trans ((upE_n (by omega)).trans ((upE_n (by omega)).trans ((upE_n (by omega)).trans ((upE_n (by omega)).trans ((upE_n (by omega)).trans ((upE_n (by omega)).trans ((upE_n (by omega)).trans ((upE_n (by omega)).trans h83)))))))))))))))))))))))))) cpX12 wm_1677 dX12_feed_91 rfl (by omega) (by decide) ?_
  refine lv_bipush (v := 20) hx hb dX12_feed_94 (by decide) ?_
  refine lv_iadd hx hb dX12_feed_96 ?_
  refine lv_topi (fun x_143 ex_143 => ?_)
  obtain rfl : x_143 = 20 := ex_143.trans (by decide)
  refine g_put (fs' := [.ref (b + 84), .ref (b + 85), .ref (b + 86), .int 20, .int 0, .int (-1), .int 0, .int 0, .int 0, .int 0, .int 0, .ref (b + 87), .ref (b + 88), .ref (b + 89), .ref (b + 90), .ref (b + 91), .ref (b + 92), .ref (b + 93), .ref (b + 94), .ref (b + 95), .int 0, .int 0, .int 0, .int 0, .int 0, .int 0, .int 0, .int 0, .ref (b + 96), .ref (b + 97), .ref (b + 98), .int 0, .long 0, .ref (b + 99), .ref (b + 100), .ref (b + 101), .ref (b + 102), .ref (b + 103), .int 0, .ref (b + 104), .int 0, .int 0, .int (-1), .int (-1), .int 0, .int 0, .int 0, .int 0, .int 0, .int 0, .int 0, .int 0]) S hG 83 3 ((upE_n (by omega)).trans ((upE_n (by omega)).trans ((upE_n (by omega)).trans ((upE_n (by omega)).trans ((upE_n (by omega)).trans ((upE_n (by omega)).trans ((upE_n (by omega)).trans ((upE_n (by omega)).trans ((upE_n (by omega)).trans ((upE_n (by omega)).trans ((upE_n (by omega)).trans ((upE_n (by omega)).trans ((upE_n (by omega)).trans ((upE_n (by omega)).trans ((upE_n (by omega)).trans ((upE_n (by omega)).trans ((upE_n (by omega)).trans ((upE_n (by omega)).trans ((upE_n (by omega)).trans ((upE_n (by omega)).trans ((upE_n (by omega)).trans ((upE_n (by omega)).trans ((upE_n (by omega)).trans ((upE_n (by omega)).trans ((upE_n (by omega)).trans ((upE_n (by omega)).trans h83)))))))))))))))))))))))))) cpX12 wm_1677 dX12_feed_97 rfl (by omega) (by decide) (Nat.le_of_ble_eq_true rfl) rfl rfl rfl (fun H locs hG => ?_)
  refine lv_aload_n hx hb dX12_feed_100 rfl (lv_at hl 2 rfl) ?_
  refine g_get S hG 83 3 upE_s cpX12 wm_1677 dX12_feed_101 rfl (by omega) (by decide) ?_
  exact g_iret S hr hlk hG (by omega) dX12_feed_104 ⟨Nat.le_of_ble_eq_true rfl, Nat.le_of_ble_eq_true rfl⟩ rfl
theorem wS_2_55 : gWS "GrownKinds$Grammar" 55 yJ7_fill_53178 cJ7_fill_53178 4 none := ⟨wm_748, wm_749, wm_188, wm_750, by decide +kernel, by decide +kernel⟩
set_option maxHeartbeats 4000000 in
set_option maxRecDepth 100000 in
theorem qX2_clear_13 (l : Launch) {D : va_G} {cy : Nat → ClassId} {b n : Nat} (hn : 105 ≤ n) {E : Nat → va_E}  (h13 : E 13 = Z13 b cy) (h19 : E 19 = Z19 b cy) (h21 : E 21 = Z21 b cy)   : gV l yX2_clear cX2_clear 1 1 0 0 D cy b n E [.ref (b + 13)] (fun u => u.1 = n ∧ (∀ j, j ≠ 13 → j ≠ 19 → j ≠ 21 → u.2 j = E j) ∧ u.2 13 = .inr (2, [.int 0, .int 0, .int 0, .int 0, .int 0, .ref (b + 14), .ref (b + 15), .ref (b + 16), .ref (b + 17), .ref (b + 18), .ref (b + 19), .ref (b + 20), .ref (b + 21), .ref (b + 22)]) ∧ (∃ f : Nat → Int32, u.2 19 = .inl (cy 1, 30, .inl f)) ∧ (∃ f : Nat → Int32, u.2 21 = .inl (cy 1, 30, .inl f))) := by
  refine gV_of (by decide) (Nat.le_of_ble_eq_true rfl) ?_
  intro p e s m args below meth c S hr hlk hin hsz ls hl hG
  have hx := S.1
  have hb := S.2.1
  have hl : lv_has ls 1 [(0, .ref (b + 13))] := hl
  refine lv_aload_n hx hb dX2_clear_0 rfl (lv_at hl 0 rfl) ?_
  refine lv_iconst (v := 0) hx hb dX2_clear_1 (by decide) ?_
  refine g_put (fs' := [.int 0, .int 0, .int 0, .int 0, .int 0, .ref (b + 14), .ref (b + 15), .ref (b + 16), .ref (b + 17), .ref (b + 18), .ref (b + 19), .ref (b + 20), .ref (b + 21), .ref (b + 22)]) S hG 13 0 h13 cpX2 wm_211 dX2_clear_2 rfl (by omega) (by decide) (Nat.le_of_ble_eq_true rfl) rfl rfl rfl (fun H locs hG => ?_)
  refine lv_aload_n hx hb dX2_clear_5 rfl (lv_at hl 0 rfl) ?_
  refine lv_iconst (v := 0) hx hb dX2_clear_6 (by decide) ?_
  refine g_put (fs' := [.int 0, .int 0, .int 0, .int 0, .int 0, .ref (b + 14), .ref (b + 15), .ref (b + 16), .ref (b + 17), .ref (b + 18), .ref (b + 19), .ref (b + 20), .ref (b + 21), .ref (b + 22)]) S hG 13 1 rfl cpX2 wm_217 dX2_clear_7 rfl (by omega) (by decide) (Nat.le_of_ble_eq_true rfl) rfl rfl rfl (fun H locs hG => ?_)
  refine lv_aload_n hx hb dX2_clear_10 rfl (lv_at hl 0 rfl) ?_
  refine lv_iconst (v := 0) hx hb dX2_clear_11 (by decide) ?_
  refine g_put (fs' := [.int 0, .int 0, .int 0, .int 0, .int 0, .ref (b + 14), .ref (b + 15), .ref (b + 16), .ref (b + 17), .ref (b + 18), .ref (b + 19), .ref (b + 20), .ref (b + 21), .ref (b + 22)]) S hG 13 2 rfl cpX2 wm_222 dX2_clear_12 rfl (by omega) (by decide) (Nat.le_of_ble_eq_true rfl) rfl rfl rfl (fun H locs hG => ?_)
  refine lv_aload_n hx hb dX2_clear_15 rfl (lv_at hl 0 rfl) ?_
  refine lv_iconst (v := 0) hx hb dX2_clear_16 (by decide) ?_
  refine g_put (fs' := [.int 0, .int 0, .int 0, .int 0, .int 0, .ref (b + 14), .ref (b + 15), .ref (b + 16), .ref (b + 17), .ref (b + 18), .ref (b + 19), .ref (b + 20), .ref (b + 21), .ref (b + 22)]) S hG 13 3 rfl cpX2 wm_225 dX2_clear_17 rfl (by omega) (by decide) (Nat.le_of_ble_eq_true rfl) rfl rfl rfl (fun H locs hG => ?_)
  refine lv_aload_n hx hb dX2_clear_20 rfl (lv_at hl 0 rfl) ?_
  refine lv_iconst (v := 0) hx hb dX2_clear_21 (by decide) ?_
  refine g_put (fs' := [.int 0, .int 0, .int 0, .int 0, .int 0, .ref (b + 14), .ref (b + 15), .ref (b + 16), .ref (b + 17), .ref (b + 18), .ref (b + 19), .ref (b + 20), .ref (b + 21), .ref (b + 22)]) S hG 13 4 rfl cpX2 wm_230 dX2_clear_22 rfl (by omega) (by decide) (Nat.le_of_ble_eq_true rfl) rfl rfl rfl (fun H locs hG => ?_)
  refine lv_aload_n hx hb dX2_clear_25 rfl (lv_at hl 0 rfl) ?_
  refine g_get S hG 13 10 rfl cpX2 wm_261 dX2_clear_26 rfl (by omega) (by decide) ?_
  refine lv_iconst (v := 0) hx hb dX2_clear_29 (by decide) ?_
  refine g_sv (As := [.ref (b + 19), .int 0]) (rest := []) S hG (by omega) (qJ7_fill_53178 l (j := 19) (N := 30) (by omega) (by decide) (by exact h19) 0) wS_2_55 dX2_clear_30 rfl hl.1 (ar := 2) (by decide +kernel) rfl ⟨Nat.le_of_ble_eq_true rfl, Nat.le_of_ble_eq_true rfl, Nat.le_of_ble_eq_true rfl, Nat.le_of_ble_eq_true rfl⟩ (Nat.le_of_ble_eq_true rfl) (fun u_E_1 H locs hp_2 hG => ?_)
  obtain ⟨n_E_1, E_1⟩ := u_E_1
  dsimp only at hp_2 hG
  obtain ⟨nhp_2, rfl⟩ := hp_2
  have hG := gW_eq2 hG nhp_2 rfl
  refine lv_aload_n hx hb dX2_clear_33 rfl (lv_at hl 0 rfl) ?_
  refine g_get S hG 13 12 rfl cpX2 wm_270 dX2_clear_34 rfl (by omega) (by decide) ?_
  refine lv_iconst (v := 0) hx hb dX2_clear_37 (by decide) ?_
  refine g_sv (As := [.ref (b + 21), .int 0]) (rest := []) S hG (by omega) (qJ7_fill_53178 l (j := 21) (N := 30) (by omega) (by decide) (by exact h21) 0) wS_2_55 dX2_clear_38 rfl hl.1 (ar := 2) (by decide +kernel) rfl ⟨Nat.le_of_ble_eq_true rfl, Nat.le_of_ble_eq_true rfl, Nat.le_of_ble_eq_true rfl, Nat.le_of_ble_eq_true rfl⟩ (Nat.le_of_ble_eq_true rfl) (fun u_E_3 H locs hp_4 hG => ?_)
  obtain ⟨n_E_3, E_3⟩ := u_E_3
  dsimp only at hp_4 hG
  obtain ⟨nhp_4, rfl⟩ := hp_4
  have hG := gW_eq2 hG nhp_4 rfl
  exact g_vret S hr hlk hG (by omega) dX2_clear_41 ⟨Nat.le_of_ble_eq_true rfl, Nat.le_of_ble_eq_true rfl⟩ ⟨rfl, fun j hj13 hj19 hj21 => (upE_n (by omega)).trans ((upE_n (by omega)).trans ((upE_n (by omega)).trans ((upE_n (by omega)).trans ((upE_n (by omega)).trans ((upE_n (by omega)).trans ((upE_n (by omega)).trans (rfl))))))), rfl, ⟨_, rfl⟩, ⟨_, rfl⟩⟩
set_option maxHeartbeats 4000000 in
set_option maxRecDepth 100000 in
theorem qX5_advance (l : Launch) {D : va_G} {cy : Nat → ClassId} {b n : Nat} (hn : 105 ≤ n) {E : Nat → va_E}  (h12 : E 12 = .inr (5, [.ref (b + 13), .int 0, .int (-1), .ref (b + 26), .ref (b + 1), .int 0, .int 0, .int 3, .int 0, .int 0, .int 0, .ref (b + 24), .ref (b + 25)]))   : gV l yX5_advance cX5_advance 2 0 0 0 D cy b n E [.ref (b + 12)] (fun u => u.1 = n ∧ (∀ j, j ≠ 12 → u.2 j = E j) ∧ u.2 12 = .inr (5, [.ref (b + 13), .int 0, .int (-1), .ref (b + 26), .ref (b + 1), .int 0, .int 0, .int 3, .int 0, .int 0, .int 0, .ref (b + 24), .ref (b + 25)])) := by
  refine gV_of (by decide) (Nat.le_of_ble_eq_true rfl) ?_
  intro p e s m args below meth c S hr hlk hin hsz ls hl hG
  have hx := S.1
  have hb := S.2.1
  have hl : lv_has ls 2 [(0, .ref (b + 12))] := hl
  refine lv_aload_n hx hb dX5_advance_0 rfl (lv_at hl 0 rfl) ?_
  refine g_get S hG 12 6 h12 cpX5 wm_360 dX5_advance_1 rfl (by omega) (by decide) ?_
  refine lv_aload_n hx hb dX5_advance_4 rfl (lv_at hl 0 rfl) ?_
  refine g_get S hG 12 5 h12 cpX5 wm_359 dX5_advance_5 rfl (by omega) (by decide) ?_
  refine lv_icmp_ge (tgt := 52) hx hb dX5_advance_8 (by decide) (fun c_1 => ?_) (fun c_1 => absurd c_1 (by decide))
  refine lv_aload_n hx hb dX5_advance_52 rfl (lv_at hl 0 rfl) ?_
  refine lv_aload_n hx hb dX5_advance_53 rfl (lv_at hl 0 rfl) ?_
  refine g_get S hG 12 6 h12 cpX5 wm_360 dX5_advance_54 rfl (by omega) (by decide) ?_
  refine g_put (fs' := [.ref (b + 13), .int 0, .int (-1), .ref (b + 26), .ref (b + 1), .int 0, .int 0, .int 3, .int 0, .int 0, .int 0, .ref (b + 24), .ref (b + 25)]) S hG 12 8 h12 cpX5 wm_362 dX5_advance_57 rfl (by omega) (by decide) (Nat.le_of_ble_eq_true rfl) rfl rfl rfl (fun H locs hG => ?_)
  refine lv_aload_n hx hb dX5_advance_60 rfl (lv_at hl 0 rfl) ?_
  refine g_get S hG 12 6 rfl cpX5 wm_360 dX5_advance_61 rfl (by omega) (by decide) ?_
  refine lv_aload_n hx hb dX5_advance_64 rfl (lv_at hl 0 rfl) ?_
  refine g_get S hG 12 5 rfl cpX5 wm_359 dX5_advance_65 rfl (by omega) (by decide) ?_
  refine lv_icmp_lt (tgt := 77) hx hb dX5_advance_68 (by decide) (fun c_2 => absurd c_2 (by decide)) (fun c_2 => ?_)
  refine lv_aload_n hx hb dX5_advance_71 rfl (lv_at hl 0 rfl) ?_
  refine lv_iconst (v := 3) hx hb dX5_advance_72 (by decide) ?_
  refine g_put (fs' := [.ref (b + 13), .int 0, .int (-1), .ref (b + 26), .ref (b + 1), .int 0, .int 0, .int 3, .int 0, .int 0, .int 0, .ref (b + 24), .ref (b + 25)]) S hG 12 7 rfl cpX5 wm_361 dX5_advance_73 rfl (by omega) (by decide) (Nat.le_of_ble_eq_true rfl) rfl rfl rfl (fun H locs hG => ?_)
  exact g_vret S hr hlk hG (by omega) dX5_advance_76 ⟨Nat.le_of_ble_eq_true rfl, Nat.le_of_ble_eq_true rfl⟩ ⟨rfl, fun j hj12 => (upE_n (by omega)).trans ((upE_n (by omega)).trans (rfl)), rfl⟩
theorem wV_5_60 : gWV "GrownKinds$Reader" 60 yX2_clear cX2_clear 1 none := ⟨wm_744, wm_745, wm_746, wm_177, wm_747, by decide +kernel, by decide +kernel⟩
theorem wV_5_65 : gWV "GrownKinds$Reader" 65 yX5_advance cX5_advance 2 none := ⟨wm_751, wm_753, wm_1, wm_178, wm_754, by decide +kernel, by decide +kernel⟩
set_option maxHeartbeats 4000000 in
set_option maxRecDepth 100000 in
theorem qX5_read (l : Launch) {D : va_G} {cy : Nat → ClassId} {b n : Nat} (hn : 105 ≤ n) {E : Nat → va_E}  (h12 : E 12 = Z12 b cy) (h13 : E 13 = Z13 b cy) (h19 : E 19 = Z19 b cy) (h21 : E 21 = Z21 b cy)   : gI l yX5_read cX5_read 4 (some .int) 2 0 0 D cy b n E [.ref (b + 12), .ref (b + 1), .int 0] (fun r u => r = 0 ∧ u.1 = n ∧ (∀ j, j ≠ 12 → j ≠ 13 → j ≠ 19 → j ≠ 21 → u.2 j = E j) ∧ u.2 12 = .inr (5, [.ref (b + 13), .int 0, .int (-1), .ref (b + 26), .ref (b + 1), .int 0, .int 0, .int 3, .int 0, .int 0, .int 0, .ref (b + 24), .ref (b + 25)]) ∧ u.2 13 = .inr (2, [.int 0, .int 0, .int 0, .int 0, .int 0, .ref (b + 14), .ref (b + 15), .ref (b + 16), .ref (b + 17), .ref (b + 18), .ref (b + 19), .ref (b + 20), .ref (b + 21), .ref (b + 22)]) ∧ (∃ f : Nat → Int32, u.2 19 = .inl (cy 1, 30, .inl f)) ∧ (∃ f : Nat → Int32, u.2 21 = .inl (cy 1, 30, .inl f))) := by
  refine gI_of (by decide) (Nat.le_of_ble_eq_true rfl) ?_
  intro p e s m args below meth c S hr hlk hin hsz ls hl hG
  have hx := S.1
  have hb := S.2.1
  have hl : lv_has ls 4 [(0, .ref (b + 12)), (1, .ref (b + 1)), (2, .int 0)] := hl
  refine lv_aload_n hx hb dX5_read_0 rfl (lv_at hl 0 rfl) ?_
  refine lv_aload_n hx hb dX5_read_1 rfl (lv_at hl 1 rfl) ?_
  refine g_put (fs' := [.ref (b + 13), .int 0, .int (-1), .ref (b + 26), .ref (b + 1), .int 0, .int 0, .int 3, .int 0, .int 0, .int 0, .ref (b + 24), .ref (b + 25)]) S hG 12 4 h12 cpX5 wm_358 dX5_read_2 rfl (by omega) (by decide) (Nat.le_of_ble_eq_true rfl) rfl rfl rfl (fun H locs hG => ?_)
  refine lv_aload_n hx hb dX5_read_5 rfl (lv_at hl 0 rfl) ?_
  refine lv_iload_n hx hb dX5_read_6 rfl (lv_at hl 2 rfl) ?_
  refine g_put (fs' := [.ref (b + 13), .int 0, .int (-1), .ref (b + 26), .ref (b + 1), .int 0, .int 0, .int 3, .int 0, .int 0, .int 0, .ref (b + 24), .ref (b + 25)]) S hG 12 5 rfl cpX5 wm_359 dX5_read_7 rfl (by omega) (by decide) (Nat.le_of_ble_eq_true rfl) rfl rfl rfl (fun H locs hG => ?_)
  refine lv_aload_n hx hb dX5_read_10 rfl (lv_at hl 0 rfl) ?_
  refine lv_iconst (v := 0) hx hb dX5_read_11 (by decide) ?_
  refine g_put (fs' := [.ref (b + 13), .int 0, .int (-1), .ref (b + 26), .ref (b + 1), .int 0, .int 0, .int 3, .int 0, .int 0, .int 0, .ref (b + 24), .ref (b + 25)]) S hG 12 6 rfl cpX5 wm_360 dX5_read_12 rfl (by omega) (by decide) (Nat.le_of_ble_eq_true rfl) rfl rfl rfl (fun H locs hG => ?_)
  refine lv_aload_n hx hb dX5_read_15 rfl (lv_at hl 0 rfl) ?_
  refine lv_iconst (v := 0) hx hb dX5_read_16 (by decide) ?_
  refine g_put (fs' := [.ref (b + 13), .int 0, .int (-1), .ref (b + 26), .ref (b + 1), .int 0, .int 0, .int 3, .int 0, .int 0, .int 0, .ref (b + 24), .ref (b + 25)]) S hG 12 1 rfl cpX5 wm_353 dX5_read_17 rfl (by omega) (by decide) (Nat.le_of_ble_eq_true rfl) rfl rfl rfl (fun H locs hG => ?_)
  refine lv_aload_n hx hb dX5_read_20 rfl (lv_at hl 0 rfl) ?_
  refine lv_iconst (v := (-1)) hx hb dX5_read_21 (by decide) ?_
  refine g_put (fs' := [.ref (b + 13), .int 0, .int (-1), .ref (b + 26), .ref (b + 1), .int 0, .int 0, .int 3, .int 0, .int 0, .int 0, .ref (b + 24), .ref (b + 25)]) S hG 12 2 rfl cpX5 wm_355 dX5_read_22 rfl (by omega) (by decide) (Nat.le_of_ble_eq_true rfl) rfl rfl rfl (fun H locs hG => ?_)
  refine lv_aload_n hx hb dX5_read_25 rfl (lv_at hl 0 rfl) ?_
  refine g_get S hG 12 0 rfl cpX5 wm_351 dX5_read_26 rfl (by omega) (by decide) ?_
  refine g_vv (As := []) (rest := []) S hG (by omega) (qX2_clear_13 l hn (by exact h13) (by exact h19) (by exact h21) ) wV_5_60 h13 cpX2 (by omega) dX5_read_29 rfl hl.1 (ar := 0) (by decide +kernel) rfl ⟨Nat.le_of_ble_eq_true rfl, Nat.le_of_ble_eq_true rfl, Nat.le_of_ble_eq_true rfl, Nat.le_of_ble_eq_true rfl⟩ (Nat.le_of_ble_eq_true rfl) (fun u_E_1 H locs hp_2 hG => ?_)
  obtain ⟨n_E_1, E_1⟩ := u_E_1
  dsimp only at hp_2 hG
  obtain ⟨en_4, hlo_3, g_5, ⟨F_7, g_6⟩, ⟨F_9, g_8⟩⟩ := hp_2
  have hG := gW_eq2 hG en_4 rfl
  refine lv_aload_n hx hb dX5_read_32 rfl (lv_at hl 0 rfl) ?_
  refine g_vv (As := []) (rest := []) S hG (by omega) (qX5_advance l hn (by exact ((hlo_3 12 (by decide) (by decide) (by decide) ).trans rfl)) ) wV_5_65 ((hlo_3 12 (by decide) (by decide) (by decide) ).trans rfl) cpX5 (by omega) dX5_read_33 rfl hl.1 (ar := 0) (by decide +kernel) rfl ⟨Nat.le_of_ble_eq_true rfl, Nat.le_of_ble_eq_true rfl, Nat.le_of_ble_eq_true rfl, Nat.le_of_ble_eq_true rfl⟩ (Nat.le_of_ble_eq_true rfl) (fun u_E_10 H locs hp_11 hG => ?_)
  obtain ⟨n_E_10, E_10⟩ := u_E_10
  dsimp only at hp_11 hG
  obtain ⟨en_13, hlo_12, g_14⟩ := hp_11
  have hG := gW_eq2 hG en_13 rfl
  refine lv_aload_n hx hb dX5_read_36 rfl (lv_at hl 0 rfl) ?_
  refine g_get S hG 12 7 g_14 cpX5 wm_361 dX5_read_37 rfl (by omega) (by decide) ?_
  refine lv_iconst (v := 3) hx hb dX5_read_40 (by decide) ?_
  refine lv_icmp_ne (tgt := 46) hx hb dX5_read_41 (by decide) (fun c_15 => absurd c_15 (by decide)) (fun c_15 => ?_)
  refine lv_iconst (v := 0) hx hb dX5_read_44 (by decide) ?_
  exact g_iret S hr hlk hG (by omega) dX5_read_45 ⟨Nat.le_of_ble_eq_true rfl, Nat.le_of_ble_eq_true rfl⟩ ⟨rfl, rfl, fun j hj12 hj13 hj19 hj21 => (hlo_12 j (by omega) ).trans ((hlo_3 j (by omega) (by omega) (by omega) ).trans ((upE_n (by omega)).trans ((upE_n (by omega)).trans ((upE_n (by omega)).trans ((upE_n (by omega)).trans ((upE_n (by omega)).trans (rfl))))))), g_14, ((hlo_12 13 (by decide) ).trans g_5), ⟨_, ((hlo_12 19 (by decide) ).trans g_6)⟩, ⟨_, ((hlo_12 21 (by decide) ).trans g_8)⟩⟩
