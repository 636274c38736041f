theorem dX5_read_0 : decode cX5_read 0 = .ok (.aload_n 0, 1) := by decide +kernel
theorem dX5_read_1 : decode cX5_read 1 = .ok (.aload_n 1, 1) := by decide +kernel
theorem dX5_read_2 : decode cX5_read 2 = .ok (.putfield 18, 3) := by decide +kernel
theorem dX5_read_5 : decode cX5_read 5 = .ok (.aload_n 0, 1) := by decide +kernel
theorem dX5_read_6 : decode cX5_read 6 = .ok (.iload_n 2, 1) := by decide +kernel
theorem dX5_read_7 : decode cX5_read 7 = .ok (.putfield 22, 3) := by decide +kernel
theorem dX5_read_10 : decode cX5_read 10 = .ok (.aload_n 0, 1) := by decide +kernel
theorem dX5_read_11 : decode cX5_read 11 = .ok (.iconst 0, 1) := by decide +kernel
theorem dX5_read_12 : decode cX5_read 12 = .ok (.putfield 25, 3) := by decide +kernel
theorem dX5_read_15 : decode cX5_read 15 = .ok (.aload_n 0, 1) := by decide +kernel
theorem dX5_read_16 : decode cX5_read 16 = .ok (.iconst 0, 1) := by decide +kernel
theorem dX5_read_17 : decode cX5_read 17 = .ok (.putfield 9, 3) := by decide +kernel
theorem dX5_read_20 : decode cX5_read 20 = .ok (.aload_n 0, 1) := by decide +kernel
theorem dX5_read_21 : decode cX5_read 21 = .ok (.iconst (-1), 1) := by decide +kernel
theorem dX5_read_22 : decode cX5_read 22 = .ok (.putfield 15, 3) := by decide +kernel
theorem dX5_read_25 : decode cX5_read 25 = .ok (.aload_n 0, 1) := by decide +kernel
theorem dX5_read_26 : decode cX5_read 26 = .ok (.getfield 47, 3) := by decide +kernel
theorem dX5_read_29 : decode cX5_read 29 = .ok (.invokevirtual 60, 3) := by decide +kernel
theorem wm_743 : (Jvm.Cond.methodLink "GrownKinds$Reader" (60 : Nat) ({ cls := "GrownKinds$Grammar", name := "clear", desc := "()V" } : Jvm.MethodName)) ∈ gT := gT_in (List.mem_of_getElem? (i := 743) (by decide +kernel)) (by decide +kernel)
theorem wm_744 : (Jvm.Cond.instanceMethod ({ cls := "GrownKinds$Grammar", name := "clear", desc := "()V" } : Jvm.MethodName)) ∈ gT := gT_in (List.mem_of_getElem? (i := 744) (by decide +kernel)) (by decide +kernel)
theorem wm_745 : (Jvm.Cond.selects "GrownKinds$Grammar" ({ cls := "GrownKinds$Grammar", name := "clear", desc := "()V" } : Jvm.MethodName) ({ cls := "GrownKinds$Grammar", name := "clear", desc := "()V" } : Jvm.MethodName)) ∈ gT := gT_in (List.mem_of_getElem? (i := 745) (by decide +kernel)) (by decide +kernel)
theorem wm_746 : (Jvm.Cond.code ({ cls := "GrownKinds$Grammar", name := "clear", desc := "()V" } : Jvm.MethodName) prog_4_method_2_code (1 : Nat) (Option.none : Option Jvm.ClassFile.FieldType)) ∈ gT := gT_in (List.mem_of_getElem? (i := 746) (by decide +kernel)) (by decide +kernel)
theorem dX2_clear_0 : decode cX2_clear 0 = .ok (.aload_n 0, 1) := by decide +kernel
theorem dX2_clear_1 : decode cX2_clear 1 = .ok (.iconst 0, 1) := by decide +kernel
theorem dX2_clear_2 : decode cX2_clear 2 = .ok (.putfield 9, 3) := by decide +kernel
theorem dX2_clear_5 : decode cX2_clear 5 = .ok (.aload_n 0, 1) := by decide +kernel
theorem dX2_clear_6 : decode cX2_clear 6 = .ok (.iconst 0, 1) := by decide +kernel
theorem dX2_clear_7 : decode cX2_clear 7 = .ok (.putfield 15, 3) := by decide +kernel
theorem dX2_clear_10 : decode cX2_clear 10 = .ok (.aload_n 0, 1) := by decide +kernel
theorem dX2_clear_11 : decode cX2_clear 11 = .ok (.iconst 0, 1) := by decide +kernel
theorem dX2_clear_12 : decode cX2_clear 12 = .ok (.putfield 18, 3) := by decide +kernel
theorem dX2_clear_15 : decode cX2_clear 15 = .ok (.aload_n 0, 1) := by decide +kernel
theorem dX2_clear_16 : decode cX2_clear 16 = .ok (.iconst 0, 1) := by decide +kernel
theorem dX2_clear_17 : decode cX2_clear 17 = .ok (.putfield 21, 3) := by decide +kernel
theorem dX2_clear_20 : decode cX2_clear 20 = .ok (.aload_n 0, 1) := by decide +kernel
theorem dX2_clear_21 : decode cX2_clear 21 = .ok (.iconst 0, 1) := by decide +kernel
theorem dX2_clear_22 : decode cX2_clear 22 = .ok (.putfield 24, 3) := by decide +kernel
theorem dX2_clear_25 : decode cX2_clear 25 = .ok (.aload_n 0, 1) := by decide +kernel
theorem dX2_clear_26 : decode cX2_clear 26 = .ok (.getfield 43, 3) := by decide +kernel
theorem dX2_clear_29 : decode cX2_clear 29 = .ok (.iconst 0, 1) := by decide +kernel
theorem dX2_clear_30 : decode cX2_clear 30 = .ok (.invokestatic 55, 3) := by decide +kernel
theorem wm_747 : (Jvm.Cond.methodLink "GrownKinds$Grammar" (55 : Nat) ({ cls := "java/util/Arrays", name := "fill", desc := "([II)V" } : Jvm.MethodName)) ∈ gT := gT_in (List.mem_of_getElem? (i := 747) (by decide +kernel)) (by decide +kernel)
theorem wm_748 : (Jvm.Cond.static ({ cls := "java/util/Arrays", name := "fill", desc := "([II)V" } : Jvm.MethodName)) ∈ gT := gT_in (List.mem_of_getElem? (i := 748) (by decide +kernel)) (by decide +kernel)
theorem wm_189 : (Jvm.Cond.initialized "java/util/Arrays") ∈ gT := gT_in (List.mem_of_getElem? (i := 189) (by decide +kernel)) (by decide +kernel)
theorem wm_749 : (Jvm.Cond.code ({ cls := "java/util/Arrays", name := "fill", desc := "([II)V" } : Jvm.MethodName) prog_22_method_103_code (4 : Nat) (Option.none : Option Jvm.ClassFile.FieldType)) ∈ gT := gT_in (List.mem_of_getElem? (i := 749) (by decide +kernel)) (by decide +kernel)
theorem dJ7_fill_53178_0 : decode cJ7_fill_53178 0 = .ok (.iconst 0, 1) := by decide +kernel
theorem dJ7_fill_53178_1 : decode cJ7_fill_53178 1 = .ok (.istore_n 2, 1) := by decide +kernel
theorem dJ7_fill_53178_2 : decode cJ7_fill_53178 2 = .ok (.aload_n 0, 1) := by decide +kernel
theorem dJ7_fill_53178_3 : decode cJ7_fill_53178 3 = .ok (.arraylength, 1) := by decide +kernel
theorem dJ7_fill_53178_4 : decode cJ7_fill_53178 4 = .ok (.istore_n 3, 1) := by decide +kernel
theorem dJ7_fill_53178_5 : decode cJ7_fill_53178 5 = .ok (.iload_n 2, 1) := by decide +kernel
theorem dJ7_fill_53178_6 : decode cJ7_fill_53178 6 = .ok (.iload_n 3, 1) := by decide +kernel
theorem dJ7_fill_53178_7 : decode cJ7_fill_53178 7 = .ok (.if_icmp .ge 13, 3) := by decide +kernel
theorem dJ7_fill_53178_10 : decode cJ7_fill_53178 10 = .ok (.aload_n 0, 1) := by decide +kernel
theorem dJ7_fill_53178_11 : decode cJ7_fill_53178 11 = .ok (.iload_n 2, 1) := by decide +kernel
theorem dJ7_fill_53178_12 : decode cJ7_fill_53178 12 = .ok (.iload_n 1, 1) := by decide +kernel
theorem dJ7_fill_53178_13 : decode cJ7_fill_53178 13 = .ok (.iastore, 1) := by decide +kernel
theorem dJ7_fill_53178_14 : decode cJ7_fill_53178 14 = .ok (.iinc 2 1, 3) := by decide +kernel
theorem dJ7_fill_53178_17 : decode cJ7_fill_53178 17 = .ok (.goto (-12), 3) := by decide +kernel
theorem dJ7_fill_53178_20 : decode cJ7_fill_53178 20 = .ok (.return_, 1) := by decide +kernel
theorem dX2_clear_33 : decode cX2_clear 33 = .ok (.aload_n 0, 1) := by decide +kernel
theorem dX2_clear_34 : decode cX2_clear 34 = .ok (.getfield 49, 3) := by decide +kernel
theorem dX2_clear_37 : decode cX2_clear 37 = .ok (.iconst 0, 1) := by decide +kernel
theorem dX2_clear_38 : decode cX2_clear 38 = .ok (.invokestatic 55, 3) := by decide +kernel
theorem dX2_clear_41 : decode cX2_clear 41 = .ok (.return_, 1) := by decide +kernel
theorem dX5_read_32 : decode cX5_read 32 = .ok (.aload_n 0, 1) := by decide +kernel
theorem dX5_read_33 : decode cX5_read 33 = .ok (.invokevirtual 65, 3) := by decide +kernel
theorem wm_750 : (Jvm.Cond.methodLink "GrownKinds$Reader" (65 : Nat) ({ cls := "GrownKinds$Reader", name := "advance", desc := "()V" } : Jvm.MethodName)) ∈ gT := gT_in (List.mem_of_getElem? (i := 750) (by decide +kernel)) (by decide +kernel)
theorem wm_752 : (Jvm.Cond.instanceMethod ({ cls := "GrownKinds$Reader", name := "advance", desc := "()V" } : Jvm.MethodName)) ∈ gT := gT_in (List.mem_of_getElem? (i := 752) (by decide +kernel)) (by decide +kernel)
theorem wm_1 : Cond.selects "GrownKinds$Reader" ⟨"GrownKinds$Reader", "advance", "()V"⟩ ⟨"GrownKinds$Reader", "advance", "()V"⟩ ∈ gT := gT_in (List.mem_of_getElem? (i := 1) (by decide +kernel)) (by decide +kernel)
theorem wm_753 : (Jvm.Cond.code ({ cls := "GrownKinds$Reader", name := "advance", desc := "()V" } : Jvm.MethodName) prog_7_method_7_code (2 : Nat) (Option.none : Option Jvm.ClassFile.FieldType)) ∈ gT := gT_in (List.mem_of_getElem? (i := 753) (by decide +kernel)) (by decide +kernel)
theorem dX5_advance_0 : decode cX5_advance 0 = .ok (.aload_n 0, 1) := by decide +kernel
theorem dX5_advance_1 : decode cX5_advance 1 = .ok (.getfield 25, 3) := by decide +kernel
theorem dX5_advance_4 : decode cX5_advance 4 = .ok (.aload_n 0, 1) := by decide +kernel
theorem dX5_advance_5 : decode cX5_advance 5 = .ok (.getfield 22, 3) := by decide +kernel
theorem dX5_advance_8 : decode cX5_advance 8 = .ok (.if_icmp .ge 44, 3) := by decide +kernel
theorem dX5_advance_11 : decode cX5_advance 11 = .ok (.aload_n 0, 1) := by decide +kernel
theorem dX5_advance_12 : decode cX5_advance 12 = .ok (.getfield 18, 3) := by decide +kernel
theorem dX5_advance_15 : decode cX5_advance 15 = .ok (.aload_n 0, 1) := by decide +kernel
theorem dX5_advance_16 : decode cX5_advance 16 = .ok (.getfield 25, 3) := by decide +kernel
theorem dX5_advance_19 : decode cX5_advance 19 = .ok (.baload, 1) := by decide +kernel
theorem dX5_advance_20 : decode cX5_advance 20 = .ok (.bipush 32, 2) := by decide +kernel
theorem dX5_advance_22 : decode cX5_advance 22 = .ok (.if_icmp .eq 17, 3) := by decide +kernel
theorem dX5_advance_25 : decode cX5_advance 25 = .ok (.aload_n 0, 1) := by decide +kernel
theorem dX5_advance_26 : decode cX5_advance 26 = .ok (.getfield 18, 3) := by decide +kernel
theorem dX5_advance_29 : decode cX5_advance 29 = .ok (.aload_n 0, 1) := by decide +kernel
theorem dX5_advance_30 : decode cX5_advance 30 = .ok (.getfield 25, 3) := by decide +kernel
theorem dX5_advance_33 : decode cX5_advance 33 = .ok (.baload, 1) := by decide +kernel
theorem dX5_advance_34 : decode cX5_advance 34 = .ok (.bipush 10, 2) := by decide +kernel
theorem dX5_advance_36 : decode cX5_advance 36 = .ok (.if_icmp .ne 16, 3) := by decide +kernel
theorem dX5_advance_39 : decode cX5_advance 39 = .ok (.aload_n 0, 1) := by decide +kernel
theorem dX5_advance_40 : decode cX5_advance 40 = .ok (.dup, 1) := by decide +kernel
theorem dX5_advance_41 : decode cX5_advance 41 = .ok (.getfield 25, 3) := by decide +kernel
theorem dX5_advance_44 : decode cX5_advance 44 = .ok (.iconst 1, 1) := by decide +kernel
theorem dX5_advance_45 : decode cX5_advance 45 = .ok (.iadd, 1) := by decide +kernel
theorem dX5_advance_46 : decode cX5_advance 46 = .ok (.putfield 25, 3) := by decide +kernel
theorem dX5_advance_49 : decode cX5_advance 49 = .ok (.goto (-49), 3) := by decide +kernel
theorem dX5_advance_52 : decode cX5_advance 52 = .ok (.aload_n 0, 1) := by decide +kernel
theorem dX5_advance_53 : decode cX5_advance 53 = .ok (.aload_n 0, 1) := by decide +kernel
theorem dX5_advance_54 : decode cX5_advance 54 = .ok (.getfield 25, 3) := by decide +kernel
theorem dX5_advance_57 : decode cX5_advance 57 = .ok (.putfield 31, 3) := by decide +kernel
theorem dX5_advance_60 : decode cX5_advance 60 = .ok (.aload_n 0, 1) := by decide +kernel
theorem dX5_advance_61 : decode cX5_advance 61 = .ok (.getfield 25, 3) := by decide +kernel
theorem dX5_advance_64 : decode cX5_advance 64 = .ok (.aload_n 0, 1) := by decide +kernel
theorem dX5_advance_65 : decode cX5_advance 65 = .ok (.getfield 22, 3) := by decide +kernel
theorem dX5_advance_68 : decode cX5_advance 68 = .ok (.if_icmp .lt 9, 3) := by decide +kernel
theorem dX5_advance_77 : decode cX5_advance 77 = .ok (.aload_n 0, 1) := by decide +kernel
theorem dX5_advance_78 : decode cX5_advance 78 = .ok (.getfield 18, 3) := by decide +kernel
theorem dX5_advance_81 : decode cX5_advance 81 = .ok (.aload_n 0, 1) := by decide +kernel
theorem dX5_advance_82 : decode cX5_advance 82 = .ok (.getfield 25, 3) := by decide +kernel
theorem dX5_advance_85 : decode cX5_advance 85 = .ok (.baload, 1) := by decide +kernel
theorem dX5_advance_86 : decode cX5_advance 86 = .ok (.istore_n 1, 1) := by decide +kernel
theorem dX5_advance_87 : decode cX5_advance 87 = .ok (.iload_n 1, 1) := by decide +kernel
theorem dX5_advance_88 : decode cX5_advance 88 = .ok (.invokestatic 100, 3) := by decide +kernel
theorem wm_754 : (Jvm.Cond.methodLink "GrownKinds$Reader" (100 : Nat) ({ cls := "GrownKinds$Reader", name := "isLetter", desc := "(I)Z" } : Jvm.MethodName)) ∈ gT := gT_in (List.mem_of_getElem? (i := 754) (by decide +kernel)) (by decide +kernel)
theorem wm_755 : (Jvm.Cond.static ({ cls := "GrownKinds$Reader", name := "isLetter", desc := "(I)Z" } : Jvm.MethodName)) ∈ gT := gT_in (List.mem_of_getElem? (i := 755) (by decide +kernel)) (by decide +kernel)
theorem wm_756 : (Jvm.Cond.code ({ cls := "GrownKinds$Reader", name := "isLetter", desc := "(I)Z" } : Jvm.MethodName) prog_7_method_5_code (1 : Nat) (Option.some Jvm.ClassFile.FieldType.boolean)) ∈ gT := gT_in (List.mem_of_getElem? (i := 756) (by decide +kernel)) (by decide +kernel)
theorem dX5_isLetter_0 : decode cX5_isLetter 0 = .ok (.iload_n 0, 1) := by decide +kernel
theorem dX5_isLetter_1 : decode cX5_isLetter 1 = .ok (.bipush 97, 2) := by decide +kernel
theorem dX5_isLetter_3 : decode cX5_isLetter 3 = .ok (.if_icmp .lt 13, 3) := by decide +kernel
theorem dX5_isLetter_16 : decode cX5_isLetter 16 = .ok (.iconst 0, 1) := by decide +kernel
theorem dX5_isLetter_17 : decode cX5_isLetter 17 = .ok (.ireturn, 1) := by decide +kernel
theorem dX5_isLetter_6 : decode cX5_isLetter 6 = .ok (.iload_n 0, 1) := by decide +kernel
theorem dX5_isLetter_7 : decode cX5_isLetter 7 = .ok (.bipush 122, 2) := by decide +kernel
theorem dX5_isLetter_9 : decode cX5_isLetter 9 = .ok (.if_icmp .gt 7, 3) := by decide +kernel
theorem dX5_isLetter_12 : decode cX5_isLetter 12 = .ok (.iconst 1, 1) := by decide +kernel
theorem dX5_isLetter_13 : decode cX5_isLetter 13 = .ok (.goto 4, 3) := by decide +kernel
theorem dX5_advance_91 : decode cX5_advance 91 = .ok (.ifCond .eq 47, 3) := by decide +kernel
theorem dX5_advance_138 : decode cX5_advance 138 = .ok (.iload_n 1, 1) := by decide +kernel
theorem dX5_advance_139 : decode cX5_advance 139 = .ok (.invokestatic 103, 3) := by decide +kernel
theorem wm_757 : (Jvm.Cond.methodLink "GrownKinds$Reader" (103 : Nat) ({ cls := "GrownKinds$Reader", name := "isDigit", desc := "(I)Z" } : Jvm.MethodName)) ∈ gT := gT_in (List.mem_of_getElem? (i := 757) (by decide +kernel)) (by decide +kernel)
theorem wm_758 : (Jvm.Cond.static ({ cls := "GrownKinds$Reader", name := "isDigit", desc := "(I)Z" } : Jvm.MethodName)) ∈ gT := gT_in (List.mem_of_getElem? (i := 758) (by decide +kernel)) (by decide +kernel)
theorem wm_759 : (Jvm.Cond.code ({ cls := "GrownKinds$Reader", name := "isDigit", desc := "(I)Z" } : Jvm.MethodName) prog_7_method_6_code (1 : Nat) (Option.some Jvm.ClassFile.FieldType.boolean)) ∈ gT := gT_in (List.mem_of_getElem? (i := 759) (by decide +kernel)) (by decide +kernel)
theorem dX5_isDigit_0 : decode cX5_isDigit 0 = .ok (.iload_n 0, 1) := by decide +kernel
theorem dX5_isDigit_1 : decode cX5_isDigit 1 = .ok (.bipush 48, 2) := by decide +kernel
theorem dX5_isDigit_3 : decode cX5_isDigit 3 = .ok (.if_icmp .lt 13, 3) := by decide +kernel
theorem dX5_isDigit_16 : decode cX5_isDigit 16 = .ok (.iconst 0, 1) := by decide +kernel
theorem dX5_isDigit_17 : decode cX5_isDigit 17 = .ok (.ireturn, 1) := by decide +kernel
theorem dX5_isDigit_6 : decode cX5_isDigit 6 = .ok (.iload_n 0, 1) := by decide +kernel
theorem dX5_isDigit_7 : decode cX5_isDigit 7 = .ok (.bipush 57, 2) := by decide +kernel
theorem dX5_isDigit_9 : decode cX5_isDigit 9 = .ok (.if_icmp .gt 7, 3) := by decide +kernel
theorem dX5_isDigit_12 : decode cX5_isDigit 12 = .ok (.iconst 1, 1) := by decide +kernel
theorem dX5_isDigit_13 : decode cX5_isDigit 13 = .ok (.goto 4, 3) := by decide +kernel
theorem dX5_advance_142 : decode cX5_advance 142 = .ok (.ifCond .eq 81, 3) := by decide +kernel
theorem dX5_advance_223 : decode cX5_advance 223 = .ok (.aload_n 0, 1) := by decide +kernel
theorem dX5_advance_224 : decode cX5_advance 224 = .ok (.iload_n 1, 1) := by decide +kernel
theorem dX5_advance_225 : decode cX5_advance 225 = .ok (.bipush 61, 2) := by decide +kernel
theorem dX5_advance_227 : decode cX5_advance 227 = .ok (.if_icmp .eq 21, 3) := by decide +kernel
theorem dX5_advance_248 : decode cX5_advance 248 = .ok (.iload_n 1, 1) := by decide +kernel
theorem dX5_advance_249 : decode cX5_advance 249 = .ok (.goto 4, 3) := by decide +kernel
theorem dX5_advance_230 : decode cX5_advance 230 = .ok (.iload_n 1, 1) := by decide +kernel
theorem dX5_advance_231 : decode cX5_advance 231 = .ok (.bipush 59, 2) := by decide +kernel
theorem dX5_advance_233 : decode cX5_advance 233 = .ok (.if_icmp .eq 15, 3) := by decide +kernel
theorem dX5_advance_236 : decode cX5_advance 236 = .ok (.iload_n 1, 1) := by decide +kernel
theorem dX5_advance_237 : decode cX5_advance 237 = .ok (.bipush 40, 2) := by decide +kernel
theorem dX5_advance_239 : decode cX5_advance 239 = .ok (.if_icmp .eq 9, 3) := by decide +kernel
theorem dX5_advance_242 : decode cX5_advance 242 = .ok (.iload_n 1, 1) := by decide +kernel
theorem dX5_advance_243 : decode cX5_advance 243 = .ok (.bipush 41, 2) := by decide +kernel
theorem dX5_advance_245 : decode cX5_advance 245 = .ok (.if_icmp .ne 7, 3) := by decide +kernel
theorem dX5_advance_252 : decode cX5_advance 252 = .ok (.iconst 4, 1) := by decide +kernel
theorem dX5_advance_253 : decode cX5_advance 253 = .ok (.putfield 28, 3) := by decide +kernel
theorem dX5_advance_256 : decode cX5_advance 256 = .ok (.aload_n 0, 1) := by decide +kernel
theorem dX5_advance_257 : decode cX5_advance 257 = .ok (.dup, 1) := by decide +kernel
theorem dX5_advance_258 : decode cX5_advance 258 = .ok (.getfield 25, 3) := by decide +kernel
theorem dX5_advance_261 : decode cX5_advance 261 = .ok (.iconst 1, 1) := by decide +kernel
theorem dX5_advance_262 : decode cX5_advance 262 = .ok (.iadd, 1) := by decide +kernel
theorem dX5_advance_263 : decode cX5_advance 263 = .ok (.putfield 25, 3) := by decide +kernel
theorem dX5_advance_266 : decode cX5_advance 266 = .ok (.return_, 1) := by decide +kernel
theorem dX5_advance_145 : decode cX5_advance 145 = .ok (.aload_n 0, 1) := by decide +kernel
theorem dX5_advance_146 : decode cX5_advance 146 = .ok (.iconst 2, 1) := by decide +kernel
theorem dX5_advance_147 : decode cX5_advance 147 = .ok (.putfield 28, 3) := by decide +kernel
theorem dX5_advance_150 : decode cX5_advance 150 = .ok (.aload_n 0, 1) := by decide +kernel
theorem dX5_advance_151 : decode cX5_advance 151 = .ok (.iconst 0, 1) := by decide +kernel
theorem dX5_advance_152 : decode cX5_advance 152 = .ok (.putfield 34, 3) := by decide +kernel
theorem dX5_advance_155 : decode cX5_advance 155 = .ok (.aload_n 0, 1) := by decide +kernel
theorem dX5_advance_156 : decode cX5_advance 156 = .ok (.getfield 25, 3) := by decide +kernel
theorem dX5_advance_159 : decode cX5_advance 159 = .ok (.aload_n 0, 1) := by decide +kernel
theorem dX5_advance_160 : decode cX5_advance 160 = .ok (.getfield 22, 3) := by decide +kernel
theorem dX5_advance_163 : decode cX5_advance 163 = .ok (.if_icmp .ge 103, 3) := by decide +kernel
theorem dX5_advance_166 : decode cX5_advance 166 = .ok (.aload_n 0, 1) := by decide +kernel
theorem dX5_advance_167 : decode cX5_advance 167 = .ok (.getfield 18, 3) := by decide +kernel
theorem dX5_advance_170 : decode cX5_advance 170 = .ok (.aload_n 0, 1) := by decide +kernel
theorem dX5_advance_171 : decode cX5_advance 171 = .ok (.getfield 25, 3) := by decide +kernel
theorem dX5_advance_174 : decode cX5_advance 174 = .ok (.baload, 1) := by decide +kernel
theorem dX5_advance_175 : decode cX5_advance 175 = .ok (.invokestatic 103, 3) := by decide +kernel
theorem dX5_advance_178 : decode cX5_advance 178 = .ok (.ifCond .eq 88, 3) := by decide +kernel
theorem dX5_advance_181 : decode cX5_advance 181 = .ok (.aload_n 0, 1) := by decide +kernel
theorem dX5_advance_182 : decode cX5_advance 182 = .ok (.bipush 8, 2) := by decide +kernel
theorem dX5_advance_184 : decode cX5_advance 184 = .ok (.aload_n 0, 1) := by decide +kernel
theorem dX5_advance_185 : decode cX5_advance 185 = .ok (.getfield 34, 3) := by decide +kernel
theorem dX5_advance_188 : decode cX5_advance 188 = .ok (.bipush 10, 2) := by decide +kernel
theorem dX5_advance_190 : decode cX5_advance 190 = .ok (.imul, 1) := by decide +kernel
theorem dX5_advance_191 : decode cX5_advance 191 = .ok (.aload_n 0, 1) := by decide +kernel
theorem dX5_advance_192 : decode cX5_advance 192 = .ok (.getfield 18, 3) := by decide +kernel
theorem dX5_advance_195 : decode cX5_advance 195 = .ok (.aload_n 0, 1) := by decide +kernel
theorem dX5_advance_196 : decode cX5_advance 196 = .ok (.getfield 25, 3) := by decide +kernel
theorem dX5_advance_199 : decode cX5_advance 199 = .ok (.baload, 1) := by decide +kernel
theorem dX5_advance_200 : decode cX5_advance 200 = .ok (.iadd, 1) := by decide +kernel
theorem dX5_advance_201 : decode cX5_advance 201 = .ok (.bipush 48, 2) := by decide +kernel
theorem dX5_advance_203 : decode cX5_advance 203 = .ok (.isub, 1) := by decide +kernel
theorem dX5_advance_204 : decode cX5_advance 204 = .ok (.invokestatic 106, 3) := by decide +kernel
theorem wm_760 : (Jvm.Cond.methodLink "GrownKinds$Reader" (106 : Nat) ({ cls := "java/lang/Math", name := "min", desc := "(II)I" } : Jvm.MethodName)) ∈ gT := gT_in (List.mem_of_getElem? (i := 760) (by decide +kernel)) (by decide +kernel)
theorem dX5_advance_207 : decode cX5_advance 207 = .ok (.putfield 34, 3) := by decide +kernel
theorem dX5_advance_210 : decode cX5_advance 210 = .ok (.aload_n 0, 1) := by decide +kernel
theorem dX5_advance_211 : decode cX5_advance 211 = .ok (.dup, 1) := by decide +kernel
theorem dX5_advance_212 : decode cX5_advance 212 = .ok (.getfield 25, 3) := by decide +kernel
theorem dX5_advance_215 : decode cX5_advance 215 = .ok (.iconst 1, 1) := by decide +kernel
theorem dX5_advance_216 : decode cX5_advance 216 = .ok (.iadd, 1) := by decide +kernel
theorem dX5_advance_217 : decode cX5_advance 217 = .ok (.putfield 25, 3) := by decide +kernel
theorem dX5_advance_220 : decode cX5_advance 220 = .ok (.goto (-65), 3) := by decide +kernel
theorem dX5_advance_94 : decode cX5_advance 94 = .ok (.aload_n 0, 1) := by decide +kernel
theorem dX5_advance_95 : decode cX5_advance 95 = .ok (.iconst 1, 1) := by decide +kernel
theorem dX5_advance_96 : decode cX5_advance 96 = .ok (.putfield 28, 3) := by decide +kernel
theorem dX5_advance_99 : decode cX5_advance 99 = .ok (.aload_n 0, 1) := by decide +kernel
theorem dX5_advance_100 : decode cX5_advance 100 = .ok (.getfield 25, 3) := by decide +kernel
theorem dX5_advance_103 : decode cX5_advance 103 = .ok (.aload_n 0, 1) := by decide +kernel
theorem dX5_advance_104 : decode cX5_advance 104 = .ok (.getfield 22, 3) := by decide +kernel
theorem dX5_advance_107 : decode cX5_advance 107 = .ok (.if_icmp .ge 159, 3) := by decide +kernel
theorem dX5_advance_110 : decode cX5_advance 110 = .ok (.aload_n 0, 1) := by decide +kernel
theorem dX5_advance_111 : decode cX5_advance 111 = .ok (.getfield 18, 3) := by decide +kernel
theorem dX5_advance_114 : decode cX5_advance 114 = .ok (.aload_n 0, 1) := by decide +kernel
theorem dX5_advance_115 : decode cX5_advance 115 = .ok (.getfield 25, 3) := by decide +kernel
theorem dX5_advance_118 : decode cX5_advance 118 = .ok (.baload, 1) := by decide +kernel
theorem dX5_advance_119 : decode cX5_advance 119 = .ok (.invokestatic 100, 3) := by decide +kernel
theorem dX5_advance_122 : decode cX5_advance 122 = .ok (.ifCond .eq 144, 3) := by decide +kernel
theorem dX5_advance_125 : decode cX5_advance 125 = .ok (.aload_n 0, 1) := by decide +kernel
theorem dX5_advance_126 : decode cX5_advance 126 = .ok (.dup, 1) := by decide +kernel
theorem dX5_advance_127 : decode cX5_advance 127 = .ok (.getfield 25, 3) := by decide +kernel
theorem dX5_advance_130 : decode cX5_advance 130 = .ok (.iconst 1, 1) := by decide +kernel
theorem dX5_advance_131 : decode cX5_advance 131 = .ok (.iadd, 1) := by decide +kernel
theorem dX5_advance_132 : decode cX5_advance 132 = .ok (.putfield 25, 3) := by decide +kernel
theorem dX5_advance_135 : decode cX5_advance 135 = .ok (.goto (-36), 3) := by decide +kernel
theorem dX5_advance_71 : decode cX5_advance 71 = .ok (.aload_n 0, 1) := by decide +kernel
theorem dX5_advance_72 : decode cX5_advance 72 = .ok (.iconst 3, 1) := by decide +kernel
theorem dX5_advance_73 : decode cX5_advance 73 = .ok (.putfield 28, 3) := by decide +kernel
theorem dX5_advance_76 : decode cX5_advance 76 = .ok (.return_, 1) := by decide +kernel
theorem dX5_read_36 : decode cX5_read 36 = .ok (.aload_n 0, 1) := by decide +kernel
theorem dX5_read_37 : decode cX5_read 37 = .ok (.getfield 28, 3) := by decide +kernel
theorem dX5_read_40 : decode cX5_read 40 = .ok (.iconst 3, 1) := by decide +kernel
theorem dX5_read_41 : decode cX5_read 41 = .ok (.if_icmp .ne 5, 3) := by decide +kernel
theorem dX5_read_46 : decode cX5_read 46 = .ok (.aload_n 0, 1) := by decide +kernel
theorem dX5_read_47 : decode cX5_read 47 = .ok (.invokevirtual 68, 3) := by decide +kernel
theorem wm_763 : (Jvm.Cond.methodLink "GrownKinds$Reader" (68 : Nat) ({ cls := "GrownKinds$Reader", name := "readHead", desc := "()V" } : Jvm.MethodName)) ∈ gT := gT_in (List.mem_of_getElem? (i := 763) (by decide +kernel)) (by decide +kernel)
theorem wm_765 : (Jvm.Cond.instanceMethod ({ cls := "GrownKinds$Reader", name := "readHead", desc := "()V" } : Jvm.MethodName)) ∈ gT := gT_in (List.mem_of_getElem? (i := 765) (by decide +kernel)) (by decide +kernel)
theorem wm_2 : Cond.selects "GrownKinds$Reader" ⟨"GrownKinds$Reader", "readHead", "()V"⟩ ⟨"GrownKinds$Reader", "readHead", "()V"⟩ ∈ gT := gT_in (List.mem_of_getElem? (i := 2) (by decide +kernel)) (by decide +kernel)
theorem wm_766 : (Jvm.Cond.code ({ cls := "GrownKinds$Reader", name := "readHead", desc := "()V" } : Jvm.MethodName) prog_7_method_14_code (2 : Nat) (Option.none : Option Jvm.ClassFile.FieldType)) ∈ gT := gT_in (List.mem_of_getElem? (i := 766) (by decide +kernel)) (by decide +kernel)
theorem dX5_readHead_0 : decode cX5_readHead 0 = .ok (.aload_n 0, 1) := by decide +kernel
theorem dX5_readHead_1 : decode cX5_readHead 1 = .ok (.ldc 137, 2) := by decide +kernel
theorem dX5_readHead_3 : decode cX5_readHead 3 = .ok (.invokevirtual 153, 3) := by decide +kernel
theorem wm_768 : (Jvm.Cond.methodLink "GrownKinds$Reader" (153 : Nat) ({ cls := "GrownKinds$Reader", name := "expectWord", desc := "(Ljava/lang/String;)V" } : Jvm.MethodName)) ∈ gT := gT_in (List.mem_of_getElem? (i := 768) (by decide +kernel)) (by decide +kernel)
theorem wm_770 : (Jvm.Cond.instanceMethod ({ cls := "GrownKinds$Reader", name := "expectWord", desc := "(Ljava/lang/String;)V" } : Jvm.MethodName)) ∈ gT := gT_in (List.mem_of_getElem? (i := 770) (by decide +kernel)) (by decide +kernel)
theorem wm_3 : Cond.selects "GrownKinds$Reader" ⟨"GrownKinds$Reader", "expectWord", "(Ljava/lang/String;)V"⟩ ⟨"GrownKinds$Reader", "expectWord", "(Ljava/lang/String;)V"⟩ ∈ gT := gT_in (List.mem_of_getElem? (i := 3) (by decide +kernel)) (by decide +kernel)
theorem wm_771 : (Jvm.Cond.code ({ cls := "GrownKinds$Reader", name := "expectWord", desc := "(Ljava/lang/String;)V" } : Jvm.MethodName) prog_7_method_12_code (2 : Nat) (Option.none : Option Jvm.ClassFile.FieldType)) ∈ gT := gT_in (List.mem_of_getElem? (i := 771) (by decide +kernel)) (by decide +kernel)
theorem dX5_expectWord_0 : decode cX5_expectWord 0 = .ok (.aload_n 0, 1) := by decide +kernel
theorem dX5_expectWord_1 : decode cX5_expectWord 1 = .ok (.getfield 9, 3) := by decide +kernel
theorem dX5_expectWord_4 : decode cX5_expectWord 4 = .ok (.ifCond .ne 18, 3) := by decide +kernel
theorem dX5_expectWord_22 : decode cX5_expectWord 22 = .ok (.aload_n 0, 1) := by decide +kernel
theorem dX5_expectWord_23 : decode cX5_expectWord 23 = .ok (.iconst 1, 1) := by decide +kernel
theorem dX5_expectWord_24 : decode cX5_expectWord 24 = .ok (.invokevirtual 149, 3) := by decide +kernel
theorem wm_824 : (Jvm.Cond.methodLink "GrownKinds$Reader" (149 : Nat) ({ cls := "GrownKinds$Reader", name := "refuse", desc := "(I)V" } : Jvm.MethodName)) ∈ gT := gT_in (List.mem_of_getElem? (i := 824) (by decide +kernel)) (by decide +kernel)
theorem wm_826 : (Jvm.Cond.instanceMethod ({ cls := "GrownKinds$Reader", name := "refuse", desc := "(I)V" } : Jvm.MethodName)) ∈ gT := gT_in (List.mem_of_getElem? (i := 826) (by decide +kernel)) (by decide +kernel)
theorem wm_5 : Cond.selects "GrownKinds$Reader" ⟨"GrownKinds$Reader", "refuse", "(I)V"⟩ ⟨"GrownKinds$Reader", "refuse", "(I)V"⟩ ∈ gT := gT_in (List.mem_of_getElem? (i := 5) (by decide +kernel)) (by decide +kernel)
theorem wm_827 : (Jvm.Cond.code ({ cls := "GrownKinds$Reader", name := "refuse", desc := "(I)V" } : Jvm.MethodName) prog_7_method_4_code (2 : Nat) (Option.none : Option Jvm.ClassFile.FieldType)) ∈ gT := gT_in (List.mem_of_getElem? (i := 827) (by decide +kernel)) (by decide +kernel)
theorem dX5_refuse_0 : decode cX5_refuse 0 = .ok (.aload_n 0, 1) := by decide +kernel
theorem dX5_refuse_1 : decode cX5_refuse 1 = .ok (.getfield 9, 3) := by decide +kernel
theorem dX5_refuse_4 : decode cX5_refuse 4 = .ok (.ifCond .ne 16, 3) := by decide +kernel
theorem dX5_refuse_20 : decode cX5_refuse 20 = .ok (.return_, 1) := by decide +kernel
theorem dX5_refuse_7 : decode cX5_refuse 7 = .ok (.aload_n 0, 1) := by decide +kernel
theorem dX5_refuse_8 : decode cX5_refuse 8 = .ok (.iload_n 1, 1) := by decide +kernel
theorem dX5_refuse_9 : decode cX5_refuse 9 = .ok (.putfield 9, 3) := by decide +kernel
theorem dX5_refuse_12 : decode cX5_refuse 12 = .ok (.aload_n 0, 1) := by decide +kernel
theorem dX5_refuse_13 : decode cX5_refuse 13 = .ok (.aload_n 0, 1) := by decide +kernel
theorem dX5_refuse_14 : decode cX5_refuse 14 = .ok (.getfield 31, 3) := by decide +kernel
theorem dX5_refuse_17 : decode cX5_refuse 17 = .ok (.putfield 15, 3) := by decide +kernel
theorem dX5_expectWord_27 : decode cX5_expectWord 27 = .ok (.return_, 1) := by decide +kernel
theorem dX5_expectWord_7 : decode cX5_expectWord 7 = .ok (.aload_n 0, 1) := by decide +kernel
theorem dX5_expectWord_8 : decode cX5_expectWord 8 = .ok (.aload_n 1, 1) := by decide +kernel
theorem dX5_expectWord_9 : decode cX5_expectWord 9 = .ok (.invokevirtual 123, 3) := by decide +kernel
theorem wm_772 : (Jvm.Cond.methodLink "GrownKinds$Reader" (123 : Nat) ({ cls := "GrownKinds$Reader", name := "isWord", desc := "(Ljava/lang/String;)Z" } : Jvm.MethodName)) ∈ gT := gT_in (List.mem_of_getElem? (i := 772) (by decide +kernel)) (by decide +kernel)
theorem wm_774 : (Jvm.Cond.instanceMethod ({ cls := "GrownKinds$Reader", name := "isWord", desc := "(Ljava/lang/String;)Z" } : Jvm.MethodName)) ∈ gT := gT_in (List.mem_of_getElem? (i := 774) (by decide +kernel)) (by decide +kernel)
theorem wm_4 : Cond.selects "GrownKinds$Reader" ⟨"GrownKinds$Reader", "isWord", "(Ljava/lang/String;)Z"⟩ ⟨"GrownKinds$Reader", "isWord", "(Ljava/lang/String;)Z"⟩ ∈ gT := gT_in (List.mem_of_getElem? (i := 4) (by decide +kernel)) (by decide +kernel)
theorem wm_775 : (Jvm.Cond.code ({ cls := "GrownKinds$Reader", name := "isWord", desc := "(Ljava/lang/String;)Z" } : Jvm.MethodName) prog_7_method_8_code (3 : Nat) (Option.some Jvm.ClassFile.FieldType.boolean)) ∈ gT := gT_in (List.mem_of_getElem? (i := 775) (by decide +kernel)) (by decide +kernel)
theorem dX5_isWord_0 : decode cX5_isWord 0 = .ok (.aload_n 0, 1) := by decide +kernel
theorem dX5_isWord_1 : decode cX5_isWord 1 = .ok (.getfield 28, 3) := by decide +kernel
theorem dX5_isWord_4 : decode cX5_isWord 4 = .ok (.iconst 1, 1) := by decide +kernel
theorem dX5_isWord_5 : decode cX5_isWord 5 = .ok (.if_icmp .ne 19, 3) := by decide +kernel
theorem dX5_isWord_24 : decode cX5_isWord 24 = .ok (.iconst 0, 1) := by decide +kernel
theorem dX5_isWord_25 : decode cX5_isWord 25 = .ok (.ireturn, 1) := by decide +kernel
theorem dX5_isWord_8 : decode cX5_isWord 8 = .ok (.aload_n 0, 1) := by decide +kernel
theorem dX5_isWord_9 : decode cX5_isWord 9 = .ok (.getfield 25, 3) := by decide +kernel
theorem dX5_isWord_12 : decode cX5_isWord 12 = .ok (.aload_n 0, 1) := by decide +kernel
theorem dX5_isWord_13 : decode cX5_isWord 13 = .ok (.getfield 31, 3) := by decide +kernel
theorem dX5_isWord_16 : decode cX5_isWord 16 = .ok (.isub, 1) := by decide +kernel
theorem dX5_isWord_17 : decode cX5_isWord 17 = .ok (.aload_n 1, 1) := by decide +kernel
theorem dX5_isWord_18 : decode cX5_isWord 18 = .ok (.invokevirtual 112, 3) := by decide +kernel
theorem wm_776 : (Jvm.Cond.methodLink "GrownKinds$Reader" (112 : Nat) ({ cls := "java/lang/String", name := "length", desc := "()I" } : Jvm.MethodName)) ∈ gT := gT_in (List.mem_of_getElem? (i := 776) (by decide +kernel)) (by decide +kernel)
theorem dX5_isWord_21 : decode cX5_isWord 21 = .ok (.if_icmp .eq 5, 3) := by decide +kernel
theorem dX5_isWord_26 : decode cX5_isWord 26 = .ok (.iconst 0, 1) := by decide +kernel
theorem dX5_isWord_27 : decode cX5_isWord 27 = .ok (.istore_n 2, 1) := by decide +kernel
theorem dX5_isWord_28 : decode cX5_isWord 28 = .ok (.iload_n 2, 1) := by decide +kernel
theorem dX5_isWord_29 : decode cX5_isWord 29 = .ok (.aload_n 1, 1) := by decide +kernel
theorem dX5_isWord_30 : decode cX5_isWord 30 = .ok (.invokevirtual 112, 3) := by decide +kernel
theorem dX5_isWord_33 : decode cX5_isWord 33 = .ok (.if_icmp .ge 30, 3) := by decide +kernel
theorem dX5_isWord_36 : decode cX5_isWord 36 = .ok (.aload_n 0, 1) := by decide +kernel
theorem dX5_isWord_37 : decode cX5_isWord 37 = .ok (.getfield 18, 3) := by decide +kernel
theorem dX5_isWord_40 : decode cX5_isWord 40 = .ok (.aload_n 0, 1) := by decide +kernel
theorem dX5_isWord_41 : decode cX5_isWord 41 = .ok (.getfield 31, 3) := by decide +kernel
theorem dX5_isWord_44 : decode cX5_isWord 44 = .ok (.iload_n 2, 1) := by decide +kernel
theorem dX5_isWord_45 : decode cX5_isWord 45 = .ok (.iadd, 1) := by decide +kernel
theorem dX5_isWord_46 : decode cX5_isWord 46 = .ok (.baload, 1) := by decide +kernel
theorem dX5_isWord_47 : decode cX5_isWord 47 = .ok (.aload_n 1, 1) := by decide +kernel
theorem dX5_isWord_48 : decode cX5_isWord 48 = .ok (.iload_n 2, 1) := by decide +kernel
theorem dX5_isWord_49 : decode cX5_isWord 49 = .ok (.invokevirtual 117, 3) := by decide +kernel
theorem wm_786 : (Jvm.Cond.methodLink "GrownKinds$Reader" (117 : Nat) ({ cls := "java/lang/String", name := "charAt", desc := "(I)C" } : Jvm.MethodName)) ∈ gT := gT_in (List.mem_of_getElem? (i := 786) (by decide +kernel)) (by decide +kernel)
theorem dX5_isWord_52 : decode cX5_isWord 52 = .ok (.if_icmp .eq 5, 3) := by decide +kernel
theorem dX5_isWord_57 : decode cX5_isWord 57 = .ok (.iinc 2 1, 3) := by decide +kernel
theorem dX5_isWord_60 : decode cX5_isWord 60 = .ok (.goto (-32), 3) := by decide +kernel
theorem dX5_isWord_55 : decode cX5_isWord 55 = .ok (.iconst 0, 1) := by decide +kernel
theorem dX5_isWord_56 : decode cX5_isWord 56 = .ok (.ireturn, 1) := by decide +kernel
theorem dX5_isWord_63 : decode cX5_isWord 63 = .ok (.iconst 1, 1) := by decide +kernel
theorem dX5_isWord_64 : decode cX5_isWord 64 = .ok (.ireturn, 1) := by decide +kernel
theorem dX5_expectWord_12 : decode cX5_expectWord 12 = .ok (.ifCond .eq 10, 3) := by decide +kernel
theorem dX5_expectWord_15 : decode cX5_expectWord 15 = .ok (.aload_n 0, 1) := by decide +kernel
theorem dX5_expectWord_16 : decode cX5_expectWord 16 = .ok (.invokevirtual 65, 3) := by decide +kernel
theorem dX5_expectWord_19 : decode cX5_expectWord 19 = .ok (.goto 8, 3) := by decide +kernel
theorem dX5_readHead_6 : decode cX5_readHead 6 = .ok (.aload_n 0, 1) := by decide +kernel
theorem dX5_readHead_7 : decode cX5_readHead 7 = .ok (.ldc 139, 2) := by decide +kernel
theorem dX5_readHead_9 : decode cX5_readHead 9 = .ok (.invokevirtual 153, 3) := by decide +kernel
theorem dX5_readHead_12 : decode cX5_readHead 12 = .ok (.aload_n 0, 1) := by decide +kernel
theorem dX5_readHead_13 : decode cX5_readHead 13 = .ok (.getfield 28, 3) := by decide +kernel
theorem dX5_readHead_16 : decode cX5_readHead 16 = .ok (.iconst 2, 1) := by decide +kernel
theorem dX5_readHead_17 : decode cX5_readHead 17 = .ok (.if_icmp .eq 11, 3) := by decide +kernel
theorem dX5_readHead_28 : decode cX5_readHead 28 = .ok (.aload_n 0, 1) := by decide +kernel
theorem dX5_readHead_29 : decode cX5_readHead 29 = .ok (.getfield 34, 3) := by decide +kernel
theorem dX5_readHead_32 : decode cX5_readHead 32 = .ok (.bipush 7, 2) := by decide +kernel
theorem dX5_readHead_34 : decode cX5_readHead 34 = .ok (.if_icmp .le 8, 3) := by decide +kernel
theorem dX5_readHead_37 : decode cX5_readHead 37 = .ok (.aload_n 0, 1) := by decide +kernel
theorem dX5_readHead_38 : decode cX5_readHead 38 = .ok (.iconst 2, 1) := by decide +kernel
theorem dX5_readHead_39 : decode cX5_readHead 39 = .ok (.invokevirtual 149, 3) := by decide +kernel
theorem dX5_readHead_20 : decode cX5_readHead 20 = .ok (.aload_n 0, 1) := by decide +kernel
theorem dX5_readHead_21 : decode cX5_readHead 21 = .ok (.iconst 1, 1) := by decide +kernel
theorem dX5_readHead_22 : decode cX5_readHead 22 = .ok (.invokevirtual 149, 3) := by decide +kernel
theorem dX5_readHead_25 : decode cX5_readHead 25 = .ok (.goto 17, 3) := by decide +kernel
theorem dX5_readHead_42 : decode cX5_readHead 42 = .ok (.aload_n 0, 1) := by decide +kernel
theorem dX5_readHead_43 : decode cX5_readHead 43 = .ok (.getfield 9, 3) := by decide +kernel
theorem dX5_readHead_46 : decode cX5_readHead 46 = .ok (.ifCond .ne 18, 3) := by decide +kernel
theorem dX5_readHead_49 : decode cX5_readHead 49 = .ok (.aload_n 0, 1) := by decide +kernel
theorem dX5_readHead_50 : decode cX5_readHead 50 = .ok (.getfield 47, 3) := by decide +kernel
theorem dX5_readHead_53 : decode cX5_readHead 53 = .ok (.aload_n 0, 1) := by decide +kernel
theorem dX5_readHead_54 : decode cX5_readHead 54 = .ok (.getfield 34, 3) := by decide +kernel
theorem dX5_readHead_57 : decode cX5_readHead 57 = .ok (.putfield 157, 3) := by decide +kernel
theorem wm_217 : (Jvm.Cond.fieldLink "GrownKinds$Reader" (157 : Nat) "GrownKinds$Grammar" "most" "I") ∈ gT := gT_in (List.mem_of_getElem? (i := 217) (by decide +kernel)) (by decide +kernel)
theorem dX5_readHead_60 : decode cX5_readHead 60 = .ok (.aload_n 0, 1) := by decide +kernel
theorem dX5_readHead_61 : decode cX5_readHead 61 = .ok (.invokevirtual 65, 3) := by decide +kernel
theorem dX5_readHead_64 : decode cX5_readHead 64 = .ok (.iconst 0, 1) := by decide +kernel
theorem dX5_readHead_65 : decode cX5_readHead 65 = .ok (.istore_n 1, 1) := by decide +kernel
theorem dX5_readHead_66 : decode cX5_readHead 66 = .ok (.iload_n 1, 1) := by decide +kernel
theorem dX5_readHead_67 : decode cX5_readHead 67 = .ok (.bipush 6, 2) := by decide +kernel
theorem dX5_readHead_69 : decode cX5_readHead 69 = .ok (.if_icmp .gt 33, 3) := by decide +kernel
theorem dX5_readHead_72 : decode cX5_readHead 72 = .ok (.aload_n 0, 1) := by decide +kernel
theorem dX5_readHead_73 : decode cX5_readHead 73 = .ok (.getfield 9, 3) := by decide +kernel
theorem dX5_readHead_76 : decode cX5_readHead 76 = .ok (.ifCond .ne 26, 3) := by decide +kernel
theorem dX5_readHead_79 : decode cX5_readHead 79 = .ok (.iload_n 1, 1) := by decide +kernel
theorem dX5_readHead_80 : decode cX5_readHead 80 = .ok (.ifCond .eq 12, 3) := by decide +kernel
theorem dX5_readHead_92 : decode cX5_readHead 92 = .ok (.aload_n 0, 1) := by decide +kernel
theorem dX5_readHead_93 : decode cX5_readHead 93 = .ok (.invokevirtual 159, 3) := by decide +kernel
theorem wm_829 : (Jvm.Cond.methodLink "GrownKinds$Reader" (159 : Nat) ({ cls := "GrownKinds$Reader", name := "readName", desc := "()V" } : Jvm.MethodName)) ∈ gT := gT_in (List.mem_of_getElem? (i := 829) (by decide +kernel)) (by decide +kernel)
theorem wm_831 : (Jvm.Cond.instanceMethod ({ cls := "GrownKinds$Reader", name := "readName", desc := "()V" } : Jvm.MethodName)) ∈ gT := gT_in (List.mem_of_getElem? (i := 831) (by decide +kernel)) (by decide +kernel)
theorem wm_6 : Cond.selects "GrownKinds$Reader" ⟨"GrownKinds$Reader", "readName", "()V"⟩ ⟨"GrownKinds$Reader", "readName", "()V"⟩ ∈ gT := gT_in (List.mem_of_getElem? (i := 6) (by decide +kernel)) (by decide +kernel)
theorem wm_832 : (Jvm.Cond.code ({ cls := "GrownKinds$Reader", name := "readName", desc := "()V" } : Jvm.MethodName) prog_7_method_15_code (1 : Nat) (Option.none : Option Jvm.ClassFile.FieldType)) ∈ gT := gT_in (List.mem_of_getElem? (i := 832) (by decide +kernel)) (by decide +kernel)
theorem dX5_readName_0 : decode cX5_readName 0 = .ok (.aload_n 0, 1) := by decide +kernel
theorem dX5_readName_1 : decode cX5_readName 1 = .ok (.invokevirtual 165, 3) := by decide +kernel
theorem wm_833 : (Jvm.Cond.methodLink "GrownKinds$Reader" (165 : Nat) ({ cls := "GrownKinds$Reader", name := "partBegun", desc := "()I" } : Jvm.MethodName)) ∈ gT := gT_in (List.mem_of_getElem? (i := 833) (by decide +kernel)) (by decide +kernel)
theorem wm_835 : (Jvm.Cond.instanceMethod ({ cls := "GrownKinds$Reader", name := "partBegun", desc := "()I" } : Jvm.MethodName)) ∈ gT := gT_in (List.mem_of_getElem? (i := 835) (by decide +kernel)) (by decide +kernel)
theorem wm_7 : Cond.selects "GrownKinds$Reader" ⟨"GrownKinds$Reader", "partBegun", "()I"⟩ ⟨"GrownKinds$Reader", "partBegun", "()I"⟩ ∈ gT := gT_in (List.mem_of_getElem? (i := 7) (by decide +kernel)) (by decide +kernel)
theorem wm_836 : (Jvm.Cond.code ({ cls := "GrownKinds$Reader", name := "partBegun", desc := "()I" } : Jvm.MethodName) prog_7_method_9_code (2 : Nat) (Option.some Jvm.ClassFile.FieldType.int)) ∈ gT := gT_in (List.mem_of_getElem? (i := 836) (by decide +kernel)) (by decide +kernel)
theorem dX5_partBegun_0 : decode cX5_partBegun 0 = .ok (.aload_n 0, 1) := by decide +kernel
theorem dX5_partBegun_1 : decode cX5_partBegun 1 = .ok (.getfield 28, 3) := by decide +kernel
theorem dX5_partBegun_4 : decode cX5_partBegun 4 = .ok (.bipush 40, 2) := by decide +kernel
theorem dX5_partBegun_6 : decode cX5_partBegun 6 = .ok (.if_icmp .ne 6, 3) := by decide +kernel
theorem dX5_partBegun_12 : decode cX5_partBegun 12 = .ok (.aload_n 0, 1) := by decide +kernel
theorem dX5_partBegun_13 : decode cX5_partBegun 13 = .ok (.getfield 28, 3) := by decide +kernel
theorem dX5_partBegun_16 : decode cX5_partBegun 16 = .ok (.iconst 1, 1) := by decide +kernel
theorem dX5_partBegun_17 : decode cX5_partBegun 17 = .ok (.if_icmp .eq 5, 3) := by decide +kernel
theorem dX5_partBegun_22 : decode cX5_partBegun 22 = .ok (.aload_n 0, 1) := by decide +kernel
theorem dX5_partBegun_23 : decode cX5_partBegun 23 = .ok (.ldc 121, 2) := by decide +kernel
theorem dX5_partBegun_25 : decode cX5_partBegun 25 = .ok (.invokevirtual 123, 3) := by decide +kernel
theorem dX5_partBegun_28 : decode cX5_partBegun 28 = .ok (.ifCond .eq 5, 3) := by decide +kernel
theorem dX5_partBegun_33 : decode cX5_partBegun 33 = .ok (.aload_n 0, 1) := by decide +kernel
theorem dX5_partBegun_34 : decode cX5_partBegun 34 = .ok (.ldc 127, 2) := by decide +kernel
theorem dX5_partBegun_36 : decode cX5_partBegun 36 = .ok (.invokevirtual 123, 3) := by decide +kernel
theorem dX5_partBegun_39 : decode cX5_partBegun 39 = .ok (.ifCond .eq 5, 3) := by decide +kernel
theorem dX5_partBegun_44 : decode cX5_partBegun 44 = .ok (.aload_n 0, 1) := by decide +kernel
theorem dX5_partBegun_45 : decode cX5_partBegun 45 = .ok (.ldc 129, 2) := by decide +kernel
theorem dX5_partBegun_47 : decode cX5_partBegun 47 = .ok (.invokevirtual 123, 3) := by decide +kernel
theorem dX5_partBegun_50 : decode cX5_partBegun 50 = .ok (.ifCond .eq 5, 3) := by decide +kernel
theorem dX5_partBegun_55 : decode cX5_partBegun 55 = .ok (.aload_n 0, 1) := by decide +kernel
theorem dX5_partBegun_56 : decode cX5_partBegun 56 = .ok (.ldc 131, 2) := by decide +kernel
theorem dX5_partBegun_58 : decode cX5_partBegun 58 = .ok (.invokevirtual 123, 3) := by decide +kernel
theorem dX5_partBegun_61 : decode cX5_partBegun 61 = .ok (.ifCond .eq 5, 3) := by decide +kernel
theorem dX5_partBegun_66 : decode cX5_partBegun 66 = .ok (.aload_n 0, 1) := by decide +kernel
theorem dX5_partBegun_67 : decode cX5_partBegun 67 = .ok (.ldc 133, 2) := by decide +kernel
theorem dX5_partBegun_69 : decode cX5_partBegun 69 = .ok (.invokevirtual 123, 3) := by decide +kernel
theorem dX5_partBegun_72 : decode cX5_partBegun 72 = .ok (.ifCond .eq 5, 3) := by decide +kernel
theorem dX5_partBegun_77 : decode cX5_partBegun 77 = .ok (.aload_n 0, 1) := by decide +kernel
theorem dX5_partBegun_78 : decode cX5_partBegun 78 = .ok (.ldc 135, 2) := by decide +kernel
theorem dX5_partBegun_80 : decode cX5_partBegun 80 = .ok (.invokevirtual 123, 3) := by decide +kernel
theorem dX5_partBegun_83 : decode cX5_partBegun 83 = .ok (.ifCond .eq 6, 3) := by decide +kernel
theorem dX5_partBegun_89 : decode cX5_partBegun 89 = .ok (.aload_n 0, 1) := by decide +kernel
theorem dX5_partBegun_90 : decode cX5_partBegun 90 = .ok (.ldc 137, 2) := by decide +kernel
theorem dX5_partBegun_92 : decode cX5_partBegun 92 = .ok (.invokevirtual 123, 3) := by decide +kernel
theorem dX5_partBegun_95 : decode cX5_partBegun 95 = .ok (.ifCond .ne 30, 3) := by decide +kernel
theorem dX5_partBegun_125 : decode cX5_partBegun 125 = .ok (.iconst 1, 1) := by decide +kernel
theorem dX5_partBegun_126 : decode cX5_partBegun 126 = .ok (.goto 4, 3) := by decide +kernel
theorem dX5_partBegun_98 : decode cX5_partBegun 98 = .ok (.aload_n 0, 1) := by decide +kernel
theorem dX5_partBegun_99 : decode cX5_partBegun 99 = .ok (.ldc 139, 2) := by decide +kernel
theorem dX5_partBegun_101 : decode cX5_partBegun 101 = .ok (.invokevirtual 123, 3) := by decide +kernel
theorem dX5_partBegun_104 : decode cX5_partBegun 104 = .ok (.ifCond .ne 21, 3) := by decide +kernel
theorem dX5_partBegun_107 : decode cX5_partBegun 107 = .ok (.aload_n 0, 1) := by decide +kernel
theorem dX5_partBegun_108 : decode cX5_partBegun 108 = .ok (.ldc 141, 2) := by decide +kernel
theorem dX5_partBegun_110 : decode cX5_partBegun 110 = .ok (.invokevirtual 123, 3) := by decide +kernel
theorem dX5_partBegun_113 : decode cX5_partBegun 113 = .ok (.ifCond .ne 12, 3) := by decide +kernel
theorem dX5_partBegun_116 : decode cX5_partBegun 116 = .ok (.aload_n 0, 1) := by decide +kernel
theorem dX5_partBegun_117 : decode cX5_partBegun 117 = .ok (.ldc 143, 2) := by decide +kernel
theorem dX5_partBegun_119 : decode cX5_partBegun 119 = .ok (.invokevirtual 123, 3) := by decide +kernel
theorem dX5_partBegun_122 : decode cX5_partBegun 122 = .ok (.ifCond .eq 7, 3) := by decide +kernel
theorem dX5_partBegun_129 : decode cX5_partBegun 129 = .ok (.iconst 0, 1) := by decide +kernel
theorem dX5_partBegun_130 : decode cX5_partBegun 130 = .ok (.istore_n 1, 1) := by decide +kernel
theorem dX5_partBegun_131 : decode cX5_partBegun 131 = .ok (.iload_n 1, 1) := by decide +kernel
theorem dX5_partBegun_132 : decode cX5_partBegun 132 = .ok (.ifCond .eq 8, 3) := by decide +kernel
theorem dX5_partBegun_140 : decode cX5_partBegun 140 = .ok (.iconst 2, 1) := by decide +kernel
theorem dX5_partBegun_141 : decode cX5_partBegun 141 = .ok (.ireturn, 1) := by decide +kernel
theorem dX5_partBegun_135 : decode cX5_partBegun 135 = .ok (.bipush 8, 2) := by decide +kernel
theorem dX5_partBegun_137 : decode cX5_partBegun 137 = .ok (.goto 4, 3) := by decide +kernel
theorem dX5_partBegun_86 : decode cX5_partBegun 86 = .ok (.bipush 6, 2) := by decide +kernel
theorem dX5_partBegun_88 : decode cX5_partBegun 88 = .ok (.ireturn, 1) := by decide +kernel
theorem dX5_partBegun_75 : decode cX5_partBegun 75 = .ok (.iconst 5, 1) := by decide +kernel
theorem dX5_partBegun_76 : decode cX5_partBegun 76 = .ok (.ireturn, 1) := by decide +kernel
theorem dX5_partBegun_64 : decode cX5_partBegun 64 = .ok (.iconst 4, 1) := by decide +kernel
theorem dX5_partBegun_65 : decode cX5_partBegun 65 = .ok (.ireturn, 1) := by decide +kernel
theorem dX5_partBegun_53 : decode cX5_partBegun 53 = .ok (.iconst 3, 1) := by decide +kernel
theorem dX5_partBegun_54 : decode cX5_partBegun 54 = .ok (.ireturn, 1) := by decide +kernel
theorem dX5_partBegun_42 : decode cX5_partBegun 42 = .ok (.iconst 1, 1) := by decide +kernel
theorem dX5_partBegun_43 : decode cX5_partBegun 43 = .ok (.ireturn, 1) := by decide +kernel
theorem dX5_partBegun_31 : decode cX5_partBegun 31 = .ok (.iconst 0, 1) := by decide +kernel
theorem dX5_partBegun_32 : decode cX5_partBegun 32 = .ok (.ireturn, 1) := by decide +kernel
theorem dX5_partBegun_20 : decode cX5_partBegun 20 = .ok (.iconst (-1), 1) := by decide +kernel
theorem dX5_partBegun_21 : decode cX5_partBegun 21 = .ok (.ireturn, 1) := by decide +kernel
theorem dX5_partBegun_9 : decode cX5_partBegun 9 = .ok (.bipush 7, 2) := by decide +kernel
theorem dX5_partBegun_11 : decode cX5_partBegun 11 = .ok (.ireturn, 1) := by decide +kernel
theorem dX5_readName_4 : decode cX5_readName 4 = .ok (.iconst 2, 1) := by decide +kernel
theorem dX5_readName_5 : decode cX5_readName 5 = .ok (.if_icmp .eq 11, 3) := by decide +kernel
theorem dX5_readName_16 : decode cX5_readName 16 = .ok (.aload_n 0, 1) := by decide +kernel
theorem dX5_readName_17 : decode cX5_readName 17 = .ok (.getfield 25, 3) := by decide +kernel
theorem dX5_readName_20 : decode cX5_readName 20 = .ok (.aload_n 0, 1) := by decide +kernel
theorem dX5_readName_21 : decode cX5_readName 21 = .ok (.getfield 31, 3) := by decide +kernel
theorem dX5_readName_24 : decode cX5_readName 24 = .ok (.isub, 1) := by decide +kernel
theorem dX5_readName_25 : decode cX5_readName 25 = .ok (.bipush 8, 2) := by decide +kernel
theorem dX5_readName_27 : decode cX5_readName 27 = .ok (.if_icmp .gt 11, 3) := by decide +kernel
theorem dX5_readName_38 : decode cX5_readName 38 = .ok (.aload_n 0, 1) := by decide +kernel
theorem dX5_readName_39 : decode cX5_readName 39 = .ok (.iconst 2, 1) := by decide +kernel
theorem dX5_readName_40 : decode cX5_readName 40 = .ok (.invokevirtual 149, 3) := by decide +kernel
theorem dX5_readName_43 : decode cX5_readName 43 = .ok (.goto 77, 3) := by decide +kernel
theorem dX5_readName_120 : decode cX5_readName 120 = .ok (.return_, 1) := by decide +kernel
theorem dX5_readName_30 : decode cX5_readName 30 = .ok (.aload_n 0, 1) := by decide +kernel
theorem dX5_readName_31 : decode cX5_readName 31 = .ok (.invokevirtual 168, 3) := by decide +kernel
theorem wm_845 : (Jvm.Cond.methodLink "GrownKinds$Reader" (168 : Nat) ({ cls := "GrownKinds$Reader", name := "kindNamed", desc := "()I" } : Jvm.MethodName)) ∈ gT := gT_in (List.mem_of_getElem? (i := 845) (by decide +kernel)) (by decide +kernel)
theorem wm_847 : (Jvm.Cond.instanceMethod ({ cls := "GrownKinds$Reader", name := "kindNamed", desc := "()I" } : Jvm.MethodName)) ∈ gT := gT_in (List.mem_of_getElem? (i := 847) (by decide +kernel)) (by decide +kernel)
theorem wm_8 : Cond.selects "GrownKinds$Reader" ⟨"GrownKinds$Reader", "kindNamed", "()I"⟩ ⟨"GrownKinds$Reader", "kindNamed", "()I"⟩ ∈ gT := gT_in (List.mem_of_getElem? (i := 8) (by decide +kernel)) (by decide +kernel)
theorem wm_848 : (Jvm.Cond.code ({ cls := "GrownKinds$Reader", name := "kindNamed", desc := "()I" } : Jvm.MethodName) prog_7_method_10_code (2 : Nat) (Option.some Jvm.ClassFile.FieldType.int)) ∈ gT := gT_in (List.mem_of_getElem? (i := 848) (by decide +kernel)) (by decide +kernel)
theorem dX5_kindNamed_0 : decode cX5_kindNamed 0 = .ok (.iconst 0, 1) := by decide +kernel
theorem dX5_kindNamed_1 : decode cX5_kindNamed 1 = .ok (.istore_n 1, 1) := by decide +kernel
theorem dX5_kindNamed_2 : decode cX5_kindNamed 2 = .ok (.iload_n 1, 1) := by decide +kernel
theorem dX5_kindNamed_3 : decode cX5_kindNamed 3 = .ok (.aload_n 0, 1) := by decide +kernel
theorem dX5_kindNamed_4 : decode cX5_kindNamed 4 = .ok (.getfield 47, 3) := by decide +kernel
theorem dX5_kindNamed_7 : decode cX5_kindNamed 7 = .ok (.getfield 86, 3) := by decide +kernel
theorem wm_220 : (Jvm.Cond.fieldLink "GrownKinds$Reader" (86 : Nat) "GrownKinds$Grammar" "kinds" "I") ∈ gT := gT_in (List.mem_of_getElem? (i := 220) (by decide +kernel)) (by decide +kernel)
theorem dX5_kindNamed_10 : decode cX5_kindNamed 10 = .ok (.if_icmp .ge 55, 3) := by decide +kernel
theorem dX5_kindNamed_13 : decode cX5_kindNamed 13 = .ok (.aload_n 0, 1) := by decide +kernel
theorem dX5_kindNamed_14 : decode cX5_kindNamed 14 = .ok (.getfield 44, 3) := by decide +kernel
theorem dX5_kindNamed_17 : decode cX5_kindNamed 17 = .ok (.iload_n 1, 1) := by decide +kernel
theorem dX5_kindNamed_18 : decode cX5_kindNamed 18 = .ok (.iaload, 1) := by decide +kernel
theorem dX5_kindNamed_19 : decode cX5_kindNamed 19 = .ok (.aload_n 0, 1) := by decide +kernel
theorem dX5_kindNamed_20 : decode cX5_kindNamed 20 = .ok (.getfield 25, 3) := by decide +kernel
theorem dX5_kindNamed_23 : decode cX5_kindNamed 23 = .ok (.aload_n 0, 1) := by decide +kernel
theorem dX5_kindNamed_24 : decode cX5_kindNamed 24 = .ok (.getfield 31, 3) := by decide +kernel
theorem dX5_kindNamed_27 : decode cX5_kindNamed 27 = .ok (.isub, 1) := by decide +kernel
theorem dX5_kindNamed_28 : decode cX5_kindNamed 28 = .ok (.if_icmp .ne 31, 3) := by decide +kernel
theorem dX5_kindNamed_59 : decode cX5_kindNamed 59 = .ok (.iinc 1 1, 3) := by decide +kernel
theorem dX5_kindNamed_62 : decode cX5_kindNamed 62 = .ok (.goto (-60), 3) := by decide +kernel
theorem dX5_kindNamed_31 : decode cX5_kindNamed 31 = .ok (.aload_n 0, 1) := by decide +kernel
theorem dX5_kindNamed_32 : decode cX5_kindNamed 32 = .ok (.aload_n 0, 1) := by decide +kernel
theorem dX5_kindNamed_33 : decode cX5_kindNamed 33 = .ok (.getfield 40, 3) := by decide +kernel
theorem dX5_kindNamed_36 : decode cX5_kindNamed 36 = .ok (.iload_n 1, 1) := by decide +kernel
theorem dX5_kindNamed_37 : decode cX5_kindNamed 37 = .ok (.iaload, 1) := by decide +kernel
theorem dX5_kindNamed_38 : decode cX5_kindNamed 38 = .ok (.aload_n 0, 1) := by decide +kernel
theorem dX5_kindNamed_39 : decode cX5_kindNamed 39 = .ok (.getfield 31, 3) := by decide +kernel
theorem dX5_kindNamed_42 : decode cX5_kindNamed 42 = .ok (.aload_n 0, 1) := by decide +kernel
theorem dX5_kindNamed_43 : decode cX5_kindNamed 43 = .ok (.getfield 25, 3) := by decide +kernel
theorem dX5_kindNamed_46 : decode cX5_kindNamed 46 = .ok (.aload_n 0, 1) := by decide +kernel
theorem dX5_kindNamed_47 : decode cX5_kindNamed 47 = .ok (.getfield 31, 3) := by decide +kernel
theorem dX5_kindNamed_50 : decode cX5_kindNamed 50 = .ok (.isub, 1) := by decide +kernel
theorem dX5_kindNamed_51 : decode cX5_kindNamed 51 = .ok (.invokevirtual 145, 3) := by decide +kernel
theorem wm_849 : (Jvm.Cond.methodLink "GrownKinds$Reader" (145 : Nat) ({ cls := "GrownKinds$Reader", name := "sameBytes", desc := "(III)Z" } : Jvm.MethodName)) ∈ gT := gT_in (List.mem_of_getElem? (i := 849) (by decide +kernel)) (by decide +kernel)
theorem wm_851 : (Jvm.Cond.instanceMethod ({ cls := "GrownKinds$Reader", name := "sameBytes", desc := "(III)Z" } : Jvm.MethodName)) ∈ gT := gT_in (List.mem_of_getElem? (i := 851) (by decide +kernel)) (by decide +kernel)
theorem wm_9 : Cond.selects "GrownKinds$Reader" ⟨"GrownKinds$Reader", "sameBytes", "(III)Z"⟩ ⟨"GrownKinds$Reader", "sameBytes", "(III)Z"⟩ ∈ gT := gT_in (List.mem_of_getElem? (i := 9) (by decide +kernel)) (by decide +kernel)
theorem wm_852 : (Jvm.Cond.code ({ cls := "GrownKinds$Reader", name := "sameBytes", desc := "(III)Z" } : Jvm.MethodName) prog_7_method_11_code (5 : Nat) (Option.some Jvm.ClassFile.FieldType.boolean)) ∈ gT := gT_in (List.mem_of_getElem? (i := 852) (by decide +kernel)) (by decide +kernel)
theorem dX5_sameBytes_0 : decode cX5_sameBytes 0 = .ok (.iconst 0, 1) := by decide +kernel
theorem dX5_sameBytes_1 : decode cX5_sameBytes 1 = .ok (.istore 4, 2) := by decide +kernel
theorem dX5_sameBytes_3 : decode cX5_sameBytes 3 = .ok (.iload 4, 2) := by decide +kernel
theorem dX5_sameBytes_5 : decode cX5_sameBytes 5 = .ok (.iload_n 3, 1) := by decide +kernel
theorem dX5_sameBytes_6 : decode cX5_sameBytes 6 = .ok (.if_icmp .ge 32, 3) := by decide +kernel
theorem dX5_sameBytes_9 : decode cX5_sameBytes 9 = .ok (.aload_n 0, 1) := by decide +kernel
theorem dX5_sameBytes_10 : decode cX5_sameBytes 10 = .ok (.getfield 18, 3) := by decide +kernel
theorem dX5_sameBytes_13 : decode cX5_sameBytes 13 = .ok (.iload_n 1, 1) := by decide +kernel
theorem dX5_sameBytes_14 : decode cX5_sameBytes 14 = .ok (.iload 4, 2) := by decide +kernel
theorem dX5_sameBytes_16 : decode cX5_sameBytes 16 = .ok (.iadd, 1) := by decide +kernel
theorem dX5_sameBytes_17 : decode cX5_sameBytes 17 = .ok (.baload, 1) := by decide +kernel
theorem dX5_sameBytes_18 : decode cX5_sameBytes 18 = .ok (.aload_n 0, 1) := by decide +kernel
theorem dX5_sameBytes_19 : decode cX5_sameBytes 19 = .ok (.getfield 18, 3) := by decide +kernel
theorem dX5_sameBytes_22 : decode cX5_sameBytes 22 = .ok (.iload_n 2, 1) := by decide +kernel
theorem dX5_sameBytes_23 : decode cX5_sameBytes 23 = .ok (.iload 4, 2) := by decide +kernel
theorem dX5_sameBytes_25 : decode cX5_sameBytes 25 = .ok (.iadd, 1) := by decide +kernel
theorem dX5_sameBytes_26 : decode cX5_sameBytes 26 = .ok (.baload, 1) := by decide +kernel
theorem dX5_sameBytes_27 : decode cX5_sameBytes 27 = .ok (.if_icmp .eq 5, 3) := by decide +kernel
theorem dX5_sameBytes_32 : decode cX5_sameBytes 32 = .ok (.iinc 4 1, 3) := by decide +kernel
theorem dX5_sameBytes_35 : decode cX5_sameBytes 35 = .ok (.goto (-32), 3) := by decide +kernel
theorem dX5_sameBytes_30 : decode cX5_sameBytes 30 = .ok (.iconst 0, 1) := by decide +kernel
theorem dX5_sameBytes_31 : decode cX5_sameBytes 31 = .ok (.ireturn, 1) := by decide +kernel
theorem dX5_sameBytes_38 : decode cX5_sameBytes 38 = .ok (.iconst 1, 1) := by decide +kernel
theorem dX5_sameBytes_39 : decode cX5_sameBytes 39 = .ok (.ireturn, 1) := by decide +kernel
theorem dX5_kindNamed_54 : decode cX5_kindNamed 54 = .ok (.ifCond .eq 5, 3) := by decide +kernel
theorem dX5_kindNamed_57 : decode cX5_kindNamed 57 = .ok (.iload_n 1, 1) := by decide +kernel
theorem dX5_kindNamed_58 : decode cX5_kindNamed 58 = .ok (.ireturn, 1) := by decide +kernel
theorem dX5_kindNamed_65 : decode cX5_kindNamed 65 = .ok (.iconst (-1), 1) := by decide +kernel
theorem dX5_kindNamed_66 : decode cX5_kindNamed 66 = .ok (.ireturn, 1) := by decide +kernel
theorem dX5_readName_34 : decode cX5_readName 34 = .ok (.iconst (-1), 1) := by decide +kernel
theorem dX5_readName_35 : decode cX5_readName 35 = .ok (.if_icmp .eq 11, 3) := by decide +kernel
theorem dX5_readName_46 : decode cX5_readName 46 = .ok (.aload_n 0, 1) := by decide +kernel
theorem dX5_readName_47 : decode cX5_readName 47 = .ok (.getfield 47, 3) := by decide +kernel
theorem dX5_readName_50 : decode cX5_readName 50 = .ok (.getfield 86, 3) := by decide +kernel
theorem dX5_readName_53 : decode cX5_readName 53 = .ok (.bipush 6, 2) := by decide +kernel
theorem dX5_readName_55 : decode cX5_readName 55 = .ok (.if_icmp .lt 11, 3) := by decide +kernel
theorem dX5_readName_66 : decode cX5_readName 66 = .ok (.aload_n 0, 1) := by decide +kernel
theorem dX5_readName_67 : decode cX5_readName 67 = .ok (.getfield 40, 3) := by decide +kernel
theorem dX5_readName_70 : decode cX5_readName 70 = .ok (.aload_n 0, 1) := by decide +kernel
theorem dX5_readName_71 : decode cX5_readName 71 = .ok (.getfield 47, 3) := by decide +kernel
theorem dX5_readName_74 : decode cX5_readName 74 = .ok (.getfield 86, 3) := by decide +kernel
theorem dX5_readName_77 : decode cX5_readName 77 = .ok (.aload_n 0, 1) := by decide +kernel
theorem dX5_readName_78 : decode cX5_readName 78 = .ok (.getfield 31, 3) := by decide +kernel
theorem dX5_readName_81 : decode cX5_readName 81 = .ok (.iastore, 1) := by decide +kernel
theorem dX5_readName_82 : decode cX5_readName 82 = .ok (.aload_n 0, 1) := by decide +kernel
theorem dX5_readName_83 : decode cX5_readName 83 = .ok (.getfield 44, 3) := by decide +kernel
theorem dX5_readName_86 : decode cX5_readName 86 = .ok (.aload_n 0, 1) := by decide +kernel
theorem dX5_readName_87 : decode cX5_readName 87 = .ok (.getfield 47, 3) := by decide +kernel
theorem dX5_readName_90 : decode cX5_readName 90 = .ok (.getfield 86, 3) := by decide +kernel
theorem dX5_readName_93 : decode cX5_readName 93 = .ok (.aload_n 0, 1) := by decide +kernel
theorem dX5_readName_94 : decode cX5_readName 94 = .ok (.getfield 25, 3) := by decide +kernel
theorem dX5_readName_97 : decode cX5_readName 97 = .ok (.aload_n 0, 1) := by decide +kernel
theorem dX5_readName_98 : decode cX5_readName 98 = .ok (.getfield 31, 3) := by decide +kernel
theorem dX5_readName_101 : decode cX5_readName 101 = .ok (.isub, 1) := by decide +kernel
theorem dX5_readName_102 : decode cX5_readName 102 = .ok (.iastore, 1) := by decide +kernel
theorem dX5_readName_103 : decode cX5_readName 103 = .ok (.aload_n 0, 1) := by decide +kernel
theorem dX5_readName_104 : decode cX5_readName 104 = .ok (.getfield 47, 3) := by decide +kernel
theorem dX5_readName_107 : decode cX5_readName 107 = .ok (.dup, 1) := by decide +kernel
theorem dX5_readName_108 : decode cX5_readName 108 = .ok (.getfield 86, 3) := by decide +kernel
theorem dX5_readName_111 : decode cX5_readName 111 = .ok (.iconst 1, 1) := by decide +kernel
theorem dX5_readName_112 : decode cX5_readName 112 = .ok (.iadd, 1) := by decide +kernel
theorem dX5_readName_113 : decode cX5_readName 113 = .ok (.putfield 86, 3) := by decide +kernel
theorem dX5_readName_116 : decode cX5_readName 116 = .ok (.aload_n 0, 1) := by decide +kernel
theorem dX5_readName_117 : decode cX5_readName 117 = .ok (.invokevirtual 65, 3) := by decide +kernel
theorem dX5_readName_58 : decode cX5_readName 58 = .ok (.aload_n 0, 1) := by decide +kernel
theorem dX5_readName_59 : decode cX5_readName 59 = .ok (.iconst 3, 1) := by decide +kernel
theorem dX5_readName_60 : decode cX5_readName 60 = .ok (.invokevirtual 149, 3) := by decide +kernel
theorem dX5_readName_63 : decode cX5_readName 63 = .ok (.goto 57, 3) := by decide +kernel
theorem dX5_readName_8 : decode cX5_readName 8 = .ok (.aload_n 0, 1) := by decide +kernel
theorem dX5_readName_9 : decode cX5_readName 9 = .ok (.iconst 1, 1) := by decide +kernel
theorem dX5_readName_10 : decode cX5_readName 10 = .ok (.invokevirtual 149, 3) := by decide +kernel
theorem dX5_readName_13 : decode cX5_readName 13 = .ok (.goto 107, 3) := by decide +kernel
theorem dX5_readHead_96 : decode cX5_readHead 96 = .ok (.iinc 1 1, 3) := by decide +kernel
theorem dX5_readHead_99 : decode cX5_readHead 99 = .ok (.goto (-33), 3) := by decide +kernel
theorem dX5_readHead_83 : decode cX5_readHead 83 = .ok (.aload_n 0, 1) := by decide +kernel
theorem dX5_readHead_84 : decode cX5_readHead 84 = .ok (.getfield 28, 3) := by decide +kernel
theorem dX5_readHead_87 : decode cX5_readHead 87 = .ok (.bipush 59, 2) := by decide +kernel
theorem dX5_readHead_89 : decode cX5_readHead 89 = .ok (.if_icmp .eq 13, 3) := by decide +kernel
theorem dX5_readHead_102 : decode cX5_readHead 102 = .ok (.aload_n 0, 1) := by decide +kernel
theorem dX5_readHead_103 : decode cX5_readHead 103 = .ok (.bipush 59, 2) := by decide +kernel
theorem dX5_readHead_105 : decode cX5_readHead 105 = .ok (.invokevirtual 162, 3) := by decide +kernel
theorem wm_853 : (Jvm.Cond.methodLink "GrownKinds$Reader" (162 : Nat) ({ cls := "GrownKinds$Reader", name := "expectSign", desc := "(I)V" } : Jvm.MethodName)) ∈ gT := gT_in (List.mem_of_getElem? (i := 853) (by decide +kernel)) (by decide +kernel)
theorem wm_855 : (Jvm.Cond.instanceMethod ({ cls := "GrownKinds$Reader", name := "expectSign", desc := "(I)V" } : Jvm.MethodName)) ∈ gT := gT_in (List.mem_of_getElem? (i := 855) (by decide +kernel)) (by decide +kernel)
theorem wm_10 : Cond.selects "GrownKinds$Reader" ⟨"GrownKinds$Reader", "expectSign", "(I)V"⟩ ⟨"GrownKinds$Reader", "expectSign", "(I)V"⟩ ∈ gT := gT_in (List.mem_of_getElem? (i := 10) (by decide +kernel)) (by decide +kernel)
theorem wm_856 : (Jvm.Cond.code ({ cls := "GrownKinds$Reader", name := "expectSign", desc := "(I)V" } : Jvm.MethodName) prog_7_method_13_code (2 : Nat) (Option.none : Option Jvm.ClassFile.FieldType)) ∈ gT := gT_in (List.mem_of_getElem? (i := 856) (by decide +kernel)) (by decide +kernel)
theorem dX5_expectSign_0 : decode cX5_expectSign 0 = .ok (.aload_n 0, 1) := by decide +kernel
theorem dX5_expectSign_1 : decode cX5_expectSign 1 = .ok (.getfield 9, 3) := by decide +kernel
theorem dX5_expectSign_4 : decode cX5_expectSign 4 = .ok (.ifCond .ne 18, 3) := by decide +kernel
theorem dX5_expectSign_22 : decode cX5_expectSign 22 = .ok (.aload_n 0, 1) := by decide +kernel
theorem dX5_expectSign_23 : decode cX5_expectSign 23 = .ok (.iconst 1, 1) := by decide +kernel
theorem dX5_expectSign_24 : decode cX5_expectSign 24 = .ok (.invokevirtual 149, 3) := by decide +kernel
theorem dX5_expectSign_27 : decode cX5_expectSign 27 = .ok (.return_, 1) := by decide +kernel
theorem dX5_expectSign_7 : decode cX5_expectSign 7 = .ok (.aload_n 0, 1) := by decide +kernel
theorem dX5_expectSign_8 : decode cX5_expectSign 8 = .ok (.getfield 28, 3) := by decide +kernel
theorem dX5_expectSign_11 : decode cX5_expectSign 11 = .ok (.iload_n 1, 1) := by decide +kernel
theorem dX5_expectSign_12 : decode cX5_expectSign 12 = .ok (.if_icmp .ne 10, 3) := by decide +kernel
theorem dX5_expectSign_15 : decode cX5_expectSign 15 = .ok (.aload_n 0, 1) := by decide +kernel
theorem dX5_expectSign_16 : decode cX5_expectSign 16 = .ok (.invokevirtual 65, 3) := by decide +kernel
theorem dX5_expectSign_19 : decode cX5_expectSign 19 = .ok (.goto 8, 3) := by decide +kernel
theorem dX5_readHead_108 : decode cX5_readHead 108 = .ok (.aload_n 0, 1) := by decide +kernel
theorem dX5_readHead_109 : decode cX5_readHead 109 = .ok (.getfield 47, 3) := by decide +kernel
theorem dX5_readHead_112 : decode cX5_readHead 112 = .ok (.iconst 1, 1) := by decide +kernel
theorem dX5_readHead_113 : decode cX5_readHead 113 = .ok (.putfield 83, 3) := by decide +kernel
theorem wm_224 : (Jvm.Cond.fieldLink "GrownKinds$Reader" (83 : Nat) "GrownKinds$Grammar" "lines" "I") ∈ gT := gT_in (List.mem_of_getElem? (i := 224) (by decide +kernel)) (by decide +kernel)
theorem dX5_readHead_116 : decode cX5_readHead 116 = .ok (.return_, 1) := by decide +kernel
theorem dX5_read_50 : decode cX5_read 50 = .ok (.iconst 0, 1) := by decide +kernel
theorem dX5_read_51 : decode cX5_read 51 = .ok (.istore_n 3, 1) := by decide +kernel
theorem dX5_read_52 : decode cX5_read 52 = .ok (.iload_n 3, 1) := by decide +kernel
theorem dX5_read_53 : decode cX5_read 53 = .ok (.sipush 400, 3) := by decide +kernel
theorem dX5_read_56 : decode cX5_read 56 = .ok (.if_icmp .ge 28, 3) := by decide +kernel
theorem dX5_read_59 : decode cX5_read 59 = .ok (.aload_n 0, 1) := by decide +kernel
theorem dX5_read_60 : decode cX5_read 60 = .ok (.getfield 9, 3) := by decide +kernel
theorem dX5_read_63 : decode cX5_read 63 = .ok (.ifCond .ne 21, 3) := by decide +kernel
theorem dX5_read_66 : decode cX5_read 66 = .ok (.aload_n 0, 1) := by decide +kernel
theorem dX5_read_67 : decode cX5_read 67 = .ok (.getfield 28, 3) := by decide +kernel
theorem dX5_read_70 : decode cX5_read 70 = .ok (.iconst 3, 1) := by decide +kernel
theorem dX5_read_71 : decode cX5_read 71 = .ok (.if_icmp .eq 13, 3) := by decide +kernel
theorem dX5_read_74 : decode cX5_read 74 = .ok (.aload_n 0, 1) := by decide +kernel
theorem dX5_read_75 : decode cX5_read 75 = .ok (.invokevirtual 71, 3) := by decide +kernel
theorem wm_857 : (Jvm.Cond.methodLink "GrownKinds$Reader" (71 : Nat) ({ cls := "GrownKinds$Reader", name := "readLine", desc := "()V" } : Jvm.MethodName)) ∈ gT := gT_in (List.mem_of_getElem? (i := 857) (by decide +kernel)) (by decide +kernel)
theorem wm_859 : (Jvm.Cond.instanceMethod ({ cls := "GrownKinds$Reader", name := "readLine", desc := "()V" } : Jvm.MethodName)) ∈ gT := gT_in (List.mem_of_getElem? (i := 859) (by decide +kernel)) (by decide +kernel)
theorem wm_11 : Cond.selects "GrownKinds$Reader" ⟨"GrownKinds$Reader", "readLine", "()V"⟩ ⟨"GrownKinds$Reader", "readLine", "()V"⟩ ∈ gT := gT_in (List.mem_of_getElem? (i := 11) (by decide +kernel)) (by decide +kernel)
theorem wm_860 : (Jvm.Cond.code ({ cls := "GrownKinds$Reader", name := "readLine", desc := "()V" } : Jvm.MethodName) prog_7_method_16_code (1 : Nat) (Option.none : Option Jvm.ClassFile.FieldType)) ∈ gT := gT_in (List.mem_of_getElem? (i := 860) (by decide +kernel)) (by decide +kernel)
theorem dX5_readLine_0 : decode cX5_readLine 0 = .ok (.aload_n 0, 1) := by decide +kernel
theorem dX5_readLine_1 : decode cX5_readLine 1 = .ok (.invokevirtual 165, 3) := by decide +kernel
theorem dX5_readLine_4 : decode cX5_readLine 4 = .ok (.iconst 2, 1) := by decide +kernel
theorem dX5_readLine_5 : decode cX5_readLine 5 = .ok (.if_icmp .eq 9, 3) := by decide +kernel
theorem dX5_readLine_14 : decode cX5_readLine 14 = .ok (.aload_n 0, 1) := by decide +kernel
theorem dX5_readLine_15 : decode cX5_readLine 15 = .ok (.aload_n 0, 1) := by decide +kernel
theorem dX5_readLine_16 : decode cX5_readLine 16 = .ok (.invokevirtual 168, 3) := by decide +kernel
theorem dX5_readLine_19 : decode cX5_readLine 19 = .ok (.putfield 37, 3) := by decide +kernel
theorem dX5_readLine_22 : decode cX5_readLine 22 = .ok (.aload_n 0, 1) := by decide +kernel
theorem dX5_readLine_23 : decode cX5_readLine 23 = .ok (.getfield 37, 3) := by decide +kernel
theorem dX5_readLine_26 : decode cX5_readLine 26 = .ok (.iconst (-1), 1) := by decide +kernel
theorem dX5_readLine_27 : decode cX5_readLine 27 = .ok (.if_icmp .eq 18, 3) := by decide +kernel
theorem dX5_readLine_45 : decode cX5_readLine 45 = .ok (.aload_n 0, 1) := by decide +kernel
theorem dX5_readLine_46 : decode cX5_readLine 46 = .ok (.iconst 2, 1) := by decide +kernel
theorem dX5_readLine_47 : decode cX5_readLine 47 = .ok (.invokevirtual 149, 3) := by decide +kernel
theorem dX5_readLine_50 : decode cX5_readLine 50 = .ok (.return_, 1) := by decide +kernel
theorem dX5_readLine_30 : decode cX5_readLine 30 = .ok (.aload_n 0, 1) := by decide +kernel
theorem dX5_readLine_31 : decode cX5_readLine 31 = .ok (.getfield 47, 3) := by decide +kernel
theorem dX5_readLine_34 : decode cX5_readLine 34 = .ok (.getfield 171, 3) := by decide +kernel
theorem wm_268 : (Jvm.Cond.fieldLink "GrownKinds$Reader" (171 : Nat) "GrownKinds$Grammar" "termCount" "[I") ∈ gT := gT_in (List.mem_of_getElem? (i := 268) (by decide +kernel)) (by decide +kernel)
theorem dX5_readLine_37 : decode cX5_readLine 37 = .ok (.aload_n 0, 1) := by decide +kernel
theorem dX5_readLine_38 : decode cX5_readLine 38 = .ok (.getfield 37, 3) := by decide +kernel
theorem dX5_readLine_41 : decode cX5_readLine 41 = .ok (.iaload, 1) := by decide +kernel
theorem dX5_readLine_42 : decode cX5_readLine 42 = .ok (.ifCond .le 9, 3) := by decide +kernel
theorem dX5_readLine_51 : decode cX5_readLine 51 = .ok (.aload_n 0, 1) := by decide +kernel
theorem dX5_readLine_52 : decode cX5_readLine 52 = .ok (.invokevirtual 65, 3) := by decide +kernel
theorem dX5_readLine_55 : decode cX5_readLine 55 = .ok (.aload_n 0, 1) := by decide +kernel
theorem dX5_readLine_56 : decode cX5_readLine 56 = .ok (.bipush 61, 2) := by decide +kernel
theorem dX5_readLine_58 : decode cX5_readLine 58 = .ok (.invokevirtual 162, 3) := by decide +kernel
theorem dX5_readLine_61 : decode cX5_readLine 61 = .ok (.aload_n 0, 1) := by decide +kernel
theorem dX5_readLine_62 : decode cX5_readLine 62 = .ok (.getfield 9, 3) := by decide +kernel
theorem dX5_readLine_65 : decode cX5_readLine 65 = .ok (.ifCond .ne 12, 3) := by decide +kernel
theorem dX5_readLine_68 : decode cX5_readLine 68 = .ok (.aload_n 0, 1) := by decide +kernel
theorem dX5_readLine_69 : decode cX5_readLine 69 = .ok (.aload_n 0, 1) := by decide +kernel
theorem dX5_readLine_70 : decode cX5_readLine 70 = .ok (.getfield 37, 3) := by decide +kernel
theorem dX5_readLine_73 : decode cX5_readLine 73 = .ok (.iconst 0, 1) := by decide +kernel
theorem dX5_readLine_74 : decode cX5_readLine 74 = .ok (.invokevirtual 174, 3) := by decide +kernel
theorem wm_861 : (Jvm.Cond.methodLink "GrownKinds$Reader" (174 : Nat) ({ cls := "GrownKinds$Reader", name := "readExpr", desc := "(II)V" } : Jvm.MethodName)) ∈ gT := gT_in (List.mem_of_getElem? (i := 861) (by decide +kernel)) (by decide +kernel)
theorem wm_863 : (Jvm.Cond.instanceMethod ({ cls := "GrownKinds$Reader", name := "readExpr", desc := "(II)V" } : Jvm.MethodName)) ∈ gT := gT_in (List.mem_of_getElem? (i := 863) (by decide +kernel)) (by decide +kernel)
theorem wm_12 : Cond.selects "GrownKinds$Reader" ⟨"GrownKinds$Reader", "readExpr", "(II)V"⟩ ⟨"GrownKinds$Reader", "readExpr", "(II)V"⟩ ∈ gT := gT_in (List.mem_of_getElem? (i := 12) (by decide +kernel)) (by decide +kernel)
theorem wm_864 : (Jvm.Cond.code ({ cls := "GrownKinds$Reader", name := "readExpr", desc := "(II)V" } : Jvm.MethodName) prog_7_method_17_code (5 : Nat) (Option.none : Option Jvm.ClassFile.FieldType)) ∈ gT := gT_in (List.mem_of_getElem? (i := 864) (by decide +kernel)) (by decide +kernel)
theorem dX5_readExpr_0 : decode cX5_readExpr 0 = .ok (.iconst 0, 1) := by decide +kernel
theorem dX5_readExpr_1 : decode cX5_readExpr 1 = .ok (.istore_n 3, 1) := by decide +kernel
theorem dX5_readExpr_2 : decode cX5_readExpr 2 = .ok (.iload_n 3, 1) := by decide +kernel
theorem dX5_readExpr_3 : decode cX5_readExpr 3 = .ok (.bipush 10, 2) := by decide +kernel
theorem dX5_readExpr_5 : decode cX5_readExpr 5 = .ok (.if_icmp .gt 90, 3) := by decide +kernel
theorem dX5_readExpr_8 : decode cX5_readExpr 8 = .ok (.aload_n 0, 1) := by decide +kernel
theorem dX5_readExpr_9 : decode cX5_readExpr 9 = .ok (.getfield 9, 3) := by decide +kernel
theorem dX5_readExpr_12 : decode cX5_readExpr 12 = .ok (.ifCond .ne 83, 3) := by decide +kernel
theorem dX5_readExpr_15 : decode cX5_readExpr 15 = .ok (.aload_n 0, 1) := by decide +kernel
theorem dX5_readExpr_16 : decode cX5_readExpr 16 = .ok (.iload_n 2, 1) := by decide +kernel
theorem dX5_readExpr_17 : decode cX5_readExpr 17 = .ok (.iload_n 3, 1) := by decide +kernel
theorem dX5_readExpr_18 : decode cX5_readExpr 18 = .ok (.bipush 10, 2) := by decide +kernel
theorem dX5_readExpr_20 : decode cX5_readExpr 20 = .ok (.if_icmp .ne 7, 3) := by decide +kernel
theorem dX5_readExpr_27 : decode cX5_readExpr 27 = .ok (.iconst 0, 1) := by decide +kernel
theorem dX5_readExpr_23 : decode cX5_readExpr 23 = .ok (.iconst 1, 1) := by decide +kernel
theorem dX5_readExpr_24 : decode cX5_readExpr 24 = .ok (.goto 4, 3) := by decide +kernel
theorem dX5_readExpr_28 : decode cX5_readExpr 28 = .ok (.invokevirtual 178, 3) := by decide +kernel
theorem wm_865 : (Jvm.Cond.methodLink "GrownKinds$Reader" (178 : Nat) ({ cls := "GrownKinds$Reader", name := "readTerm", desc := "(IZ)I" } : Jvm.MethodName)) ∈ gT := gT_in (List.mem_of_getElem? (i := 865) (by decide +kernel)) (by decide +kernel)
theorem wm_867 : (Jvm.Cond.instanceMethod ({ cls := "GrownKinds$Reader", name := "readTerm", desc := "(IZ)I" } : Jvm.MethodName)) ∈ gT := gT_in (List.mem_of_getElem? (i := 867) (by decide +kernel)) (by decide +kernel)
theorem wm_13 : Cond.selects "GrownKinds$Reader" ⟨"GrownKinds$Reader", "readTerm", "(IZ)I"⟩ ⟨"GrownKinds$Reader", "readTerm", "(IZ)I"⟩ ∈ gT := gT_in (List.mem_of_getElem? (i := 13) (by decide +kernel)) (by decide +kernel)
theorem wm_868 : (Jvm.Cond.code ({ cls := "GrownKinds$Reader", name := "readTerm", desc := "(IZ)I" } : Jvm.MethodName) prog_7_method_18_code (7 : Nat) (Option.some Jvm.ClassFile.FieldType.int)) ∈ gT := gT_in (List.mem_of_getElem? (i := 868) (by decide +kernel)) (by decide +kernel)
theorem dX5_readExpr_31 : decode cX5_readExpr 31 = .ok (.istore 4, 2) := by decide +kernel
theorem dX5_readExpr_33 : decode cX5_readExpr 33 = .ok (.aload_n 0, 1) := by decide +kernel
theorem dX5_readExpr_34 : decode cX5_readExpr 34 = .ok (.getfield 9, 3) := by decide +kernel
theorem dX5_readExpr_37 : decode cX5_readExpr 37 = .ok (.ifCond .ne 9, 3) := by decide +kernel
theorem dX5_readExpr_40 : decode cX5_readExpr 40 = .ok (.iload_n 3, 1) := by decide +kernel
theorem dX5_readExpr_41 : decode cX5_readExpr 41 = .ok (.bipush 10, 2) := by decide +kernel
theorem dX5_readExpr_43 : decode cX5_readExpr 43 = .ok (.if_icmp .ne 4, 3) := by decide +kernel
theorem dX5_readExpr_47 : decode cX5_readExpr 47 = .ok (.aload_n 0, 1) := by decide +kernel
theorem dX5_readExpr_48 : decode cX5_readExpr 48 = .ok (.getfield 47, 3) := by decide +kernel
theorem dX5_readExpr_51 : decode cX5_readExpr 51 = .ok (.getfield 182, 3) := by decide +kernel
theorem wm_270 : (Jvm.Cond.fieldLink "GrownKinds$Reader" (182 : Nat) "GrownKinds$Grammar" "firstPart" "[I") ∈ gT := gT_in (List.mem_of_getElem? (i := 270) (by decide +kernel)) (by decide +kernel)
theorem dX5_readExpr_54 : decode cX5_readExpr 54 = .ok (.iload_n 1, 1) := by decide +kernel
theorem dX5_readExpr_55 : decode cX5_readExpr 55 = .ok (.bipush 10, 2) := by decide +kernel
theorem dX5_readExpr_57 : decode cX5_readExpr 57 = .ok (.imul, 1) := by decide +kernel
theorem dX5_readExpr_58 : decode cX5_readExpr 58 = .ok (.iload_n 3, 1) := by decide +kernel
theorem dX5_readExpr_59 : decode cX5_readExpr 59 = .ok (.iadd, 1) := by decide +kernel
theorem dX5_readExpr_60 : decode cX5_readExpr 60 = .ok (.iload 4, 2) := by decide +kernel
theorem dX5_readExpr_62 : decode cX5_readExpr 62 = .ok (.iastore, 1) := by decide +kernel
theorem dX5_readExpr_63 : decode cX5_readExpr 63 = .ok (.aload_n 0, 1) := by decide +kernel
theorem dX5_readExpr_64 : decode cX5_readExpr 64 = .ok (.getfield 47, 3) := by decide +kernel
theorem dX5_readExpr_67 : decode cX5_readExpr 67 = .ok (.getfield 171, 3) := by decide +kernel
theorem dX5_readExpr_70 : decode cX5_readExpr 70 = .ok (.iload_n 1, 1) := by decide +kernel
theorem dX5_readExpr_71 : decode cX5_readExpr 71 = .ok (.iload_n 3, 1) := by decide +kernel
theorem dX5_readExpr_72 : decode cX5_readExpr 72 = .ok (.iconst 1, 1) := by decide +kernel
theorem dX5_readExpr_73 : decode cX5_readExpr 73 = .ok (.iadd, 1) := by decide +kernel
theorem dX5_readExpr_74 : decode cX5_readExpr 74 = .ok (.iastore, 1) := by decide +kernel
theorem dX5_readExpr_75 : decode cX5_readExpr 75 = .ok (.aload_n 0, 1) := by decide +kernel
theorem dX5_readExpr_76 : decode cX5_readExpr 76 = .ok (.ldc 141, 2) := by decide +kernel
theorem dX5_readExpr_78 : decode cX5_readExpr 78 = .ok (.invokevirtual 123, 3) := by decide +kernel
theorem dX5_readExpr_81 : decode cX5_readExpr 81 = .ok (.ifCond .ne 4, 3) := by decide +kernel
theorem dX5_readExpr_85 : decode cX5_readExpr 85 = .ok (.aload_n 0, 1) := by decide +kernel
theorem dX5_readExpr_86 : decode cX5_readExpr 86 = .ok (.invokevirtual 65, 3) := by decide +kernel
theorem dX5_readExpr_89 : decode cX5_readExpr 89 = .ok (.iinc 3 1, 3) := by decide +kernel
theorem dX5_readExpr_92 : decode cX5_readExpr 92 = .ok (.goto (-90), 3) := by decide +kernel
theorem dX5_readExpr_46 : decode cX5_readExpr 46 = .ok (.return_, 1) := by decide +kernel
theorem dX5_readExpr_84 : decode cX5_readExpr 84 = .ok (.return_, 1) := by decide +kernel
theorem dX5_readExpr_95 : decode cX5_readExpr 95 = .ok (.return_, 1) := by decide +kernel
theorem dX5_readPart_0 : decode cX5_readPart 0 = .ok (.aload_n 0, 1) := by decide +kernel
theorem dX5_readPart_1 : decode cX5_readPart 1 = .ok (.invokevirtual 165, 3) := by decide +kernel
theorem dX5_readPart_4 : decode cX5_readPart 4 = .ok (.istore_n 3, 1) := by decide +kernel
theorem dX5_readPart_5 : decode cX5_readPart 5 = .ok (.iload_n 3, 1) := by decide +kernel
theorem dX5_readPart_6 : decode cX5_readPart 6 = .ok (.iconst 2, 1) := by decide +kernel
theorem dX5_readPart_7 : decode cX5_readPart 7 = .ok (.if_icmp .ne 10, 3) := by decide +kernel
theorem dX5_readPart_17 : decode cX5_readPart 17 = .ok (.iconst (-1), 1) := by decide +kernel
theorem dX5_readPart_10 : decode cX5_readPart 10 = .ok (.aload_n 0, 1) := by decide +kernel
theorem dX5_readPart_11 : decode cX5_readPart 11 = .ok (.invokevirtual 168, 3) := by decide +kernel
theorem dX5_readPart_14 : decode cX5_readPart 14 = .ok (.goto 4, 3) := by decide +kernel
theorem dX5_readPart_18 : decode cX5_readPart 18 = .ok (.istore 4, 2) := by decide +kernel
theorem dX5_readPart_20 : decode cX5_readPart 20 = .ok (.aload_n 0, 1) := by decide +kernel
theorem dX5_readPart_21 : decode cX5_readPart 21 = .ok (.iload_n 3, 1) := by decide +kernel
theorem dX5_readPart_22 : decode cX5_readPart 22 = .ok (.iload 4, 2) := by decide +kernel
theorem dX5_readPart_24 : decode cX5_readPart 24 = .ok (.iload_n 1, 1) := by decide +kernel
theorem dX5_readPart_25 : decode cX5_readPart 25 = .ok (.iload_n 2, 1) := by decide +kernel
theorem dX5_readPart_26 : decode cX5_readPart 26 = .ok (.invokevirtual 194, 3) := by decide +kernel
theorem wm_873 : (Jvm.Cond.methodLink "GrownKinds$Reader" (194 : Nat) ({ cls := "GrownKinds$Reader", name := "faultOfPart", desc := "(IIIZ)I" } : Jvm.MethodName)) ∈ gT := gT_in (List.mem_of_getElem? (i := 873) (by decide +kernel)) (by decide +kernel)
theorem wm_875 : (Jvm.Cond.instanceMethod ({ cls := "GrownKinds$Reader", name := "faultOfPart", desc := "(IIIZ)I" } : Jvm.MethodName)) ∈ gT := gT_in (List.mem_of_getElem? (i := 875) (by decide +kernel)) (by decide +kernel)
theorem wm_15 : Cond.selects "GrownKinds$Reader" ⟨"GrownKinds$Reader", "faultOfPart", "(IIIZ)I"⟩ ⟨"GrownKinds$Reader", "faultOfPart", "(IIIZ)I"⟩ ∈ gT := gT_in (List.mem_of_getElem? (i := 15) (by decide +kernel)) (by decide +kernel)
theorem wm_876 : (Jvm.Cond.code ({ cls := "GrownKinds$Reader", name := "faultOfPart", desc := "(IIIZ)I" } : Jvm.MethodName) prog_7_method_19_code (6 : Nat) (Option.some Jvm.ClassFile.FieldType.int)) ∈ gT := gT_in (List.mem_of_getElem? (i := 876) (by decide +kernel)) (by decide +kernel)
theorem dX5_faultOfPart_0 : decode cX5_faultOfPart 0 = .ok (.iload_n 1, 1) := by decide +kernel
theorem dX5_faultOfPart_1 : decode cX5_faultOfPart 1 = .ok (.iconst (-1), 1) := by decide +kernel
theorem dX5_faultOfPart_2 : decode cX5_faultOfPart 2 = .ok (.if_icmp .eq 9, 3) := by decide +kernel
theorem dX5_faultOfPart_11 : decode cX5_faultOfPart 11 = .ok (.iconst 1, 1) := by decide +kernel
theorem dX5_faultOfPart_12 : decode cX5_faultOfPart 12 = .ok (.ireturn, 1) := by decide +kernel
theorem dX5_faultOfPart_5 : decode cX5_faultOfPart 5 = .ok (.iload_n 1, 1) := by decide +kernel
theorem dX5_faultOfPart_6 : decode cX5_faultOfPart 6 = .ok (.bipush 8, 2) := by decide +kernel
theorem dX5_faultOfPart_8 : decode cX5_faultOfPart 8 = .ok (.if_icmp .ne 5, 3) := by decide +kernel
theorem dX5_faultOfPart_13 : decode cX5_faultOfPart 13 = .ok (.iload_n 1, 1) := by decide +kernel
theorem dX5_faultOfPart_14 : decode cX5_faultOfPart 14 = .ok (.iconst 2, 1) := by decide +kernel
theorem dX5_faultOfPart_15 : decode cX5_faultOfPart 15 = .ok (.if_icmp .ne 10, 3) := by decide +kernel
theorem dX5_faultOfPart_18 : decode cX5_faultOfPart 18 = .ok (.iload_n 2, 1) := by decide +kernel
theorem dX5_faultOfPart_19 : decode cX5_faultOfPart 19 = .ok (.iconst (-1), 1) := by decide +kernel
theorem dX5_faultOfPart_20 : decode cX5_faultOfPart 20 = .ok (.if_icmp .ne 5, 3) := by decide +kernel
theorem dX5_faultOfPart_23 : decode cX5_faultOfPart 23 = .ok (.iconst 2, 1) := by decide +kernel
theorem dX5_faultOfPart_24 : decode cX5_faultOfPart 24 = .ok (.ireturn, 1) := by decide +kernel
theorem dX5_faultOfPart_25 : decode cX5_faultOfPart 25 = .ok (.iload_n 1, 1) := by decide +kernel
theorem dX5_faultOfPart_26 : decode cX5_faultOfPart 26 = .ok (.iconst 3, 1) := by decide +kernel
theorem dX5_faultOfPart_27 : decode cX5_faultOfPart 27 = .ok (.if_icmp .lt 13, 3) := by decide +kernel
theorem dX5_faultOfPart_40 : decode cX5_faultOfPart 40 = .ok (.iconst 0, 1) := by decide +kernel
theorem dX5_faultOfPart_30 : decode cX5_faultOfPart 30 = .ok (.iload_n 3, 1) := by decide +kernel
theorem dX5_faultOfPart_31 : decode cX5_faultOfPart 31 = .ok (.bipush 6, 2) := by decide +kernel
theorem dX5_faultOfPart_33 : decode cX5_faultOfPart 33 = .ok (.if_icmp .lt 7, 3) := by decide +kernel
theorem dX5_faultOfPart_36 : decode cX5_faultOfPart 36 = .ok (.iconst 1, 1) := by decide +kernel
theorem dX5_faultOfPart_37 : decode cX5_faultOfPart 37 = .ok (.goto 4, 3) := by decide +kernel
theorem dX5_faultOfPart_41 : decode cX5_faultOfPart 41 = .ok (.istore 5, 2) := by decide +kernel
theorem dX5_faultOfPart_43 : decode cX5_faultOfPart 43 = .ok (.iload 4, 2) := by decide +kernel
theorem dX5_faultOfPart_45 : decode cX5_faultOfPart 45 = .ok (.ifCond .ne 20, 3) := by decide +kernel
theorem dX5_faultOfPart_65 : decode cX5_faultOfPart 65 = .ok (.iconst 3, 1) := by decide +kernel
theorem dX5_faultOfPart_66 : decode cX5_faultOfPart 66 = .ok (.goto 4, 3) := by decide +kernel
theorem dX5_faultOfPart_70 : decode cX5_faultOfPart 70 = .ok (.ireturn, 1) := by decide +kernel
theorem dX5_faultOfPart_48 : decode cX5_faultOfPart 48 = .ok (.iload 5, 2) := by decide +kernel
theorem dX5_faultOfPart_50 : decode cX5_faultOfPart 50 = .ok (.ifCond .ne 15, 3) := by decide +kernel
theorem dX5_faultOfPart_53 : decode cX5_faultOfPart 53 = .ok (.aload_n 0, 1) := by decide +kernel
theorem dX5_faultOfPart_54 : decode cX5_faultOfPart 54 = .ok (.getfield 47, 3) := by decide +kernel
theorem dX5_faultOfPart_57 : decode cX5_faultOfPart 57 = .ok (.getfield 191, 3) := by decide +kernel
theorem wm_230 : (Jvm.Cond.fieldLink "GrownKinds$Reader" (191 : Nat) "GrownKinds$Grammar" "parts" "I") ∈ gT := gT_in (List.mem_of_getElem? (i := 230) (by decide +kernel)) (by decide +kernel)
theorem dX5_faultOfPart_60 : decode cX5_faultOfPart 60 = .ok (.bipush 24, 2) := by decide +kernel
theorem dX5_faultOfPart_62 : decode cX5_faultOfPart 62 = .ok (.if_icmp .lt 7, 3) := by decide +kernel
theorem dX5_faultOfPart_69 : decode cX5_faultOfPart 69 = .ok (.iconst 0, 1) := by decide +kernel
theorem dX5_readPart_29 : decode cX5_readPart 29 = .ok (.istore 5, 2) := by decide +kernel
theorem dX5_readPart_31 : decode cX5_readPart 31 = .ok (.iload 5, 2) := by decide +kernel
theorem dX5_readPart_33 : decode cX5_readPart 33 = .ok (.ifCond .ne 18, 3) := by decide +kernel
theorem dX5_readPart_51 : decode cX5_readPart 51 = .ok (.iconst (-1), 1) := by decide +kernel
theorem dX5_readPart_36 : decode cX5_readPart 36 = .ok (.aload_n 0, 1) := by decide +kernel
theorem dX5_readPart_37 : decode cX5_readPart 37 = .ok (.getfield 47, 3) := by decide +kernel
theorem dX5_readPart_40 : decode cX5_readPart 40 = .ok (.iload_n 3, 1) := by decide +kernel
theorem dX5_readPart_41 : decode cX5_readPart 41 = .ok (.aload_n 0, 1) := by decide +kernel
theorem dX5_readPart_42 : decode cX5_readPart 42 = .ok (.getfield 37, 3) := by decide +kernel
theorem dX5_readPart_45 : decode cX5_readPart 45 = .ok (.invokevirtual 198, 3) := by decide +kernel
theorem wm_877 : (Jvm.Cond.methodLink "GrownKinds$Reader" (198 : Nat) ({ cls := "GrownKinds$Grammar", name := "addPart", desc := "(II)I" } : Jvm.MethodName)) ∈ gT := gT_in (List.mem_of_getElem? (i := 877) (by decide +kernel)) (by decide +kernel)
theorem wm_878 : (Jvm.Cond.instanceMethod ({ cls := "GrownKinds$Grammar", name := "addPart", desc := "(II)I" } : Jvm.MethodName)) ∈ gT := gT_in (List.mem_of_getElem? (i := 878) (by decide +kernel)) (by decide +kernel)
theorem wm_879 : (Jvm.Cond.selects "GrownKinds$Grammar" ({ cls := "GrownKinds$Grammar", name := "addPart", desc := "(II)I" } : Jvm.MethodName) ({ cls := "GrownKinds$Grammar", name := "addPart", desc := "(II)I" } : Jvm.MethodName)) ∈ gT := gT_in (List.mem_of_getElem? (i := 879) (by decide +kernel)) (by decide +kernel)
theorem wm_880 : (Jvm.Cond.code ({ cls := "GrownKinds$Grammar", name := "addPart", desc := "(II)I" } : Jvm.MethodName) prog_4_method_4_code (4 : Nat) (Option.some Jvm.ClassFile.FieldType.int)) ∈ gT := gT_in (List.mem_of_getElem? (i := 880) (by decide +kernel)) (by decide +kernel)
theorem dX2_addPart_0 : decode cX2_addPart 0 = .ok (.aload_n 0, 1) := by decide +kernel
theorem dX2_addPart_1 : decode cX2_addPart 1 = .ok (.getfield 21, 3) := by decide +kernel
theorem dX2_addPart_4 : decode cX2_addPart 4 = .ok (.istore_n 3, 1) := by decide +kernel
theorem dX2_addPart_5 : decode cX2_addPart 5 = .ok (.iload_n 3, 1) := by decide +kernel
theorem dX2_addPart_6 : decode cX2_addPart 6 = .ok (.bipush 24, 2) := by decide +kernel
theorem dX2_addPart_8 : decode cX2_addPart 8 = .ok (.if_icmp .lt 5, 3) := by decide +kernel
theorem dX2_addPart_13 : decode cX2_addPart 13 = .ok (.aload_n 0, 1) := by decide +kernel
theorem dX2_addPart_14 : decode cX2_addPart 14 = .ok (.getfield 27, 3) := by decide +kernel
theorem dX2_addPart_17 : decode cX2_addPart 17 = .ok (.iload_n 3, 1) := by decide +kernel
theorem dX2_addPart_18 : decode cX2_addPart 18 = .ok (.iload_n 1, 1) := by decide +kernel
theorem dX2_addPart_19 : decode cX2_addPart 19 = .ok (.iastore, 1) := by decide +kernel
theorem dX2_addPart_20 : decode cX2_addPart 20 = .ok (.aload_n 0, 1) := by decide +kernel
theorem dX2_addPart_21 : decode cX2_addPart 21 = .ok (.getfield 31, 3) := by decide +kernel
theorem dX2_addPart_24 : decode cX2_addPart 24 = .ok (.iload_n 3, 1) := by decide +kernel
theorem dX2_addPart_25 : decode cX2_addPart 25 = .ok (.iconst 0, 1) := by decide +kernel
theorem dX2_addPart_26 : decode cX2_addPart 26 = .ok (.iastore, 1) := by decide +kernel
theorem dX2_addPart_27 : decode cX2_addPart 27 = .ok (.aload_n 0, 1) := by decide +kernel
theorem dX2_addPart_28 : decode cX2_addPart 28 = .ok (.getfield 34, 3) := by decide +kernel
theorem dX2_addPart_31 : decode cX2_addPart 31 = .ok (.iload_n 3, 1) := by decide +kernel
theorem dX2_addPart_32 : decode cX2_addPart 32 = .ok (.iconst (-1), 1) := by decide +kernel
theorem dX2_addPart_33 : decode cX2_addPart 33 = .ok (.iastore, 1) := by decide +kernel
theorem dX2_addPart_34 : decode cX2_addPart 34 = .ok (.aload_n 0, 1) := by decide +kernel
theorem dX2_addPart_35 : decode cX2_addPart 35 = .ok (.getfield 37, 3) := by decide +kernel
theorem dX2_addPart_38 : decode cX2_addPart 38 = .ok (.iload_n 3, 1) := by decide +kernel
theorem dX2_addPart_39 : decode cX2_addPart 39 = .ok (.iconst (-1), 1) := by decide +kernel
theorem dX2_addPart_40 : decode cX2_addPart 40 = .ok (.iastore, 1) := by decide +kernel
theorem dX2_addPart_41 : decode cX2_addPart 41 = .ok (.aload_n 0, 1) := by decide +kernel
theorem dX2_addPart_42 : decode cX2_addPart 42 = .ok (.getfield 40, 3) := by decide +kernel
theorem dX2_addPart_45 : decode cX2_addPart 45 = .ok (.iload_n 3, 1) := by decide +kernel
theorem dX2_addPart_46 : decode cX2_addPart 46 = .ok (.iload_n 2, 1) := by decide +kernel
theorem dX2_addPart_47 : decode cX2_addPart 47 = .ok (.iastore, 1) := by decide +kernel
theorem dX2_addPart_48 : decode cX2_addPart 48 = .ok (.aload_n 0, 1) := by decide +kernel
theorem dX2_addPart_49 : decode cX2_addPart 49 = .ok (.dup, 1) := by decide +kernel
theorem dX2_addPart_50 : decode cX2_addPart 50 = .ok (.getfield 21, 3) := by decide +kernel
theorem dX2_addPart_53 : decode cX2_addPart 53 = .ok (.iconst 1, 1) := by decide +kernel
theorem dX2_addPart_54 : decode cX2_addPart 54 = .ok (.iadd, 1) := by decide +kernel
theorem dX2_addPart_55 : decode cX2_addPart 55 = .ok (.putfield 21, 3) := by decide +kernel
theorem dX2_addPart_58 : decode cX2_addPart 58 = .ok (.iload_n 3, 1) := by decide +kernel
theorem dX2_addPart_59 : decode cX2_addPart 59 = .ok (.ireturn, 1) := by decide +kernel
theorem dX2_addPart_11 : decode cX2_addPart 11 = .ok (.iconst (-1), 1) := by decide +kernel
theorem dX2_addPart_12 : decode cX2_addPart 12 = .ok (.ireturn, 1) := by decide +kernel
theorem dX5_readPart_48 : decode cX5_readPart 48 = .ok (.goto 4, 3) := by decide +kernel
theorem dX5_readPart_52 : decode cX5_readPart 52 = .ok (.istore 6, 2) := by decide +kernel
theorem dX5_readPart_54 : decode cX5_readPart 54 = .ok (.iload 6, 2) := by decide +kernel
theorem dX5_readPart_56 : decode cX5_readPart 56 = .ok (.iconst (-1), 1) := by decide +kernel
theorem dX5_readPart_57 : decode cX5_readPart 57 = .ok (.if_icmp .ne 20, 3) := by decide +kernel
theorem dX5_readPart_77 : decode cX5_readPart 77 = .ok (.iload_n 3, 1) := by decide +kernel
theorem dX5_readPart_78 : decode cX5_readPart 78 = .ok (.iconst 2, 1) := by decide +kernel
theorem dX5_readPart_79 : decode cX5_readPart 79 = .ok (.if_icmp .ne 15, 3) := by decide +kernel
theorem dX5_readPart_82 : decode cX5_readPart 82 = .ok (.aload_n 0, 1) := by decide +kernel
theorem dX5_readPart_83 : decode cX5_readPart 83 = .ok (.getfield 47, 3) := by decide +kernel
theorem dX5_readPart_86 : decode cX5_readPart 86 = .ok (.getfield 201, 3) := by decide +kernel
theorem wm_246 : (Jvm.Cond.fieldLink "GrownKinds$Reader" (201 : Nat) "GrownKinds$Grammar" "value" "[I") ∈ gT := gT_in (List.mem_of_getElem? (i := 246) (by decide +kernel)) (by decide +kernel)
theorem dX5_readPart_89 : decode cX5_readPart 89 = .ok (.iload 6, 2) := by decide +kernel
theorem dX5_readPart_91 : decode cX5_readPart 91 = .ok (.iload 4, 2) := by decide +kernel
theorem dX5_readPart_93 : decode cX5_readPart 93 = .ok (.iastore, 1) := by decide +kernel
theorem dX5_readPart_94 : decode cX5_readPart 94 = .ok (.aload_n 0, 1) := by decide +kernel
theorem dX5_readPart_95 : decode cX5_readPart 95 = .ok (.invokevirtual 65, 3) := by decide +kernel
theorem dX5_readPart_98 : decode cX5_readPart 98 = .ok (.iload_n 3, 1) := by decide +kernel
theorem dX5_readPart_99 : decode cX5_readPart 99 = .ok (.ifCond .ne 12, 3) := by decide +kernel
theorem dX5_readPart_111 : decode cX5_readPart 111 = .ok (.iload_n 3, 1) := by decide +kernel
theorem dX5_readPart_112 : decode cX5_readPart 112 = .ok (.bipush 7, 2) := by decide +kernel
theorem dX5_readPart_114 : decode cX5_readPart 114 = .ok (.if_icmp .ne 24, 3) := by decide +kernel
theorem dX5_readPart_138 : decode cX5_readPart 138 = .ok (.iload_n 3, 1) := by decide +kernel
theorem dX5_readPart_139 : decode cX5_readPart 139 = .ok (.iconst 3, 1) := by decide +kernel
theorem dX5_readPart_140 : decode cX5_readPart 140 = .ok (.if_icmp .lt 34, 3) := by decide +kernel
theorem dX5_readPart_174 : decode cX5_readPart 174 = .ok (.iload 6, 2) := by decide +kernel
theorem dX5_readPart_176 : decode cX5_readPart 176 = .ok (.ireturn, 1) := by decide +kernel
theorem dX5_readPart_143 : decode cX5_readPart 143 = .ok (.aload_n 0, 1) := by decide +kernel
theorem dX5_readPart_144 : decode cX5_readPart 144 = .ok (.iload 6, 2) := by decide +kernel
theorem dX5_readPart_146 : decode cX5_readPart 146 = .ok (.invokevirtual 207, 3) := by decide +kernel
theorem wm_885 : (Jvm.Cond.methodLink "GrownKinds$Reader" (207 : Nat) ({ cls := "GrownKinds$Reader", name := "readMany", desc := "(I)V" } : Jvm.MethodName)) ∈ gT := gT_in (List.mem_of_getElem? (i := 885) (by decide +kernel)) (by decide +kernel)
theorem wm_887 : (Jvm.Cond.instanceMethod ({ cls := "GrownKinds$Reader", name := "readMany", desc := "(I)V" } : Jvm.MethodName)) ∈ gT := gT_in (List.mem_of_getElem? (i := 887) (by decide +kernel)) (by decide +kernel)
theorem wm_17 : Cond.selects "GrownKinds$Reader" ⟨"GrownKinds$Reader", "readMany", "(I)V"⟩ ⟨"GrownKinds$Reader", "readMany", "(I)V"⟩ ∈ gT := gT_in (List.mem_of_getElem? (i := 17) (by decide +kernel)) (by decide +kernel)
theorem wm_888 : (Jvm.Cond.code ({ cls := "GrownKinds$Reader", name := "readMany", desc := "(I)V" } : Jvm.MethodName) prog_7_method_22_code (2 : Nat) (Option.none : Option Jvm.ClassFile.FieldType)) ∈ gT := gT_in (List.mem_of_getElem? (i := 888) (by decide +kernel)) (by decide +kernel)
theorem dX5_readMany_0 : decode cX5_readMany 0 = .ok (.aload_n 0, 1) := by decide +kernel
theorem dX5_readMany_1 : decode cX5_readMany 1 = .ok (.getfield 28, 3) := by decide +kernel
theorem dX5_readMany_4 : decode cX5_readMany 4 = .ok (.iconst 2, 1) := by decide +kernel
theorem dX5_readMany_5 : decode cX5_readMany 5 = .ok (.if_icmp .eq 4, 3) := by decide +kernel
theorem dX5_readMany_9 : decode cX5_readMany 9 = .ok (.aload_n 0, 1) := by decide +kernel
theorem dX5_readMany_10 : decode cX5_readMany 10 = .ok (.getfield 34, 3) := by decide +kernel
theorem dX5_readMany_13 : decode cX5_readMany 13 = .ok (.iconst 1, 1) := by decide +kernel
theorem dX5_readMany_14 : decode cX5_readMany 14 = .ok (.if_icmp .lt 12, 3) := by decide +kernel
theorem dX5_readMany_26 : decode cX5_readMany 26 = .ok (.aload_n 0, 1) := by decide +kernel
theorem dX5_readMany_27 : decode cX5_readMany 27 = .ok (.iconst 2, 1) := by decide +kernel
theorem dX5_readMany_28 : decode cX5_readMany 28 = .ok (.invokevirtual 149, 3) := by decide +kernel
theorem dX5_readMany_31 : decode cX5_readMany 31 = .ok (.goto 20, 3) := by decide +kernel
theorem dX5_readMany_51 : decode cX5_readMany 51 = .ok (.return_, 1) := by decide +kernel
theorem dX5_readMany_17 : decode cX5_readMany 17 = .ok (.aload_n 0, 1) := by decide +kernel
theorem dX5_readMany_18 : decode cX5_readMany 18 = .ok (.getfield 34, 3) := by decide +kernel
theorem dX5_readMany_21 : decode cX5_readMany 21 = .ok (.bipush 7, 2) := by decide +kernel
theorem dX5_readMany_23 : decode cX5_readMany 23 = .ok (.if_icmp .le 11, 3) := by decide +kernel
theorem dX5_readMany_34 : decode cX5_readMany 34 = .ok (.aload_n 0, 1) := by decide +kernel
theorem dX5_readMany_35 : decode cX5_readMany 35 = .ok (.getfield 47, 3) := by decide +kernel
theorem dX5_readMany_38 : decode cX5_readMany 38 = .ok (.getfield 201, 3) := by decide +kernel
theorem dX5_readMany_41 : decode cX5_readMany 41 = .ok (.iload_n 1, 1) := by decide +kernel
theorem dX5_readMany_42 : decode cX5_readMany 42 = .ok (.aload_n 0, 1) := by decide +kernel
theorem dX5_readMany_43 : decode cX5_readMany 43 = .ok (.getfield 34, 3) := by decide +kernel
theorem dX5_readMany_46 : decode cX5_readMany 46 = .ok (.iastore, 1) := by decide +kernel
theorem dX5_readMany_47 : decode cX5_readMany 47 = .ok (.aload_n 0, 1) := by decide +kernel
theorem dX5_readMany_48 : decode cX5_readMany 48 = .ok (.invokevirtual 65, 3) := by decide +kernel
theorem dX5_readMany_8 : decode cX5_readMany 8 = .ok (.return_, 1) := by decide +kernel
theorem dX5_readPart_149 : decode cX5_readPart 149 = .ok (.aload_n 0, 1) := by decide +kernel
theorem dX5_readPart_150 : decode cX5_readPart 150 = .ok (.getfield 9, 3) := by decide +kernel
theorem dX5_readPart_153 : decode cX5_readPart 153 = .ok (.ifCond .ne 21, 3) := by decide +kernel
theorem dX5_readPart_156 : decode cX5_readPart 156 = .ok (.aload_n 0, 1) := by decide +kernel
theorem dX5_readPart_157 : decode cX5_readPart 157 = .ok (.getfield 47, 3) := by decide +kernel
theorem dX5_readPart_160 : decode cX5_readPart 160 = .ok (.getfield 210, 3) := by decide +kernel
theorem wm_253 : (Jvm.Cond.fieldLink "GrownKinds$Reader" (210 : Nat) "GrownKinds$Grammar" "inside" "[I") ∈ gT := gT_in (List.mem_of_getElem? (i := 253) (by decide +kernel)) (by decide +kernel)
theorem dX5_readPart_163 : decode cX5_readPart 163 = .ok (.iload 6, 2) := by decide +kernel
theorem dX5_readPart_165 : decode cX5_readPart 165 = .ok (.aload_n 0, 1) := by decide +kernel
theorem dX5_readPart_166 : decode cX5_readPart 166 = .ok (.iload_n 1, 1) := by decide +kernel
theorem dX5_readPart_167 : decode cX5_readPart 167 = .ok (.iconst 1, 1) := by decide +kernel
theorem dX5_readPart_168 : decode cX5_readPart 168 = .ok (.iadd, 1) := by decide +kernel
theorem dX5_readPart_169 : decode cX5_readPart 169 = .ok (.iconst 0, 1) := by decide +kernel
theorem dX5_readPart_170 : decode cX5_readPart 170 = .ok (.invokevirtual 185, 3) := by decide +kernel
theorem wm_869 : (Jvm.Cond.methodLink "GrownKinds$Reader" (185 : Nat) ({ cls := "GrownKinds$Reader", name := "readPart", desc := "(IZ)I" } : Jvm.MethodName)) ∈ gT := gT_in (List.mem_of_getElem? (i := 869) (by decide +kernel)) (by decide +kernel)
theorem wm_871 : (Jvm.Cond.instanceMethod ({ cls := "GrownKinds$Reader", name := "readPart", desc := "(IZ)I" } : Jvm.MethodName)) ∈ gT := gT_in (List.mem_of_getElem? (i := 871) (by decide +kernel)) (by decide +kernel)
theorem wm_14 : Cond.selects "GrownKinds$Reader" ⟨"GrownKinds$Reader", "readPart", "(IZ)I"⟩ ⟨"GrownKinds$Reader", "readPart", "(IZ)I"⟩ ∈ gT := gT_in (List.mem_of_getElem? (i := 14) (by decide +kernel)) (by decide +kernel)
theorem wm_872 : (Jvm.Cond.code ({ cls := "GrownKinds$Reader", name := "readPart", desc := "(IZ)I" } : Jvm.MethodName) prog_7_method_20_code (7 : Nat) (Option.some Jvm.ClassFile.FieldType.int)) ∈ gT := gT_in (List.mem_of_getElem? (i := 872) (by decide +kernel)) (by decide +kernel)
theorem dX5_readPart_173 : decode cX5_readPart 173 = .ok (.iastore, 1) := by decide +kernel
theorem dX5_readPart_117 : decode cX5_readPart 117 = .ok (.aload_n 0, 1) := by decide +kernel
theorem dX5_readPart_118 : decode cX5_readPart 118 = .ok (.bipush 6, 2) := by decide +kernel
theorem dX5_readPart_120 : decode cX5_readPart 120 = .ok (.iload 6, 2) := by decide +kernel
theorem dX5_readPart_122 : decode cX5_readPart 122 = .ok (.iadd, 1) := by decide +kernel
theorem dX5_readPart_123 : decode cX5_readPart 123 = .ok (.iload_n 1, 1) := by decide +kernel
theorem dX5_readPart_124 : decode cX5_readPart 124 = .ok (.iconst 1, 1) := by decide +kernel
theorem dX5_readPart_125 : decode cX5_readPart 125 = .ok (.iadd, 1) := by decide +kernel
theorem dX5_readPart_126 : decode cX5_readPart 126 = .ok (.invokevirtual 174, 3) := by decide +kernel
theorem dX5_readPart_129 : decode cX5_readPart 129 = .ok (.aload_n 0, 1) := by decide +kernel
theorem dX5_readPart_130 : decode cX5_readPart 130 = .ok (.bipush 41, 2) := by decide +kernel
theorem dX5_readPart_132 : decode cX5_readPart 132 = .ok (.invokevirtual 162, 3) := by decide +kernel
theorem dX5_readPart_135 : decode cX5_readPart 135 = .ok (.goto 39, 3) := by decide +kernel
theorem dX5_readPart_102 : decode cX5_readPart 102 = .ok (.aload_n 0, 1) := by decide +kernel
theorem dX5_readPart_103 : decode cX5_readPart 103 = .ok (.iload 6, 2) := by decide +kernel
theorem dX5_readPart_105 : decode cX5_readPart 105 = .ok (.invokevirtual 204, 3) := by decide +kernel
theorem wm_881 : (Jvm.Cond.methodLink "GrownKinds$Reader" (204 : Nat) ({ cls := "GrownKinds$Reader", name := "readLetter", desc := "(I)V" } : Jvm.MethodName)) ∈ gT := gT_in (List.mem_of_getElem? (i := 881) (by decide +kernel)) (by decide +kernel)
theorem wm_883 : (Jvm.Cond.instanceMethod ({ cls := "GrownKinds$Reader", name := "readLetter", desc := "(I)V" } : Jvm.MethodName)) ∈ gT := gT_in (List.mem_of_getElem? (i := 883) (by decide +kernel)) (by decide +kernel)
theorem wm_16 : Cond.selects "GrownKinds$Reader" ⟨"GrownKinds$Reader", "readLetter", "(I)V"⟩ ⟨"GrownKinds$Reader", "readLetter", "(I)V"⟩ ∈ gT := gT_in (List.mem_of_getElem? (i := 16) (by decide +kernel)) (by decide +kernel)
theorem wm_884 : (Jvm.Cond.code ({ cls := "GrownKinds$Reader", name := "readLetter", desc := "(I)V" } : Jvm.MethodName) prog_7_method_21_code (2 : Nat) (Option.none : Option Jvm.ClassFile.FieldType)) ∈ gT := gT_in (List.mem_of_getElem? (i := 884) (by decide +kernel)) (by decide +kernel)
theorem dX5_readLetter_0 : decode cX5_readLetter 0 = .ok (.aload_n 0, 1) := by decide +kernel
theorem dX5_readLetter_1 : decode cX5_readLetter 1 = .ok (.getfield 28, 3) := by decide +kernel
theorem dX5_readLetter_4 : decode cX5_readLetter 4 = .ok (.iconst 1, 1) := by decide +kernel
theorem dX5_readLetter_5 : decode cX5_readLetter 5 = .ok (.if_icmp .eq 11, 3) := by decide +kernel
theorem dX5_readLetter_16 : decode cX5_readLetter 16 = .ok (.aload_n 0, 1) := by decide +kernel
theorem dX5_readLetter_17 : decode cX5_readLetter 17 = .ok (.getfield 25, 3) := by decide +kernel
theorem dX5_readLetter_20 : decode cX5_readLetter 20 = .ok (.aload_n 0, 1) := by decide +kernel
theorem dX5_readLetter_21 : decode cX5_readLetter 21 = .ok (.getfield 31, 3) := by decide +kernel
theorem dX5_readLetter_24 : decode cX5_readLetter 24 = .ok (.isub, 1) := by decide +kernel
theorem dX5_readLetter_25 : decode cX5_readLetter 25 = .ok (.iconst 1, 1) := by decide +kernel
theorem dX5_readLetter_26 : decode cX5_readLetter 26 = .ok (.if_icmp .le 11, 3) := by decide +kernel
theorem dX5_readLetter_37 : decode cX5_readLetter 37 = .ok (.aload_n 0, 1) := by decide +kernel
theorem dX5_readLetter_38 : decode cX5_readLetter 38 = .ok (.getfield 47, 3) := by decide +kernel
theorem dX5_readLetter_41 : decode cX5_readLetter 41 = .ok (.getfield 201, 3) := by decide +kernel
theorem dX5_readLetter_44 : decode cX5_readLetter 44 = .ok (.iload_n 1, 1) := by decide +kernel
theorem dX5_readLetter_45 : decode cX5_readLetter 45 = .ok (.aload_n 0, 1) := by decide +kernel
theorem dX5_readLetter_46 : decode cX5_readLetter 46 = .ok (.getfield 18, 3) := by decide +kernel
theorem dX5_readLetter_49 : decode cX5_readLetter 49 = .ok (.aload_n 0, 1) := by decide +kernel
theorem dX5_readLetter_50 : decode cX5_readLetter 50 = .ok (.getfield 31, 3) := by decide +kernel
theorem dX5_readLetter_53 : decode cX5_readLetter 53 = .ok (.baload, 1) := by decide +kernel
theorem dX5_readLetter_54 : decode cX5_readLetter 54 = .ok (.bipush 97, 2) := by decide +kernel
theorem dX5_readLetter_56 : decode cX5_readLetter 56 = .ok (.isub, 1) := by decide +kernel
theorem dX5_readLetter_57 : decode cX5_readLetter 57 = .ok (.iastore, 1) := by decide +kernel
theorem dX5_readLetter_58 : decode cX5_readLetter 58 = .ok (.aload_n 0, 1) := by decide +kernel
theorem dX5_readLetter_59 : decode cX5_readLetter 59 = .ok (.invokevirtual 65, 3) := by decide +kernel
theorem dX5_readLetter_62 : decode cX5_readLetter 62 = .ok (.return_, 1) := by decide +kernel
theorem dX5_readLetter_29 : decode cX5_readLetter 29 = .ok (.aload_n 0, 1) := by decide +kernel
theorem dX5_readLetter_30 : decode cX5_readLetter 30 = .ok (.iconst 2, 1) := by decide +kernel
theorem dX5_readLetter_31 : decode cX5_readLetter 31 = .ok (.invokevirtual 149, 3) := by decide +kernel
theorem dX5_readLetter_34 : decode cX5_readLetter 34 = .ok (.goto 28, 3) := by decide +kernel
theorem dX5_readLetter_8 : decode cX5_readLetter 8 = .ok (.aload_n 0, 1) := by decide +kernel
theorem dX5_readLetter_9 : decode cX5_readLetter 9 = .ok (.iconst 1, 1) := by decide +kernel
theorem dX5_readLetter_10 : decode cX5_readLetter 10 = .ok (.invokevirtual 149, 3) := by decide +kernel
theorem dX5_readLetter_13 : decode cX5_readLetter 13 = .ok (.goto 49, 3) := by decide +kernel
theorem dX5_readPart_108 : decode cX5_readPart 108 = .ok (.goto 66, 3) := by decide +kernel
theorem dX5_readPart_60 : decode cX5_readPart 60 = .ok (.aload_n 0, 1) := by decide +kernel
theorem dX5_readPart_61 : decode cX5_readPart 61 = .ok (.iload 5, 2) := by decide +kernel
theorem dX5_readPart_63 : decode cX5_readPart 63 = .ok (.ifCond .ne 7, 3) := by decide +kernel
theorem dX5_readPart_70 : decode cX5_readPart 70 = .ok (.iload 5, 2) := by decide +kernel
theorem dX5_readPart_72 : decode cX5_readPart 72 = .ok (.invokevirtual 149, 3) := by decide +kernel
theorem dX5_readPart_75 : decode cX5_readPart 75 = .ok (.iconst (-1), 1) := by decide +kernel
theorem dX5_readPart_76 : decode cX5_readPart 76 = .ok (.ireturn, 1) := by decide +kernel
theorem dX5_readPart_66 : decode cX5_readPart 66 = .ok (.iconst 3, 1) := by decide +kernel
theorem dX5_readPart_67 : decode cX5_readPart 67 = .ok (.goto 5, 3) := by decide +kernel
theorem dX5_readTerm_0 : decode cX5_readTerm 0 = .ok (.aload_n 0, 1) := by decide +kernel
theorem dX5_readTerm_1 : decode cX5_readTerm 1 = .ok (.iload_n 1, 1) := by decide +kernel
theorem dX5_readTerm_2 : decode cX5_readTerm 2 = .ok (.iload_n 2, 1) := by decide +kernel
theorem dX5_readTerm_3 : decode cX5_readTerm 3 = .ok (.invokevirtual 185, 3) := by decide +kernel
theorem dX5_readTerm_6 : decode cX5_readTerm 6 = .ok (.istore_n 3, 1) := by decide +kernel
theorem dX5_readTerm_7 : decode cX5_readTerm 7 = .ok (.iload_n 3, 1) := by decide +kernel
theorem dX5_readTerm_8 : decode cX5_readTerm 8 = .ok (.istore 4, 2) := by decide +kernel
theorem dX5_readTerm_10 : decode cX5_readTerm 10 = .ok (.iconst 0, 1) := by decide +kernel
theorem dX5_readTerm_11 : decode cX5_readTerm 11 = .ok (.istore 5, 2) := by decide +kernel
theorem dX5_readTerm_13 : decode cX5_readTerm 13 = .ok (.iload 5, 2) := by decide +kernel
theorem dX5_readTerm_15 : decode cX5_readTerm 15 = .ok (.bipush 24, 2) := by decide +kernel
theorem dX5_readTerm_17 : decode cX5_readTerm 17 = .ok (.if_icmp .ge 66, 3) := by decide +kernel
theorem dX5_readTerm_20 : decode cX5_readTerm 20 = .ok (.aload_n 0, 1) := by decide +kernel
theorem dX5_readTerm_21 : decode cX5_readTerm 21 = .ok (.getfield 9, 3) := by decide +kernel
theorem dX5_readTerm_24 : decode cX5_readTerm 24 = .ok (.ifCond .ne 59, 3) := by decide +kernel
theorem dX5_readTerm_27 : decode cX5_readTerm 27 = .ok (.aload_n 0, 1) := by decide +kernel
theorem dX5_readTerm_28 : decode cX5_readTerm 28 = .ok (.ldc 143, 2) := by decide +kernel
theorem dX5_readTerm_30 : decode cX5_readTerm 30 = .ok (.invokevirtual 123, 3) := by decide +kernel
theorem dX5_readTerm_33 : decode cX5_readTerm 33 = .ok (.ifCond .eq 50, 3) := by decide +kernel
theorem dX5_readTerm_36 : decode cX5_readTerm 36 = .ok (.aload_n 0, 1) := by decide +kernel
theorem dX5_readTerm_37 : decode cX5_readTerm 37 = .ok (.invokevirtual 65, 3) := by decide +kernel
theorem dX5_readTerm_40 : decode cX5_readTerm 40 = .ok (.aload_n 0, 1) := by decide +kernel
theorem dX5_readTerm_41 : decode cX5_readTerm 41 = .ok (.iload_n 1, 1) := by decide +kernel
theorem dX5_readTerm_42 : decode cX5_readTerm 42 = .ok (.iconst 0, 1) := by decide +kernel
theorem dX5_readTerm_43 : decode cX5_readTerm 43 = .ok (.invokevirtual 185, 3) := by decide +kernel
theorem dX5_readTerm_46 : decode cX5_readTerm 46 = .ok (.istore 6, 2) := by decide +kernel
theorem dX5_readTerm_48 : decode cX5_readTerm 48 = .ok (.aload_n 0, 1) := by decide +kernel
theorem dX5_readTerm_49 : decode cX5_readTerm 49 = .ok (.getfield 9, 3) := by decide +kernel
theorem dX5_readTerm_52 : decode cX5_readTerm 52 = .ok (.ifCond .ne 21, 3) := by decide +kernel
theorem dX5_readTerm_73 : decode cX5_readTerm 73 = .ok (.iload 6, 2) := by decide +kernel
theorem dX5_readTerm_75 : decode cX5_readTerm 75 = .ok (.istore 4, 2) := by decide +kernel
theorem dX5_readTerm_77 : decode cX5_readTerm 77 = .ok (.iinc 5 1, 3) := by decide +kernel
theorem dX5_readTerm_80 : decode cX5_readTerm 80 = .ok (.goto (-67), 3) := by decide +kernel
theorem dX5_readTerm_55 : decode cX5_readTerm 55 = .ok (.iload 4, 2) := by decide +kernel
theorem dX5_readTerm_57 : decode cX5_readTerm 57 = .ok (.iconst (-1), 1) := by decide +kernel
theorem dX5_readTerm_58 : decode cX5_readTerm 58 = .ok (.if_icmp .eq 15, 3) := by decide +kernel
theorem dX5_readTerm_61 : decode cX5_readTerm 61 = .ok (.aload_n 0, 1) := by decide +kernel
theorem dX5_readTerm_62 : decode cX5_readTerm 62 = .ok (.getfield 47, 3) := by decide +kernel
theorem dX5_readTerm_65 : decode cX5_readTerm 65 = .ok (.getfield 188, 3) := by decide +kernel
theorem wm_258 : (Jvm.Cond.fieldLink "GrownKinds$Reader" (188 : Nat) "GrownKinds$Grammar" "next" "[I") ∈ gT := gT_in (List.mem_of_getElem? (i := 258) (by decide +kernel)) (by decide +kernel)
theorem dX5_readTerm_68 : decode cX5_readTerm 68 = .ok (.iload 4, 2) := by decide +kernel
theorem dX5_readTerm_70 : decode cX5_readTerm 70 = .ok (.iload 6, 2) := by decide +kernel
theorem dX5_readTerm_72 : decode cX5_readTerm 72 = .ok (.iastore, 1) := by decide +kernel
theorem dX5_readTerm_83 : decode cX5_readTerm 83 = .ok (.iload_n 3, 1) := by decide +kernel
theorem dX5_readTerm_84 : decode cX5_readTerm 84 = .ok (.ireturn, 1) := by decide +kernel
theorem dX5_readLine_77 : decode cX5_readLine 77 = .ok (.aload_n 0, 1) := by decide +kernel
theorem dX5_readLine_78 : decode cX5_readLine 78 = .ok (.bipush 59, 2) := by decide +kernel
theorem dX5_readLine_80 : decode cX5_readLine 80 = .ok (.invokevirtual 162, 3) := by decide +kernel
theorem dX5_readLine_83 : decode cX5_readLine 83 = .ok (.aload_n 0, 1) := by decide +kernel
theorem dX5_readLine_84 : decode cX5_readLine 84 = .ok (.getfield 47, 3) := by decide +kernel
theorem dX5_readLine_87 : decode cX5_readLine 87 = .ok (.dup, 1) := by decide +kernel
theorem dX5_readLine_88 : decode cX5_readLine 88 = .ok (.getfield 83, 3) := by decide +kernel
theorem dX5_readLine_91 : decode cX5_readLine 91 = .ok (.iconst 1, 1) := by decide +kernel
theorem dX5_readLine_92 : decode cX5_readLine 92 = .ok (.iadd, 1) := by decide +kernel
theorem dX5_readLine_93 : decode cX5_readLine 93 = .ok (.putfield 83, 3) := by decide +kernel
theorem dX5_readLine_96 : decode cX5_readLine 96 = .ok (.return_, 1) := by decide +kernel
theorem dX5_readLine_8 : decode cX5_readLine 8 = .ok (.aload_n 0, 1) := by decide +kernel
theorem dX5_readLine_9 : decode cX5_readLine 9 = .ok (.iconst 1, 1) := by decide +kernel
theorem dX5_readLine_10 : decode cX5_readLine 10 = .ok (.invokevirtual 149, 3) := by decide +kernel
theorem dX5_readLine_13 : decode cX5_readLine 13 = .ok (.return_, 1) := by decide +kernel
theorem dX5_read_78 : decode cX5_read 78 = .ok (.iinc 3 1, 3) := by decide +kernel
theorem dX5_read_81 : decode cX5_read 81 = .ok (.goto (-29), 3) := by decide +kernel
theorem dX5_read_84 : decode cX5_read 84 = .ok (.aload_n 0, 1) := by decide +kernel
theorem dX5_read_85 : decode cX5_read 85 = .ok (.getfield 9, 3) := by decide +kernel
theorem dX5_read_88 : decode cX5_read 88 = .ok (.ifCond .ne 14, 3) := by decide +kernel
theorem dX5_read_91 : decode cX5_read 91 = .ok (.aload_n 0, 1) := by decide +kernel
theorem dX5_read_92 : decode cX5_read 92 = .ok (.getfield 56, 3) := by decide +kernel
theorem dX5_read_95 : decode cX5_read 95 = .ok (.invokevirtual 74, 3) := by decide +kernel
theorem wm_889 : (Jvm.Cond.methodLink "GrownKinds$Reader" (74 : Nat) ({ cls := "GrownKinds$Leaning", name := "study", desc := "()V" } : Jvm.MethodName)) ∈ gT := gT_in (List.mem_of_getElem? (i := 889) (by decide +kernel)) (by decide +kernel)
theorem wm_890 : (Jvm.Cond.instanceMethod ({ cls := "GrownKinds$Leaning", name := "study", desc := "()V" } : Jvm.MethodName)) ∈ gT := gT_in (List.mem_of_getElem? (i := 890) (by decide +kernel)) (by decide +kernel)
theorem wm_891 : (Jvm.Cond.selects "GrownKinds$Leaning" ({ cls := "GrownKinds$Leaning", name := "study", desc := "()V" } : Jvm.MethodName) ({ cls := "GrownKinds$Leaning", name := "study", desc := "()V" } : Jvm.MethodName)) ∈ gT := gT_in (List.mem_of_getElem? (i := 891) (by decide +kernel)) (by decide +kernel)
theorem wm_892 : (Jvm.Cond.code ({ cls := "GrownKinds$Leaning", name := "study", desc := "()V" } : Jvm.MethodName) prog_5_method_2_code (2 : Nat) (Option.none : Option Jvm.ClassFile.FieldType)) ∈ gT := gT_in (List.mem_of_getElem? (i := 892) (by decide +kernel)) (by decide +kernel)
theorem dX3_study_0 : decode cX3_study 0 = .ok (.aload_n 0, 1) := by decide +kernel
theorem dX3_study_1 : decode cX3_study 1 = .ok (.invokevirtual 41, 3) := by decide +kernel
theorem wm_893 : (Jvm.Cond.methodLink "GrownKinds$Leaning" (41 : Nat) ({ cls := "GrownKinds$Leaning", name := "findEmpty", desc := "()V" } : Jvm.MethodName)) ∈ gT := gT_in (List.mem_of_getElem? (i := 893) (by decide +kernel)) (by decide +kernel)
theorem wm_895 : (Jvm.Cond.instanceMethod ({ cls := "GrownKinds$Leaning", name := "findEmpty", desc := "()V" } : Jvm.MethodName)) ∈ gT := gT_in (List.mem_of_getElem? (i := 895) (by decide +kernel)) (by decide +kernel)
theorem wm_18 : Cond.selects "GrownKinds$Leaning" ⟨"GrownKinds$Leaning", "findEmpty", "()V"⟩ ⟨"GrownKinds$Leaning", "findEmpty", "()V"⟩ ∈ gT := gT_in (List.mem_of_getElem? (i := 18) (by decide +kernel)) (by decide +kernel)
theorem wm_896 : (Jvm.Cond.code ({ cls := "GrownKinds$Leaning", name := "findEmpty", desc := "()V" } : Jvm.MethodName) prog_5_method_4_code (6 : Nat) (Option.none : Option Jvm.ClassFile.FieldType)) ∈ gT := gT_in (List.mem_of_getElem? (i := 896) (by decide +kernel)) (by decide +kernel)
theorem dX3_findEmpty_0 : decode cX3_findEmpty 0 = .ok (.aload_n 0, 1) := by decide +kernel
theorem dX3_findEmpty_1 : decode cX3_findEmpty 1 = .ok (.iconst 0, 1) := by decide +kernel
theorem dX3_findEmpty_2 : decode cX3_findEmpty 2 = .ok (.putfield 9, 3) := by decide +kernel
theorem dX3_findEmpty_5 : decode cX3_findEmpty 5 = .ok (.aload_n 0, 1) := by decide +kernel
theorem dX3_findEmpty_6 : decode cX3_findEmpty 6 = .ok (.iconst 0, 1) := by decide +kernel
theorem dX3_findEmpty_7 : decode cX3_findEmpty 7 = .ok (.putfield 15, 3) := by decide +kernel
theorem dX3_findEmpty_10 : decode cX3_findEmpty 10 = .ok (.iconst 1, 1) := by decide +kernel
theorem dX3_findEmpty_11 : decode cX3_findEmpty 11 = .ok (.istore_n 1, 1) := by decide +kernel
theorem dX3_findEmpty_12 : decode cX3_findEmpty 12 = .ok (.iconst 0, 1) := by decide +kernel
theorem dX3_findEmpty_13 : decode cX3_findEmpty 13 = .ok (.istore_n 2, 1) := by decide +kernel
theorem dX3_findEmpty_14 : decode cX3_findEmpty 14 = .ok (.iload_n 2, 1) := by decide +kernel
theorem dX3_findEmpty_15 : decode cX3_findEmpty 15 = .ok (.bipush 54, 2) := by decide +kernel
theorem dX3_findEmpty_17 : decode cX3_findEmpty 17 = .ok (.if_icmp .gt 142, 3) := by decide +kernel
theorem dX3_findEmpty_20 : decode cX3_findEmpty 20 = .ok (.iload_n 1, 1) := by decide +kernel
theorem dX3_findEmpty_21 : decode cX3_findEmpty 21 = .ok (.ifCond .eq 138, 3) := by decide +kernel
theorem dX3_findEmpty_24 : decode cX3_findEmpty 24 = .ok (.aload_n 0, 1) := by decide +kernel
theorem dX3_findEmpty_25 : decode cX3_findEmpty 25 = .ok (.getfield 9, 3) := by decide +kernel
theorem dX3_findEmpty_28 : decode cX3_findEmpty 28 = .ok (.istore_n 3, 1) := by decide +kernel
theorem dX3_findEmpty_29 : decode cX3_findEmpty 29 = .ok (.aload_n 0, 1) := by decide +kernel
theorem dX3_findEmpty_30 : decode cX3_findEmpty 30 = .ok (.getfield 15, 3) := by decide +kernel
theorem dX3_findEmpty_33 : decode cX3_findEmpty 33 = .ok (.istore 4, 2) := by decide +kernel
theorem dX3_findEmpty_35 : decode cX3_findEmpty 35 = .ok (.aload_n 0, 1) := by decide +kernel
theorem dX3_findEmpty_36 : decode cX3_findEmpty 36 = .ok (.getfield 37, 3) := by decide +kernel
theorem dX3_findEmpty_39 : decode cX3_findEmpty 39 = .ok (.getfield 44, 3) := by decide +kernel
theorem wm_227 : (Jvm.Cond.fieldLink "GrownKinds$Leaning" (44 : Nat) "GrownKinds$Grammar" "parts" "I") ∈ gT := gT_in (List.mem_of_getElem? (i := 227) (by decide +kernel)) (by decide +kernel)
theorem dX3_findEmpty_42 : decode cX3_findEmpty 42 = .ok (.iconst 1, 1) := by decide +kernel
theorem dX3_findEmpty_43 : decode cX3_findEmpty 43 = .ok (.isub, 1) := by decide +kernel
theorem dX3_findEmpty_44 : decode cX3_findEmpty 44 = .ok (.istore 5, 2) := by decide +kernel
theorem dX3_findEmpty_46 : decode cX3_findEmpty 46 = .ok (.iload 5, 2) := by decide +kernel
theorem dX3_findEmpty_48 : decode cX3_findEmpty 48 = .ok (.ifCond .lt 35, 3) := by decide +kernel
theorem dX3_findEmpty_51 : decode cX3_findEmpty 51 = .ok (.aload_n 0, 1) := by decide +kernel
theorem dX3_findEmpty_52 : decode cX3_findEmpty 52 = .ok (.dup, 1) := by decide +kernel
theorem dX3_findEmpty_53 : decode cX3_findEmpty 53 = .ok (.getfield 9, 3) := by decide +kernel
theorem dX3_findEmpty_56 : decode cX3_findEmpty 56 = .ok (.aload_n 0, 1) := by decide +kernel
theorem dX3_findEmpty_57 : decode cX3_findEmpty 57 = .ok (.iload 5, 2) := by decide +kernel
theorem dX3_findEmpty_59 : decode cX3_findEmpty 59 = .ok (.invokevirtual 64, 3) := by decide +kernel
theorem wm_897 : (Jvm.Cond.methodLink "GrownKinds$Leaning" (64 : Nat) ({ cls := "GrownKinds$Leaning", name := "partIsEmpty", desc := "(I)Z" } : Jvm.MethodName)) ∈ gT := gT_in (List.mem_of_getElem? (i := 897) (by decide +kernel)) (by decide +kernel)
theorem wm_899 : (Jvm.Cond.instanceMethod ({ cls := "GrownKinds$Leaning", name := "partIsEmpty", desc := "(I)Z" } : Jvm.MethodName)) ∈ gT := gT_in (List.mem_of_getElem? (i := 899) (by decide +kernel)) (by decide +kernel)
theorem wm_19 : Cond.selects "GrownKinds$Leaning" ⟨"GrownKinds$Leaning", "partIsEmpty", "(I)Z"⟩ ⟨"GrownKinds$Leaning", "partIsEmpty", "(I)Z"⟩ ∈ gT := gT_in (List.mem_of_getElem? (i := 19) (by decide +kernel)) (by decide +kernel)
theorem wm_900 : (Jvm.Cond.code ({ cls := "GrownKinds$Leaning", name := "partIsEmpty", desc := "(I)Z" } : Jvm.MethodName) prog_5_method_5_code (3 : Nat) (Option.some Jvm.ClassFile.FieldType.boolean)) ∈ gT := gT_in (List.mem_of_getElem? (i := 900) (by decide +kernel)) (by decide +kernel)
theorem dX3_partIsEmpty_0 : decode cX3_partIsEmpty 0 = .ok (.aload_n 0, 1) := by decide +kernel
theorem dX3_partIsEmpty_1 : decode cX3_partIsEmpty 1 = .ok (.getfield 37, 3) := by decide +kernel
theorem dX3_partIsEmpty_4 : decode cX3_partIsEmpty 4 = .ok (.getfield 71, 3) := by decide +kernel
theorem wm_236 : (Jvm.Cond.fieldLink "GrownKinds$Leaning" (71 : Nat) "GrownKinds$Grammar" "type" "[I") ∈ gT := gT_in (List.mem_of_getElem? (i := 236) (by decide +kernel)) (by decide +kernel)
theorem dX3_partIsEmpty_7 : decode cX3_partIsEmpty 7 = .ok (.iload_n 1, 1) := by decide +kernel
theorem dX3_partIsEmpty_8 : decode cX3_partIsEmpty 8 = .ok (.iaload, 1) := by decide +kernel
theorem dX3_partIsEmpty_9 : decode cX3_partIsEmpty 9 = .ok (.istore_n 2, 1) := by decide +kernel
theorem dX3_partIsEmpty_10 : decode cX3_partIsEmpty 10 = .ok (.iload_n 2, 1) := by decide +kernel
theorem dX3_partIsEmpty_11 : decode cX3_partIsEmpty 11 = .ok (.ifCond .eq 8, 3) := by decide +kernel
theorem dX3_partIsEmpty_14 : decode cX3_partIsEmpty 14 = .ok (.iload_n 2, 1) := by decide +kernel
theorem dX3_partIsEmpty_15 : decode cX3_partIsEmpty 15 = .ok (.iconst 1, 1) := by decide +kernel
theorem dX3_partIsEmpty_16 : decode cX3_partIsEmpty 16 = .ok (.if_icmp .ne 14, 3) := by decide +kernel
theorem dX3_partIsEmpty_19 : decode cX3_partIsEmpty 19 = .ok (.iload_n 2, 1) := by decide +kernel
theorem dX3_partIsEmpty_20 : decode cX3_partIsEmpty 20 = .ok (.iconst 1, 1) := by decide +kernel
theorem dX3_partIsEmpty_21 : decode cX3_partIsEmpty 21 = .ok (.if_icmp .ne 7, 3) := by decide +kernel
theorem dX3_partIsEmpty_28 : decode cX3_partIsEmpty 28 = .ok (.iconst 0, 1) := by decide +kernel
theorem dX3_partIsEmpty_29 : decode cX3_partIsEmpty 29 = .ok (.ireturn, 1) := by decide +kernel
theorem dX3_partIsEmpty_24 : decode cX3_partIsEmpty 24 = .ok (.iconst 1, 1) := by decide +kernel
theorem dX3_partIsEmpty_25 : decode cX3_partIsEmpty 25 = .ok (.goto 4, 3) := by decide +kernel
theorem dX3_partIsEmpty_30 : decode cX3_partIsEmpty 30 = .ok (.iload_n 2, 1) := by decide +kernel
theorem dX3_partIsEmpty_31 : decode cX3_partIsEmpty 31 = .ok (.iconst 2, 1) := by decide +kernel
theorem dX3_partIsEmpty_32 : decode cX3_partIsEmpty 32 = .ok (.if_icmp .ne 28, 3) := by decide +kernel
theorem dX3_partIsEmpty_60 : decode cX3_partIsEmpty 60 = .ok (.iload_n 2, 1) := by decide +kernel
theorem dX3_partIsEmpty_61 : decode cX3_partIsEmpty 61 = .ok (.bipush 7, 2) := by decide +kernel
theorem dX3_partIsEmpty_63 : decode cX3_partIsEmpty 63 = .ok (.if_icmp .ne 12, 3) := by decide +kernel
theorem dX3_partIsEmpty_75 : decode cX3_partIsEmpty 75 = .ok (.iload_n 2, 1) := by decide +kernel
theorem dX3_partIsEmpty_76 : decode cX3_partIsEmpty 76 = .ok (.bipush 6, 2) := by decide +kernel
theorem dX3_partIsEmpty_78 : decode cX3_partIsEmpty 78 = .ok (.if_icmp .eq 15, 3) := by decide +kernel
theorem dX3_partIsEmpty_93 : decode cX3_partIsEmpty 93 = .ok (.aload_n 0, 1) := by decide +kernel
theorem dX3_partIsEmpty_94 : decode cX3_partIsEmpty 94 = .ok (.aload_n 0, 1) := by decide +kernel
theorem dX3_partIsEmpty_95 : decode cX3_partIsEmpty 95 = .ok (.getfield 37, 3) := by decide +kernel
theorem dX3_partIsEmpty_98 : decode cX3_partIsEmpty 98 = .ok (.getfield 77, 3) := by decide +kernel
theorem wm_249 : (Jvm.Cond.fieldLink "GrownKinds$Leaning" (77 : Nat) "GrownKinds$Grammar" "inside" "[I") ∈ gT := gT_in (List.mem_of_getElem? (i := 249) (by decide +kernel)) (by decide +kernel)
theorem dX3_partIsEmpty_101 : decode cX3_partIsEmpty 101 = .ok (.iload_n 1, 1) := by decide +kernel
theorem dX3_partIsEmpty_102 : decode cX3_partIsEmpty 102 = .ok (.iaload, 1) := by decide +kernel
theorem dX3_partIsEmpty_103 : decode cX3_partIsEmpty 103 = .ok (.invokevirtual 80, 3) := by decide +kernel
theorem wm_917 : (Jvm.Cond.methodLink "GrownKinds$Leaning" (80 : Nat) ({ cls := "GrownKinds$Leaning", name := "isEmpty", desc := "(I)Z" } : Jvm.MethodName)) ∈ gT := gT_in (List.mem_of_getElem? (i := 917) (by decide +kernel)) (by decide +kernel)
theorem wm_918 : (Jvm.Cond.instanceMethod ({ cls := "GrownKinds$Leaning", name := "isEmpty", desc := "(I)Z" } : Jvm.MethodName)) ∈ gT := gT_in (List.mem_of_getElem? (i := 918) (by decide +kernel)) (by decide +kernel)
theorem wm_919 : (Jvm.Cond.selects "GrownKinds$Leaning" ({ cls := "GrownKinds$Leaning", name := "isEmpty", desc := "(I)Z" } : Jvm.MethodName) ({ cls := "GrownKinds$Leaning", name := "isEmpty", desc := "(I)Z" } : Jvm.MethodName)) ∈ gT := gT_in (List.mem_of_getElem? (i := 919) (by decide +kernel)) (by decide +kernel)
theorem wm_920 : (Jvm.Cond.code ({ cls := "GrownKinds$Leaning", name := "isEmpty", desc := "(I)Z" } : Jvm.MethodName) prog_5_method_6_code (2 : Nat) (Option.some Jvm.ClassFile.FieldType.boolean)) ∈ gT := gT_in (List.mem_of_getElem? (i := 920) (by decide +kernel)) (by decide +kernel)
theorem dX3_isEmpty_0 : decode cX3_isEmpty 0 = .ok (.iload_n 1, 1) := by decide +kernel
theorem dX3_isEmpty_1 : decode cX3_isEmpty 1 = .ok (.ifCond .lt 18, 3) := by decide +kernel
theorem dX3_isEmpty_19 : decode cX3_isEmpty 19 = .ok (.iconst 0, 1) := by decide +kernel
theorem dX3_isEmpty_20 : decode cX3_isEmpty 20 = .ok (.ireturn, 1) := by decide +kernel
theorem dX3_isEmpty_4 : decode cX3_isEmpty 4 = .ok (.aload_n 0, 1) := by decide +kernel
theorem dX3_isEmpty_5 : decode cX3_isEmpty 5 = .ok (.getfield 9, 3) := by decide +kernel
theorem dX3_isEmpty_8 : decode cX3_isEmpty 8 = .ok (.iload_n 1, 1) := by decide +kernel
theorem dX3_isEmpty_9 : decode cX3_isEmpty 9 = .ok (.ishr, 1) := by decide +kernel
theorem dX3_isEmpty_10 : decode cX3_isEmpty 10 = .ok (.iconst 1, 1) := by decide +kernel
theorem dX3_isEmpty_11 : decode cX3_isEmpty 11 = .ok (.iand, 1) := by decide +kernel
theorem dX3_isEmpty_12 : decode cX3_isEmpty 12 = .ok (.ifCond .eq 7, 3) := by decide +kernel
theorem dX3_isEmpty_15 : decode cX3_isEmpty 15 = .ok (.iconst 1, 1) := by decide +kernel
theorem dX3_isEmpty_16 : decode cX3_isEmpty 16 = .ok (.goto 4, 3) := by decide +kernel
theorem dX3_partIsEmpty_106 : decode cX3_partIsEmpty 106 = .ok (.ifCond .eq 7, 3) := by decide +kernel
theorem dX3_partIsEmpty_113 : decode cX3_partIsEmpty 113 = .ok (.iconst 0, 1) := by decide +kernel
theorem dX3_partIsEmpty_114 : decode cX3_partIsEmpty 114 = .ok (.ireturn, 1) := by decide +kernel
theorem dX3_partIsEmpty_109 : decode cX3_partIsEmpty 109 = .ok (.iconst 1, 1) := by decide +kernel
theorem dX3_partIsEmpty_110 : decode cX3_partIsEmpty 110 = .ok (.goto 4, 3) := by decide +kernel
theorem dX3_partIsEmpty_81 : decode cX3_partIsEmpty 81 = .ok (.aload_n 0, 1) := by decide +kernel
theorem dX3_partIsEmpty_82 : decode cX3_partIsEmpty 82 = .ok (.getfield 37, 3) := by decide +kernel
theorem dX3_partIsEmpty_85 : decode cX3_partIsEmpty 85 = .ok (.getfield 74, 3) := by decide +kernel
theorem wm_242 : (Jvm.Cond.fieldLink "GrownKinds$Leaning" (74 : Nat) "GrownKinds$Grammar" "value" "[I") ∈ gT := gT_in (List.mem_of_getElem? (i := 242) (by decide +kernel)) (by decide +kernel)
theorem dX3_partIsEmpty_88 : decode cX3_partIsEmpty 88 = .ok (.iload_n 1, 1) := by decide +kernel
theorem dX3_partIsEmpty_89 : decode cX3_partIsEmpty 89 = .ok (.iaload, 1) := by decide +kernel
theorem dX3_partIsEmpty_90 : decode cX3_partIsEmpty 90 = .ok (.ifCond .eq 19, 3) := by decide +kernel
theorem dX3_partIsEmpty_66 : decode cX3_partIsEmpty 66 = .ok (.aload_n 0, 1) := by decide +kernel
theorem dX3_partIsEmpty_67 : decode cX3_partIsEmpty 67 = .ok (.bipush 6, 2) := by decide +kernel
theorem dX3_partIsEmpty_69 : decode cX3_partIsEmpty 69 = .ok (.iload_n 1, 1) := by decide +kernel
theorem dX3_partIsEmpty_70 : decode cX3_partIsEmpty 70 = .ok (.iadd, 1) := by decide +kernel
theorem dX3_partIsEmpty_71 : decode cX3_partIsEmpty 71 = .ok (.invokevirtual 68, 3) := by decide +kernel
theorem wm_901 : (Jvm.Cond.methodLink "GrownKinds$Leaning" (68 : Nat) ({ cls := "GrownKinds$Leaning", name := "exprIsEmpty", desc := "(I)Z" } : Jvm.MethodName)) ∈ gT := gT_in (List.mem_of_getElem? (i := 901) (by decide +kernel)) (by decide +kernel)
theorem wm_903 : (Jvm.Cond.instanceMethod ({ cls := "GrownKinds$Leaning", name := "exprIsEmpty", desc := "(I)Z" } : Jvm.MethodName)) ∈ gT := gT_in (List.mem_of_getElem? (i := 903) (by decide +kernel)) (by decide +kernel)
theorem wm_20 : Cond.selects "GrownKinds$Leaning" ⟨"GrownKinds$Leaning", "exprIsEmpty", "(I)Z"⟩ ⟨"GrownKinds$Leaning", "exprIsEmpty", "(I)Z"⟩ ∈ gT := gT_in (List.mem_of_getElem? (i := 20) (by decide +kernel)) (by decide +kernel)
theorem wm_904 : (Jvm.Cond.code ({ cls := "GrownKinds$Leaning", name := "exprIsEmpty", desc := "(I)Z" } : Jvm.MethodName) prog_5_method_7_code (3 : Nat) (Option.some Jvm.ClassFile.FieldType.boolean)) ∈ gT := gT_in (List.mem_of_getElem? (i := 904) (by decide +kernel)) (by decide +kernel)
theorem dX3_exprIsEmpty_0 : decode cX3_exprIsEmpty 0 = .ok (.iconst 0, 1) := by decide +kernel
theorem dX3_exprIsEmpty_1 : decode cX3_exprIsEmpty 1 = .ok (.istore_n 2, 1) := by decide +kernel
theorem dX3_exprIsEmpty_2 : decode cX3_exprIsEmpty 2 = .ok (.iload_n 2, 1) := by decide +kernel
theorem dX3_exprIsEmpty_3 : decode cX3_exprIsEmpty 3 = .ok (.aload_n 0, 1) := by decide +kernel
theorem dX3_exprIsEmpty_4 : decode cX3_exprIsEmpty 4 = .ok (.getfield 37, 3) := by decide +kernel
theorem dX3_exprIsEmpty_7 : decode cX3_exprIsEmpty 7 = .ok (.getfield 83, 3) := by decide +kernel
theorem wm_264 : (Jvm.Cond.fieldLink "GrownKinds$Leaning" (83 : Nat) "GrownKinds$Grammar" "termCount" "[I") ∈ gT := gT_in (List.mem_of_getElem? (i := 264) (by decide +kernel)) (by decide +kernel)
theorem dX3_exprIsEmpty_10 : decode cX3_exprIsEmpty 10 = .ok (.iload_n 1, 1) := by decide +kernel
theorem dX3_exprIsEmpty_11 : decode cX3_exprIsEmpty 11 = .ok (.iaload, 1) := by decide +kernel
theorem dX3_exprIsEmpty_12 : decode cX3_exprIsEmpty 12 = .ok (.if_icmp .ge 40, 3) := by decide +kernel
theorem dX3_exprIsEmpty_15 : decode cX3_exprIsEmpty 15 = .ok (.aload_n 0, 1) := by decide +kernel
theorem dX3_exprIsEmpty_16 : decode cX3_exprIsEmpty 16 = .ok (.getfield 37, 3) := by decide +kernel
theorem dX3_exprIsEmpty_19 : decode cX3_exprIsEmpty 19 = .ok (.iload_n 1, 1) := by decide +kernel
theorem dX3_exprIsEmpty_20 : decode cX3_exprIsEmpty 20 = .ok (.iload_n 2, 1) := by decide +kernel
theorem dX3_exprIsEmpty_21 : decode cX3_exprIsEmpty 21 = .ok (.invokevirtual 86, 3) := by decide +kernel
theorem wm_905 : (Jvm.Cond.methodLink "GrownKinds$Leaning" (86 : Nat) ({ cls := "GrownKinds$Grammar", name := "isOff", desc := "(II)Z" } : Jvm.MethodName)) ∈ gT := gT_in (List.mem_of_getElem? (i := 905) (by decide +kernel)) (by decide +kernel)
theorem wm_906 : (Jvm.Cond.instanceMethod ({ cls := "GrownKinds$Grammar", name := "isOff", desc := "(II)Z" } : Jvm.MethodName)) ∈ gT := gT_in (List.mem_of_getElem? (i := 906) (by decide +kernel)) (by decide +kernel)
theorem wm_907 : (Jvm.Cond.selects "GrownKinds$Grammar" ({ cls := "GrownKinds$Grammar", name := "isOff", desc := "(II)Z" } : Jvm.MethodName) ({ cls := "GrownKinds$Grammar", name := "isOff", desc := "(II)Z" } : Jvm.MethodName)) ∈ gT := gT_in (List.mem_of_getElem? (i := 907) (by decide +kernel)) (by decide +kernel)
theorem wm_908 : (Jvm.Cond.code ({ cls := "GrownKinds$Grammar", name := "isOff", desc := "(II)Z" } : Jvm.MethodName) prog_4_method_6_code (3 : Nat) (Option.some Jvm.ClassFile.FieldType.boolean)) ∈ gT := gT_in (List.mem_of_getElem? (i := 908) (by decide +kernel)) (by decide +kernel)
theorem dX2_isOff_0 : decode cX2_isOff 0 = .ok (.aload_n 0, 1) := by decide +kernel
theorem dX2_isOff_1 : decode cX2_isOff 1 = .ok (.getfield 49, 3) := by decide +kernel
theorem dX2_isOff_4 : decode cX2_isOff 4 = .ok (.iload_n 1, 1) := by decide +kernel
theorem dX2_isOff_5 : decode cX2_isOff 5 = .ok (.iaload, 1) := by decide +kernel
theorem dX2_isOff_6 : decode cX2_isOff 6 = .ok (.iload_n 2, 1) := by decide +kernel
theorem dX2_isOff_7 : decode cX2_isOff 7 = .ok (.ishr, 1) := by decide +kernel
theorem dX2_isOff_8 : decode cX2_isOff 8 = .ok (.iconst 1, 1) := by decide +kernel
theorem dX2_isOff_9 : decode cX2_isOff 9 = .ok (.iand, 1) := by decide +kernel
theorem dX2_isOff_10 : decode cX2_isOff 10 = .ok (.ifCond .eq 7, 3) := by decide +kernel
theorem dX2_isOff_17 : decode cX2_isOff 17 = .ok (.iconst 0, 1) := by decide +kernel
theorem dX2_isOff_18 : decode cX2_isOff 18 = .ok (.ireturn, 1) := by decide +kernel
theorem dX2_isOff_13 : decode cX2_isOff 13 = .ok (.iconst 1, 1) := by decide +kernel
theorem dX2_isOff_14 : decode cX2_isOff 14 = .ok (.goto 4, 3) := by decide +kernel
theorem dX3_exprIsEmpty_24 : decode cX3_exprIsEmpty 24 = .ok (.ifCond .ne 22, 3) := by decide +kernel
theorem dX3_exprIsEmpty_46 : decode cX3_exprIsEmpty 46 = .ok (.iinc 2 1, 3) := by decide +kernel
theorem dX3_exprIsEmpty_49 : decode cX3_exprIsEmpty 49 = .ok (.goto (-47), 3) := by decide +kernel
theorem dX3_exprIsEmpty_27 : decode cX3_exprIsEmpty 27 = .ok (.aload_n 0, 1) := by decide +kernel
theorem dX3_exprIsEmpty_28 : decode cX3_exprIsEmpty 28 = .ok (.aload_n 0, 1) := by decide +kernel
theorem dX3_exprIsEmpty_29 : decode cX3_exprIsEmpty 29 = .ok (.getfield 37, 3) := by decide +kernel
theorem dX3_exprIsEmpty_32 : decode cX3_exprIsEmpty 32 = .ok (.iload_n 1, 1) := by decide +kernel
theorem dX3_exprIsEmpty_33 : decode cX3_exprIsEmpty 33 = .ok (.iload_n 2, 1) := by decide +kernel
theorem dX3_exprIsEmpty_34 : decode cX3_exprIsEmpty 34 = .ok (.invokevirtual 90, 3) := by decide +kernel
theorem wm_909 : (Jvm.Cond.methodLink "GrownKinds$Leaning" (90 : Nat) ({ cls := "GrownKinds$Grammar", name := "start", desc := "(II)I" } : Jvm.MethodName)) ∈ gT := gT_in (List.mem_of_getElem? (i := 909) (by decide +kernel)) (by decide +kernel)
theorem wm_910 : (Jvm.Cond.instanceMethod ({ cls := "GrownKinds$Grammar", name := "start", desc := "(II)I" } : Jvm.MethodName)) ∈ gT := gT_in (List.mem_of_getElem? (i := 910) (by decide +kernel)) (by decide +kernel)
theorem wm_911 : (Jvm.Cond.selects "GrownKinds$Grammar" ({ cls := "GrownKinds$Grammar", name := "start", desc := "(II)I" } : Jvm.MethodName) ({ cls := "GrownKinds$Grammar", name := "start", desc := "(II)I" } : Jvm.MethodName)) ∈ gT := gT_in (List.mem_of_getElem? (i := 911) (by decide +kernel)) (by decide +kernel)
theorem wm_912 : (Jvm.Cond.code ({ cls := "GrownKinds$Grammar", name := "start", desc := "(II)I" } : Jvm.MethodName) prog_4_method_5_code (3 : Nat) (Option.some Jvm.ClassFile.FieldType.int)) ∈ gT := gT_in (List.mem_of_getElem? (i := 912) (by decide +kernel)) (by decide +kernel)
theorem dX2_start_0 : decode cX2_start 0 = .ok (.aload_n 0, 1) := by decide +kernel
theorem dX2_start_1 : decode cX2_start 1 = .ok (.getfield 46, 3) := by decide +kernel
theorem dX2_start_4 : decode cX2_start 4 = .ok (.iload_n 1, 1) := by decide +kernel
theorem dX2_start_5 : decode cX2_start 5 = .ok (.bipush 10, 2) := by decide +kernel
theorem dX2_start_7 : decode cX2_start 7 = .ok (.imul, 1) := by decide +kernel
theorem dX2_start_8 : decode cX2_start 8 = .ok (.iload_n 2, 1) := by decide +kernel
theorem dX2_start_9 : decode cX2_start 9 = .ok (.iadd, 1) := by decide +kernel
theorem dX2_start_10 : decode cX2_start 10 = .ok (.iaload, 1) := by decide +kernel
theorem dX2_start_11 : decode cX2_start 11 = .ok (.ireturn, 1) := by decide +kernel
theorem dX3_exprIsEmpty_37 : decode cX3_exprIsEmpty 37 = .ok (.iconst (-1), 1) := by decide +kernel
theorem dX3_exprIsEmpty_38 : decode cX3_exprIsEmpty 38 = .ok (.invokevirtual 94, 3) := by decide +kernel
theorem wm_913 : (Jvm.Cond.methodLink "GrownKinds$Leaning" (94 : Nat) ({ cls := "GrownKinds$Leaning", name := "allEmpty", desc := "(II)Z" } : Jvm.MethodName)) ∈ gT := gT_in (List.mem_of_getElem? (i := 913) (by decide +kernel)) (by decide +kernel)
theorem wm_915 : (Jvm.Cond.instanceMethod ({ cls := "GrownKinds$Leaning", name := "allEmpty", desc := "(II)Z" } : Jvm.MethodName)) ∈ gT := gT_in (List.mem_of_getElem? (i := 915) (by decide +kernel)) (by decide +kernel)
theorem wm_21 : Cond.selects "GrownKinds$Leaning" ⟨"GrownKinds$Leaning", "allEmpty", "(II)Z"⟩ ⟨"GrownKinds$Leaning", "allEmpty", "(II)Z"⟩ ∈ gT := gT_in (List.mem_of_getElem? (i := 21) (by decide +kernel)) (by decide +kernel)
theorem wm_916 : (Jvm.Cond.code ({ cls := "GrownKinds$Leaning", name := "allEmpty", desc := "(II)Z" } : Jvm.MethodName) prog_5_method_8_code (5 : Nat) (Option.some Jvm.ClassFile.FieldType.boolean)) ∈ gT := gT_in (List.mem_of_getElem? (i := 916) (by decide +kernel)) (by decide +kernel)
theorem dX3_allEmpty_0 : decode cX3_allEmpty 0 = .ok (.iload_n 1, 1) := by decide +kernel
theorem dX3_allEmpty_1 : decode cX3_allEmpty 1 = .ok (.istore_n 3, 1) := by decide +kernel
theorem dX3_allEmpty_2 : decode cX3_allEmpty 2 = .ok (.iconst 0, 1) := by decide +kernel
theorem dX3_allEmpty_3 : decode cX3_allEmpty 3 = .ok (.istore 4, 2) := by decide +kernel
theorem dX3_allEmpty_5 : decode cX3_allEmpty 5 = .ok (.iload 4, 2) := by decide +kernel
theorem dX3_allEmpty_7 : decode cX3_allEmpty 7 = .ok (.bipush 24, 2) := by decide +kernel
theorem dX3_allEmpty_9 : decode cX3_allEmpty 9 = .ok (.if_icmp .ge 39, 3) := by decide +kernel
theorem dX3_allEmpty_12 : decode cX3_allEmpty 12 = .ok (.iload_n 3, 1) := by decide +kernel
theorem dX3_allEmpty_13 : decode cX3_allEmpty 13 = .ok (.iconst (-1), 1) := by decide +kernel
theorem dX3_allEmpty_14 : decode cX3_allEmpty 14 = .ok (.if_icmp .eq 34, 3) := by decide +kernel
theorem dX3_allEmpty_17 : decode cX3_allEmpty 17 = .ok (.iload_n 3, 1) := by decide +kernel
theorem dX3_allEmpty_18 : decode cX3_allEmpty 18 = .ok (.iload_n 2, 1) := by decide +kernel
theorem dX3_allEmpty_19 : decode cX3_allEmpty 19 = .ok (.if_icmp .eq 13, 3) := by decide +kernel
theorem dX3_allEmpty_22 : decode cX3_allEmpty 22 = .ok (.aload_n 0, 1) := by decide +kernel
theorem dX3_allEmpty_23 : decode cX3_allEmpty 23 = .ok (.iload_n 3, 1) := by decide +kernel
theorem dX3_allEmpty_24 : decode cX3_allEmpty 24 = .ok (.invokevirtual 80, 3) := by decide +kernel
theorem dX3_allEmpty_27 : decode cX3_allEmpty 27 = .ok (.ifCond .ne 5, 3) := by decide +kernel
theorem dX3_allEmpty_32 : decode cX3_allEmpty 32 = .ok (.aload_n 0, 1) := by decide +kernel
theorem dX3_allEmpty_33 : decode cX3_allEmpty 33 = .ok (.getfield 37, 3) := by decide +kernel
theorem dX3_allEmpty_36 : decode cX3_allEmpty 36 = .ok (.getfield 97, 3) := by decide +kernel
theorem wm_257 : (Jvm.Cond.fieldLink "GrownKinds$Leaning" (97 : Nat) "GrownKinds$Grammar" "next" "[I") ∈ gT := gT_in (List.mem_of_getElem? (i := 257) (by decide +kernel)) (by decide +kernel)
theorem dX3_allEmpty_39 : decode cX3_allEmpty 39 = .ok (.iload_n 3, 1) := by decide +kernel
theorem dX3_allEmpty_40 : decode cX3_allEmpty 40 = .ok (.iaload, 1) := by decide +kernel
theorem dX3_allEmpty_41 : decode cX3_allEmpty 41 = .ok (.istore_n 3, 1) := by decide +kernel
theorem dX3_allEmpty_42 : decode cX3_allEmpty 42 = .ok (.iinc 4 1, 3) := by decide +kernel
theorem dX3_allEmpty_45 : decode cX3_allEmpty 45 = .ok (.goto (-40), 3) := by decide +kernel
theorem dX3_allEmpty_30 : decode cX3_allEmpty 30 = .ok (.iconst 0, 1) := by decide +kernel
theorem dX3_allEmpty_31 : decode cX3_allEmpty 31 = .ok (.ireturn, 1) := by decide +kernel
theorem dX3_allEmpty_48 : decode cX3_allEmpty 48 = .ok (.iconst 1, 1) := by decide +kernel
theorem dX3_allEmpty_49 : decode cX3_allEmpty 49 = .ok (.ireturn, 1) := by decide +kernel
theorem dX3_exprIsEmpty_41 : decode cX3_exprIsEmpty 41 = .ok (.ifCond .eq 5, 3) := by decide +kernel
theorem dX3_exprIsEmpty_44 : decode cX3_exprIsEmpty 44 = .ok (.iconst 1, 1) := by decide +kernel
theorem dX3_exprIsEmpty_45 : decode cX3_exprIsEmpty 45 = .ok (.ireturn, 1) := by decide +kernel
theorem dX3_exprIsEmpty_52 : decode cX3_exprIsEmpty 52 = .ok (.iconst 0, 1) := by decide +kernel
theorem dX3_exprIsEmpty_53 : decode cX3_exprIsEmpty 53 = .ok (.ireturn, 1) := by decide +kernel
theorem dX3_partIsEmpty_74 : decode cX3_partIsEmpty 74 = .ok (.ireturn, 1) := by decide +kernel
theorem dX3_partIsEmpty_35 : decode cX3_partIsEmpty 35 = .ok (.aload_n 0, 1) := by decide +kernel
theorem dX3_partIsEmpty_36 : decode cX3_partIsEmpty 36 = .ok (.getfield 15, 3) := by decide +kernel
theorem dX3_partIsEmpty_39 : decode cX3_partIsEmpty 39 = .ok (.aload_n 0, 1) := by decide +kernel
theorem dX3_partIsEmpty_40 : decode cX3_partIsEmpty 40 = .ok (.getfield 37, 3) := by decide +kernel
theorem dX3_partIsEmpty_43 : decode cX3_partIsEmpty 43 = .ok (.getfield 74, 3) := by decide +kernel
theorem dX3_partIsEmpty_46 : decode cX3_partIsEmpty 46 = .ok (.iload_n 1, 1) := by decide +kernel
theorem dX3_partIsEmpty_47 : decode cX3_partIsEmpty 47 = .ok (.iaload, 1) := by decide +kernel
theorem dX3_partIsEmpty_48 : decode cX3_partIsEmpty 48 = .ok (.ishr, 1) := by decide +kernel
theorem dX3_partIsEmpty_49 : decode cX3_partIsEmpty 49 = .ok (.iconst 1, 1) := by decide +kernel
theorem dX3_partIsEmpty_50 : decode cX3_partIsEmpty 50 = .ok (.iand, 1) := by decide +kernel
theorem dX3_partIsEmpty_51 : decode cX3_partIsEmpty 51 = .ok (.ifCond .eq 7, 3) := by decide +kernel
theorem dX3_partIsEmpty_58 : decode cX3_partIsEmpty 58 = .ok (.iconst 0, 1) := by decide +kernel
theorem dX3_partIsEmpty_59 : decode cX3_partIsEmpty 59 = .ok (.ireturn, 1) := by decide +kernel
theorem dX3_partIsEmpty_54 : decode cX3_partIsEmpty 54 = .ok (.iconst 1, 1) := by decide +kernel
theorem dX3_partIsEmpty_55 : decode cX3_partIsEmpty 55 = .ok (.goto 4, 3) := by decide +kernel
theorem dX3_findEmpty_62 : decode cX3_findEmpty 62 = .ok (.ifCond .eq 10, 3) := by decide +kernel
theorem dX3_findEmpty_72 : decode cX3_findEmpty 72 = .ok (.iconst 0, 1) := by decide +kernel
theorem dX3_findEmpty_73 : decode cX3_findEmpty 73 = .ok (.ior, 1) := by decide +kernel
theorem dX3_findEmpty_74 : decode cX3_findEmpty 74 = .ok (.putfield 9, 3) := by decide +kernel
theorem dX3_findEmpty_77 : decode cX3_findEmpty 77 = .ok (.iinc 5 (-1), 3) := by decide +kernel
theorem dX3_findEmpty_80 : decode cX3_findEmpty 80 = .ok (.goto (-34), 3) := by decide +kernel
theorem dX3_findEmpty_65 : decode cX3_findEmpty 65 = .ok (.iconst 1, 1) := by decide +kernel
theorem dX3_findEmpty_66 : decode cX3_findEmpty 66 = .ok (.iload 5, 2) := by decide +kernel
theorem dX3_findEmpty_68 : decode cX3_findEmpty 68 = .ok (.ishl, 1) := by decide +kernel
theorem dX3_findEmpty_69 : decode cX3_findEmpty 69 = .ok (.goto 4, 3) := by decide +kernel
theorem dX3_findEmpty_83 : decode cX3_findEmpty 83 = .ok (.iconst 0, 1) := by decide +kernel
theorem dX3_findEmpty_84 : decode cX3_findEmpty 84 = .ok (.istore 5, 2) := by decide +kernel
theorem dX3_findEmpty_86 : decode cX3_findEmpty 86 = .ok (.iload 5, 2) := by decide +kernel
theorem dX3_findEmpty_88 : decode cX3_findEmpty 88 = .ok (.aload_n 0, 1) := by decide +kernel
theorem dX3_findEmpty_89 : decode cX3_findEmpty 89 = .ok (.getfield 37, 3) := by decide +kernel
theorem dX3_findEmpty_92 : decode cX3_findEmpty 92 = .ok (.getfield 53, 3) := by decide +kernel
theorem wm_219 : (Jvm.Cond.fieldLink "GrownKinds$Leaning" (53 : Nat) "GrownKinds$Grammar" "kinds" "I") ∈ gT := gT_in (List.mem_of_getElem? (i := 219) (by decide +kernel)) (by decide +kernel)
theorem dX3_findEmpty_95 : decode cX3_findEmpty 95 = .ok (.if_icmp .ge 35, 3) := by decide +kernel
theorem dX3_findEmpty_98 : decode cX3_findEmpty 98 = .ok (.aload_n 0, 1) := by decide +kernel
theorem dX3_findEmpty_99 : decode cX3_findEmpty 99 = .ok (.dup, 1) := by decide +kernel
theorem dX3_findEmpty_100 : decode cX3_findEmpty 100 = .ok (.getfield 15, 3) := by decide +kernel
theorem dX3_findEmpty_103 : decode cX3_findEmpty 103 = .ok (.aload_n 0, 1) := by decide +kernel
theorem dX3_findEmpty_104 : decode cX3_findEmpty 104 = .ok (.iload 5, 2) := by decide +kernel
theorem dX3_findEmpty_106 : decode cX3_findEmpty 106 = .ok (.invokevirtual 68, 3) := by decide +kernel
theorem dX3_findEmpty_109 : decode cX3_findEmpty 109 = .ok (.ifCond .eq 10, 3) := by decide +kernel
theorem dX3_findEmpty_119 : decode cX3_findEmpty 119 = .ok (.iconst 0, 1) := by decide +kernel
theorem dX3_findEmpty_120 : decode cX3_findEmpty 120 = .ok (.ior, 1) := by decide +kernel
theorem dX3_findEmpty_121 : decode cX3_findEmpty 121 = .ok (.putfield 15, 3) := by decide +kernel
theorem dX3_findEmpty_124 : decode cX3_findEmpty 124 = .ok (.iinc 5 1, 3) := by decide +kernel
theorem dX3_findEmpty_127 : decode cX3_findEmpty 127 = .ok (.goto (-41), 3) := by decide +kernel
theorem dX3_findEmpty_112 : decode cX3_findEmpty 112 = .ok (.iconst 1, 1) := by decide +kernel
theorem dX3_findEmpty_113 : decode cX3_findEmpty 113 = .ok (.iload 5, 2) := by decide +kernel
theorem dX3_findEmpty_115 : decode cX3_findEmpty 115 = .ok (.ishl, 1) := by decide +kernel
theorem dX3_findEmpty_116 : decode cX3_findEmpty 116 = .ok (.goto 4, 3) := by decide +kernel
theorem dX3_findEmpty_130 : decode cX3_findEmpty 130 = .ok (.iload_n 3, 1) := by decide +kernel
theorem dX3_findEmpty_131 : decode cX3_findEmpty 131 = .ok (.aload_n 0, 1) := by decide +kernel
theorem dX3_findEmpty_132 : decode cX3_findEmpty 132 = .ok (.getfield 9, 3) := by decide +kernel
theorem dX3_findEmpty_135 : decode cX3_findEmpty 135 = .ok (.if_icmp .ne 12, 3) := by decide +kernel
theorem dX3_findEmpty_147 : decode cX3_findEmpty 147 = .ok (.iconst 1, 1) := by decide +kernel
theorem dX3_findEmpty_148 : decode cX3_findEmpty 148 = .ok (.goto 4, 3) := by decide +kernel
theorem dX3_findEmpty_152 : decode cX3_findEmpty 152 = .ok (.istore_n 1, 1) := by decide +kernel
theorem dX3_findEmpty_153 : decode cX3_findEmpty 153 = .ok (.iinc 2 1, 3) := by decide +kernel
theorem dX3_findEmpty_156 : decode cX3_findEmpty 156 = .ok (.goto (-142), 3) := by decide +kernel
theorem dX3_findEmpty_138 : decode cX3_findEmpty 138 = .ok (.iload 4, 2) := by decide +kernel
theorem dX3_findEmpty_140 : decode cX3_findEmpty 140 = .ok (.aload_n 0, 1) := by decide +kernel
theorem dX3_findEmpty_141 : decode cX3_findEmpty 141 = .ok (.getfield 15, 3) := by decide +kernel
theorem dX3_findEmpty_144 : decode cX3_findEmpty 144 = .ok (.if_icmp .eq 7, 3) := by decide +kernel
theorem dX3_findEmpty_151 : decode cX3_findEmpty 151 = .ok (.iconst 0, 1) := by decide +kernel
theorem dX3_findEmpty_159 : decode cX3_findEmpty 159 = .ok (.return_, 1) := by decide +kernel
theorem dX3_study_4 : decode cX3_study 4 = .ok (.aload_n 0, 1) := by decide +kernel
theorem dX3_study_5 : decode cX3_study 5 = .ok (.getfield 37, 3) := by decide +kernel
theorem dX3_study_8 : decode cX3_study 8 = .ok (.getfield 44, 3) := by decide +kernel
theorem dX3_study_11 : decode cX3_study 11 = .ok (.iconst 1, 1) := by decide +kernel
theorem dX3_study_12 : decode cX3_study 12 = .ok (.isub, 1) := by decide +kernel
theorem dX3_study_13 : decode cX3_study 13 = .ok (.istore_n 1, 1) := by decide +kernel
theorem dX3_study_14 : decode cX3_study 14 = .ok (.iload_n 1, 1) := by decide +kernel
theorem dX3_study_15 : decode cX3_study 15 = .ok (.ifCond .lt 14, 3) := by decide +kernel
theorem dX3_study_18 : decode cX3_study 18 = .ok (.aload_n 0, 1) := by decide +kernel
theorem dX3_study_19 : decode cX3_study 19 = .ok (.iload_n 1, 1) := by decide +kernel
theorem dX3_study_20 : decode cX3_study 20 = .ok (.invokevirtual 49, 3) := by decide +kernel
theorem wm_921 : (Jvm.Cond.methodLink "GrownKinds$Leaning" (49 : Nat) ({ cls := "GrownKinds$Leaning", name := "studyPart", desc := "(I)V" } : Jvm.MethodName)) ∈ gT := gT_in (List.mem_of_getElem? (i := 921) (by decide +kernel)) (by decide +kernel)
theorem wm_923 : (Jvm.Cond.instanceMethod ({ cls := "GrownKinds$Leaning", name := "studyPart", desc := "(I)V" } : Jvm.MethodName)) ∈ gT := gT_in (List.mem_of_getElem? (i := 923) (by decide +kernel)) (by decide +kernel)
theorem wm_22 : Cond.selects "GrownKinds$Leaning" ⟨"GrownKinds$Leaning", "studyPart", "(I)V"⟩ ⟨"GrownKinds$Leaning", "studyPart", "(I)V"⟩ ∈ gT := gT_in (List.mem_of_getElem? (i := 22) (by decide +kernel)) (by decide +kernel)
theorem wm_924 : (Jvm.Cond.code ({ cls := "GrownKinds$Leaning", name := "studyPart", desc := "(I)V" } : Jvm.MethodName) prog_5_method_9_code (5 : Nat) (Option.none : Option Jvm.ClassFile.FieldType)) ∈ gT := gT_in (List.mem_of_getElem? (i := 924) (by decide +kernel)) (by decide +kernel)
theorem dX3_studyPart_0 : decode cX3_studyPart 0 = .ok (.aload_n 0, 1) := by decide +kernel
theorem dX3_studyPart_1 : decode cX3_studyPart 1 = .ok (.getfield 37, 3) := by decide +kernel
theorem dX3_studyPart_4 : decode cX3_studyPart 4 = .ok (.getfield 71, 3) := by decide +kernel
theorem dX3_studyPart_7 : decode cX3_studyPart 7 = .ok (.iload_n 1, 1) := by decide +kernel
theorem dX3_studyPart_8 : decode cX3_studyPart 8 = .ok (.iaload, 1) := by decide +kernel
theorem dX3_studyPart_9 : decode cX3_studyPart 9 = .ok (.istore_n 2, 1) := by decide +kernel
theorem dX3_studyPart_10 : decode cX3_studyPart 10 = .ok (.aload_n 0, 1) := by decide +kernel
theorem dX3_studyPart_11 : decode cX3_studyPart 11 = .ok (.getfield 37, 3) := by decide +kernel
theorem dX3_studyPart_14 : decode cX3_studyPart 14 = .ok (.getfield 77, 3) := by decide +kernel
theorem dX3_studyPart_17 : decode cX3_studyPart 17 = .ok (.iload_n 1, 1) := by decide +kernel
theorem dX3_studyPart_18 : decode cX3_studyPart 18 = .ok (.iaload, 1) := by decide +kernel
theorem dX3_studyPart_19 : decode cX3_studyPart 19 = .ok (.istore_n 3, 1) := by decide +kernel
theorem dX3_studyPart_20 : decode cX3_studyPart 20 = .ok (.iload_n 2, 1) := by decide +kernel
theorem dX3_studyPart_21 : decode cX3_studyPart 21 = .ok (.bipush 7, 2) := by decide +kernel
theorem dX3_studyPart_23 : decode cX3_studyPart 23 = .ok (.if_icmp .ne 56, 3) := by decide +kernel
theorem dX3_studyPart_79 : decode cX3_studyPart 79 = .ok (.iload_n 3, 1) := by decide +kernel
theorem dX3_studyPart_80 : decode cX3_studyPart 80 = .ok (.iconst (-1), 1) := by decide +kernel
theorem dX3_studyPart_81 : decode cX3_studyPart 81 = .ok (.if_icmp .eq 59, 3) := by decide +kernel
theorem dX3_studyPart_140 : decode cX3_studyPart 140 = .ok (.aload_n 0, 1) := by decide +kernel
theorem dX3_studyPart_141 : decode cX3_studyPart 141 = .ok (.getfield 18, 3) := by decide +kernel
theorem dX3_studyPart_144 : decode cX3_studyPart 144 = .ok (.iload_n 1, 1) := by decide +kernel
theorem dX3_studyPart_145 : decode cX3_studyPart 145 = .ok (.iload_n 2, 1) := by decide +kernel
theorem dX3_studyPart_146 : decode cX3_studyPart 146 = .ok (.iconst 2, 1) := by decide +kernel
theorem dX3_studyPart_147 : decode cX3_studyPart 147 = .ok (.if_icmp .ne 17, 3) := by decide +kernel
theorem dX3_studyPart_164 : decode cX3_studyPart 164 = .ok (.iconst 0, 1) := by decide +kernel
theorem dX3_studyPart_150 : decode cX3_studyPart 150 = .ok (.iconst 1, 1) := by decide +kernel
theorem dX3_studyPart_151 : decode cX3_studyPart 151 = .ok (.aload_n 0, 1) := by decide +kernel
theorem dX3_studyPart_152 : decode cX3_studyPart 152 = .ok (.getfield 37, 3) := by decide +kernel
theorem dX3_studyPart_155 : decode cX3_studyPart 155 = .ok (.getfield 74, 3) := by decide +kernel
theorem dX3_studyPart_158 : decode cX3_studyPart 158 = .ok (.iload_n 1, 1) := by decide +kernel
theorem dX3_studyPart_159 : decode cX3_studyPart 159 = .ok (.iaload, 1) := by decide +kernel
theorem dX3_studyPart_160 : decode cX3_studyPart 160 = .ok (.ishl, 1) := by decide +kernel
theorem dX3_studyPart_161 : decode cX3_studyPart 161 = .ok (.goto 4, 3) := by decide +kernel
theorem dX3_studyPart_165 : decode cX3_studyPart 165 = .ok (.iastore, 1) := by decide +kernel
theorem dX3_studyPart_166 : decode cX3_studyPart 166 = .ok (.aload_n 0, 1) := by decide +kernel
theorem dX3_studyPart_167 : decode cX3_studyPart 167 = .ok (.getfield 22, 3) := by decide +kernel
theorem dX3_studyPart_170 : decode cX3_studyPart 170 = .ok (.iload_n 1, 1) := by decide +kernel
theorem dX3_studyPart_171 : decode cX3_studyPart 171 = .ok (.aload_n 0, 1) := by decide +kernel
theorem dX3_studyPart_172 : decode cX3_studyPart 172 = .ok (.getfield 18, 3) := by decide +kernel
theorem dX3_studyPart_175 : decode cX3_studyPart 175 = .ok (.iload_n 1, 1) := by decide +kernel
theorem dX3_studyPart_176 : decode cX3_studyPart 176 = .ok (.iaload, 1) := by decide +kernel
theorem dX3_studyPart_177 : decode cX3_studyPart 177 = .ok (.iastore, 1) := by decide +kernel
theorem dX3_studyPart_178 : decode cX3_studyPart 178 = .ok (.aload_n 0, 1) := by decide +kernel
theorem dX3_studyPart_179 : decode cX3_studyPart 179 = .ok (.getfield 25, 3) := by decide +kernel
theorem dX3_studyPart_182 : decode cX3_studyPart 182 = .ok (.iload_n 1, 1) := by decide +kernel
theorem dX3_studyPart_183 : decode cX3_studyPart 183 = .ok (.iload_n 2, 1) := by decide +kernel
theorem dX3_studyPart_184 : decode cX3_studyPart 184 = .ok (.ifCond .ne 17, 3) := by decide +kernel
theorem dX3_studyPart_201 : decode cX3_studyPart 201 = .ok (.iconst 0, 1) := by decide +kernel
theorem dX3_studyPart_202 : decode cX3_studyPart 202 = .ok (.iastore, 1) := by decide +kernel
theorem dX3_studyPart_203 : decode cX3_studyPart 203 = .ok (.return_, 1) := by decide +kernel
theorem dX3_studyPart_187 : decode cX3_studyPart 187 = .ok (.iconst 1, 1) := by decide +kernel
theorem dX3_studyPart_188 : decode cX3_studyPart 188 = .ok (.aload_n 0, 1) := by decide +kernel
theorem dX3_studyPart_189 : decode cX3_studyPart 189 = .ok (.getfield 37, 3) := by decide +kernel
theorem dX3_studyPart_192 : decode cX3_studyPart 192 = .ok (.getfield 74, 3) := by decide +kernel
theorem dX3_studyPart_195 : decode cX3_studyPart 195 = .ok (.iload_n 1, 1) := by decide +kernel
theorem dX3_studyPart_196 : decode cX3_studyPart 196 = .ok (.iaload, 1) := by decide +kernel
theorem dX3_studyPart_197 : decode cX3_studyPart 197 = .ok (.ishl, 1) := by decide +kernel
theorem dX3_studyPart_198 : decode cX3_studyPart 198 = .ok (.goto 4, 3) := by decide +kernel
theorem dX3_studyPart_84 : decode cX3_studyPart 84 = .ok (.aload_n 0, 1) := by decide +kernel
theorem dX3_studyPart_85 : decode cX3_studyPart 85 = .ok (.getfield 18, 3) := by decide +kernel
theorem dX3_studyPart_88 : decode cX3_studyPart 88 = .ok (.iload_n 1, 1) := by decide +kernel
theorem dX3_studyPart_89 : decode cX3_studyPart 89 = .ok (.aload_n 0, 1) := by decide +kernel
theorem dX3_studyPart_90 : decode cX3_studyPart 90 = .ok (.getfield 37, 3) := by decide +kernel
theorem dX3_studyPart_93 : decode cX3_studyPart 93 = .ok (.getfield 74, 3) := by decide +kernel
theorem dX3_studyPart_96 : decode cX3_studyPart 96 = .ok (.iload_n 1, 1) := by decide +kernel
theorem dX3_studyPart_97 : decode cX3_studyPart 97 = .ok (.iaload, 1) := by decide +kernel
theorem dX3_studyPart_98 : decode cX3_studyPart 98 = .ok (.iconst 1, 1) := by decide +kernel
theorem dX3_studyPart_99 : decode cX3_studyPart 99 = .ok (.if_icmp .gt 12, 3) := by decide +kernel
theorem dX3_studyPart_111 : decode cX3_studyPart 111 = .ok (.iconst 0, 1) := by decide +kernel
theorem dX3_studyPart_102 : decode cX3_studyPart 102 = .ok (.aload_n 0, 1) := by decide +kernel
theorem dX3_studyPart_103 : decode cX3_studyPart 103 = .ok (.getfield 18, 3) := by decide +kernel
theorem dX3_studyPart_106 : decode cX3_studyPart 106 = .ok (.iload_n 3, 1) := by decide +kernel
theorem dX3_studyPart_107 : decode cX3_studyPart 107 = .ok (.iaload, 1) := by decide +kernel
theorem dX3_studyPart_108 : decode cX3_studyPart 108 = .ok (.goto 4, 3) := by decide +kernel
theorem dX3_studyPart_112 : decode cX3_studyPart 112 = .ok (.iastore, 1) := by decide +kernel
theorem dX3_studyPart_113 : decode cX3_studyPart 113 = .ok (.aload_n 0, 1) := by decide +kernel
theorem dX3_studyPart_114 : decode cX3_studyPart 114 = .ok (.getfield 22, 3) := by decide +kernel
theorem dX3_studyPart_117 : decode cX3_studyPart 117 = .ok (.iload_n 1, 1) := by decide +kernel
theorem dX3_studyPart_118 : decode cX3_studyPart 118 = .ok (.aload_n 0, 1) := by decide +kernel
theorem dX3_studyPart_119 : decode cX3_studyPart 119 = .ok (.getfield 22, 3) := by decide +kernel
theorem dX3_studyPart_122 : decode cX3_studyPart 122 = .ok (.iload_n 3, 1) := by decide +kernel
theorem dX3_studyPart_123 : decode cX3_studyPart 123 = .ok (.iaload, 1) := by decide +kernel
theorem dX3_studyPart_124 : decode cX3_studyPart 124 = .ok (.iastore, 1) := by decide +kernel
theorem dX3_studyPart_125 : decode cX3_studyPart 125 = .ok (.aload_n 0, 1) := by decide +kernel
theorem dX3_studyPart_126 : decode cX3_studyPart 126 = .ok (.getfield 25, 3) := by decide +kernel
theorem dX3_studyPart_129 : decode cX3_studyPart 129 = .ok (.iload_n 1, 1) := by decide +kernel
theorem dX3_studyPart_130 : decode cX3_studyPart 130 = .ok (.aload_n 0, 1) := by decide +kernel
theorem dX3_studyPart_131 : decode cX3_studyPart 131 = .ok (.getfield 25, 3) := by decide +kernel
theorem dX3_studyPart_134 : decode cX3_studyPart 134 = .ok (.iload_n 3, 1) := by decide +kernel
theorem dX3_studyPart_135 : decode cX3_studyPart 135 = .ok (.iaload, 1) := by decide +kernel
theorem dX3_studyPart_136 : decode cX3_studyPart 136 = .ok (.iastore, 1) := by decide +kernel
theorem dX3_studyPart_137 : decode cX3_studyPart 137 = .ok (.goto 66, 3) := by decide +kernel
theorem dX3_studyPart_26 : decode cX3_studyPart 26 = .ok (.bipush 6, 2) := by decide +kernel
theorem dX3_studyPart_28 : decode cX3_studyPart 28 = .ok (.iload_n 1, 1) := by decide +kernel
theorem dX3_studyPart_29 : decode cX3_studyPart 29 = .ok (.iadd, 1) := by decide +kernel
theorem dX3_studyPart_30 : decode cX3_studyPart 30 = .ok (.istore 4, 2) := by decide +kernel
theorem dX3_studyPart_32 : decode cX3_studyPart 32 = .ok (.aload_n 0, 1) := by decide +kernel
theorem dX3_studyPart_33 : decode cX3_studyPart 33 = .ok (.getfield 18, 3) := by decide +kernel
theorem dX3_studyPart_36 : decode cX3_studyPart 36 = .ok (.iload_n 1, 1) := by decide +kernel
theorem dX3_studyPart_37 : decode cX3_studyPart 37 = .ok (.aload_n 0, 1) := by decide +kernel
theorem dX3_studyPart_38 : decode cX3_studyPart 38 = .ok (.iload 4, 2) := by decide +kernel
theorem dX3_studyPart_40 : decode cX3_studyPart 40 = .ok (.invokevirtual 56, 3) := by decide +kernel
theorem wm_925 : (Jvm.Cond.methodLink "GrownKinds$Leaning" (56 : Nat) ({ cls := "GrownKinds$Leaning", name := "exprLeans", desc := "(I)I" } : Jvm.MethodName)) ∈ gT := gT_in (List.mem_of_getElem? (i := 925) (by decide +kernel)) (by decide +kernel)
theorem wm_927 : (Jvm.Cond.instanceMethod ({ cls := "GrownKinds$Leaning", name := "exprLeans", desc := "(I)I" } : Jvm.MethodName)) ∈ gT := gT_in (List.mem_of_getElem? (i := 927) (by decide +kernel)) (by decide +kernel)
theorem wm_23 : Cond.selects "GrownKinds$Leaning" ⟨"GrownKinds$Leaning", "exprLeans", "(I)I"⟩ ⟨"GrownKinds$Leaning", "exprLeans", "(I)I"⟩ ∈ gT := gT_in (List.mem_of_getElem? (i := 23) (by decide +kernel)) (by decide +kernel)
theorem wm_928 : (Jvm.Cond.code ({ cls := "GrownKinds$Leaning", name := "exprLeans", desc := "(I)I" } : Jvm.MethodName) prog_5_method_10_code (7 : Nat) (Option.some Jvm.ClassFile.FieldType.int)) ∈ gT := gT_in (List.mem_of_getElem? (i := 928) (by decide +kernel)) (by decide +kernel)
theorem dX3_exprLeans_0 : decode cX3_exprLeans 0 = .ok (.iconst 0, 1) := by decide +kernel
theorem dX3_exprLeans_1 : decode cX3_exprLeans 1 = .ok (.istore_n 2, 1) := by decide +kernel
theorem dX3_exprLeans_2 : decode cX3_exprLeans 2 = .ok (.iconst 0, 1) := by decide +kernel
theorem dX3_exprLeans_3 : decode cX3_exprLeans 3 = .ok (.istore_n 3, 1) := by decide +kernel
theorem dX3_exprLeans_4 : decode cX3_exprLeans 4 = .ok (.iload_n 3, 1) := by decide +kernel
theorem dX3_exprLeans_5 : decode cX3_exprLeans 5 = .ok (.aload_n 0, 1) := by decide +kernel
theorem dX3_exprLeans_6 : decode cX3_exprLeans 6 = .ok (.getfield 37, 3) := by decide +kernel
theorem dX3_exprLeans_9 : decode cX3_exprLeans 9 = .ok (.getfield 83, 3) := by decide +kernel
theorem dX3_exprLeans_12 : decode cX3_exprLeans 12 = .ok (.iload_n 1, 1) := by decide +kernel
theorem dX3_exprLeans_13 : decode cX3_exprLeans 13 = .ok (.iaload, 1) := by decide +kernel
theorem dX3_exprLeans_14 : decode cX3_exprLeans 14 = .ok (.if_icmp .ge 99, 3) := by decide +kernel
theorem dX3_exprLeans_17 : decode cX3_exprLeans 17 = .ok (.aload_n 0, 1) := by decide +kernel
theorem dX3_exprLeans_18 : decode cX3_exprLeans 18 = .ok (.getfield 37, 3) := by decide +kernel
theorem dX3_exprLeans_21 : decode cX3_exprLeans 21 = .ok (.iload_n 1, 1) := by decide +kernel
theorem dX3_exprLeans_22 : decode cX3_exprLeans 22 = .ok (.iload_n 3, 1) := by decide +kernel
theorem dX3_exprLeans_23 : decode cX3_exprLeans 23 = .ok (.invokevirtual 90, 3) := by decide +kernel
theorem dX3_exprLeans_26 : decode cX3_exprLeans 26 = .ok (.istore 4, 2) := by decide +kernel
theorem dX3_exprLeans_28 : decode cX3_exprLeans 28 = .ok (.aload_n 0, 1) := by decide +kernel
theorem dX3_exprLeans_29 : decode cX3_exprLeans 29 = .ok (.getfield 37, 3) := by decide +kernel
theorem dX3_exprLeans_32 : decode cX3_exprLeans 32 = .ok (.iload_n 1, 1) := by decide +kernel
theorem dX3_exprLeans_33 : decode cX3_exprLeans 33 = .ok (.iload_n 3, 1) := by decide +kernel
theorem dX3_exprLeans_34 : decode cX3_exprLeans 34 = .ok (.invokevirtual 86, 3) := by decide +kernel
theorem dX3_exprLeans_37 : decode cX3_exprLeans 37 = .ok (.ifCond .eq 7, 3) := by decide +kernel
theorem dX3_exprLeans_44 : decode cX3_exprLeans 44 = .ok (.iload 4, 2) := by decide +kernel
theorem dX3_exprLeans_40 : decode cX3_exprLeans 40 = .ok (.iconst (-1), 1) := by decide +kernel
theorem dX3_exprLeans_41 : decode cX3_exprLeans 41 = .ok (.goto 5, 3) := by decide +kernel
theorem dX3_exprLeans_46 : decode cX3_exprLeans 46 = .ok (.istore 5, 2) := by decide +kernel
theorem dX3_exprLeans_48 : decode cX3_exprLeans 48 = .ok (.iconst 0, 1) := by decide +kernel
theorem dX3_exprLeans_49 : decode cX3_exprLeans 49 = .ok (.istore 6, 2) := by decide +kernel
theorem dX3_exprLeans_51 : decode cX3_exprLeans 51 = .ok (.iload 6, 2) := by decide +kernel
theorem dX3_exprLeans_53 : decode cX3_exprLeans 53 = .ok (.bipush 24, 2) := by decide +kernel
theorem dX3_exprLeans_55 : decode cX3_exprLeans 55 = .ok (.if_icmp .ge 52, 3) := by decide +kernel
theorem dX3_exprLeans_58 : decode cX3_exprLeans 58 = .ok (.iload 5, 2) := by decide +kernel
theorem dX3_exprLeans_60 : decode cX3_exprLeans 60 = .ok (.iconst (-1), 1) := by decide +kernel
theorem dX3_exprLeans_61 : decode cX3_exprLeans 61 = .ok (.if_icmp .eq 46, 3) := by decide +kernel
theorem dX3_exprLeans_64 : decode cX3_exprLeans 64 = .ok (.iload_n 2, 1) := by decide +kernel
theorem dX3_exprLeans_65 : decode cX3_exprLeans 65 = .ok (.aload_n 0, 1) := by decide +kernel
theorem dX3_exprLeans_66 : decode cX3_exprLeans 66 = .ok (.iload 4, 2) := by decide +kernel
theorem dX3_exprLeans_68 : decode cX3_exprLeans 68 = .ok (.iload 5, 2) := by decide +kernel
theorem dX3_exprLeans_70 : decode cX3_exprLeans 70 = .ok (.invokevirtual 94, 3) := by decide +kernel
theorem dX3_exprLeans_73 : decode cX3_exprLeans 73 = .ok (.ifCond .eq 13, 3) := by decide +kernel
theorem dX3_exprLeans_86 : decode cX3_exprLeans 86 = .ok (.iconst 0, 1) := by decide +kernel
theorem dX3_exprLeans_76 : decode cX3_exprLeans 76 = .ok (.aload_n 0, 1) := by decide +kernel
theorem dX3_exprLeans_77 : decode cX3_exprLeans 77 = .ok (.getfield 18, 3) := by decide +kernel
theorem dX3_exprLeans_80 : decode cX3_exprLeans 80 = .ok (.iload 5, 2) := by decide +kernel
theorem dX3_exprLeans_82 : decode cX3_exprLeans 82 = .ok (.iaload, 1) := by decide +kernel
theorem dX3_exprLeans_83 : decode cX3_exprLeans 83 = .ok (.goto 4, 3) := by decide +kernel
theorem dX3_exprLeans_87 : decode cX3_exprLeans 87 = .ok (.ior, 1) := by decide +kernel
theorem dX3_exprLeans_88 : decode cX3_exprLeans 88 = .ok (.istore_n 2, 1) := by decide +kernel
theorem dX3_exprLeans_89 : decode cX3_exprLeans 89 = .ok (.aload_n 0, 1) := by decide +kernel
theorem dX3_exprLeans_90 : decode cX3_exprLeans 90 = .ok (.getfield 37, 3) := by decide +kernel
theorem dX3_exprLeans_93 : decode cX3_exprLeans 93 = .ok (.getfield 97, 3) := by decide +kernel
theorem dX3_exprLeans_96 : decode cX3_exprLeans 96 = .ok (.iload 5, 2) := by decide +kernel
theorem dX3_exprLeans_98 : decode cX3_exprLeans 98 = .ok (.iaload, 1) := by decide +kernel
theorem dX3_exprLeans_99 : decode cX3_exprLeans 99 = .ok (.istore 5, 2) := by decide +kernel
theorem dX3_exprLeans_101 : decode cX3_exprLeans 101 = .ok (.iinc 6 1, 3) := by decide +kernel
theorem dX3_exprLeans_104 : decode cX3_exprLeans 104 = .ok (.goto (-53), 3) := by decide +kernel
theorem dX3_exprLeans_107 : decode cX3_exprLeans 107 = .ok (.iinc 3 1, 3) := by decide +kernel
theorem dX3_exprLeans_110 : decode cX3_exprLeans 110 = .ok (.goto (-106), 3) := by decide +kernel
theorem dX3_exprLeans_113 : decode cX3_exprLeans 113 = .ok (.iload_n 2, 1) := by decide +kernel
theorem dX3_exprLeans_114 : decode cX3_exprLeans 114 = .ok (.ireturn, 1) := by decide +kernel
theorem dX3_studyPart_43 : decode cX3_studyPart 43 = .ok (.iastore, 1) := by decide +kernel
theorem dX3_studyPart_44 : decode cX3_studyPart 44 = .ok (.aload_n 0, 1) := by decide +kernel
theorem dX3_studyPart_45 : decode cX3_studyPart 45 = .ok (.getfield 22, 3) := by decide +kernel
theorem dX3_studyPart_48 : decode cX3_studyPart 48 = .ok (.iload_n 1, 1) := by decide +kernel
theorem dX3_studyPart_49 : decode cX3_studyPart 49 = .ok (.aload_n 0, 1) := by decide +kernel
theorem dX3_studyPart_50 : decode cX3_studyPart 50 = .ok (.iload 4, 2) := by decide +kernel
theorem dX3_studyPart_52 : decode cX3_studyPart 52 = .ok (.aload_n 0, 1) := by decide +kernel
theorem dX3_studyPart_53 : decode cX3_studyPart 53 = .ok (.getfield 22, 3) := by decide +kernel
theorem dX3_studyPart_56 : decode cX3_studyPart 56 = .ok (.invokevirtual 60, 3) := by decide +kernel
theorem wm_929 : (Jvm.Cond.methodLink "GrownKinds$Leaning" (60 : Nat) ({ cls := "GrownKinds$Leaning", name := "exprHas", desc := "(I[I)I" } : Jvm.MethodName)) ∈ gT := gT_in (List.mem_of_getElem? (i := 929) (by decide +kernel)) (by decide +kernel)
theorem wm_931 : (Jvm.Cond.instanceMethod ({ cls := "GrownKinds$Leaning", name := "exprHas", desc := "(I[I)I" } : Jvm.MethodName)) ∈ gT := gT_in (List.mem_of_getElem? (i := 931) (by decide +kernel)) (by decide +kernel)
theorem wm_24 : Cond.selects "GrownKinds$Leaning" ⟨"GrownKinds$Leaning", "exprHas", "(I[I)I"⟩ ⟨"GrownKinds$Leaning", "exprHas", "(I[I)I"⟩ ∈ gT := gT_in (List.mem_of_getElem? (i := 24) (by decide +kernel)) (by decide +kernel)
theorem wm_932 : (Jvm.Cond.code ({ cls := "GrownKinds$Leaning", name := "exprHas", desc := "(I[I)I" } : Jvm.MethodName) prog_5_method_11_code (7 : Nat) (Option.some Jvm.ClassFile.FieldType.int)) ∈ gT := gT_in (List.mem_of_getElem? (i := 932) (by decide +kernel)) (by decide +kernel)
theorem dX3_exprHas_0 : decode cX3_exprHas 0 = .ok (.iconst 0, 1) := by decide +kernel
theorem dX3_exprHas_1 : decode cX3_exprHas 1 = .ok (.istore_n 3, 1) := by decide +kernel
theorem dX3_exprHas_2 : decode cX3_exprHas 2 = .ok (.iconst 0, 1) := by decide +kernel
theorem dX3_exprHas_3 : decode cX3_exprHas 3 = .ok (.istore 4, 2) := by decide +kernel
theorem dX3_exprHas_5 : decode cX3_exprHas 5 = .ok (.iload 4, 2) := by decide +kernel
theorem dX3_exprHas_7 : decode cX3_exprHas 7 = .ok (.aload_n 0, 1) := by decide +kernel
theorem dX3_exprHas_8 : decode cX3_exprHas 8 = .ok (.getfield 37, 3) := by decide +kernel
theorem dX3_exprHas_11 : decode cX3_exprHas 11 = .ok (.getfield 83, 3) := by decide +kernel
theorem dX3_exprHas_14 : decode cX3_exprHas 14 = .ok (.iload_n 1, 1) := by decide +kernel
theorem dX3_exprHas_15 : decode cX3_exprHas 15 = .ok (.iaload, 1) := by decide +kernel
theorem dX3_exprHas_16 : decode cX3_exprHas 16 = .ok (.if_icmp .ge 79, 3) := by decide +kernel
theorem dX3_exprHas_19 : decode cX3_exprHas 19 = .ok (.aload_n 0, 1) := by decide +kernel
theorem dX3_exprHas_20 : decode cX3_exprHas 20 = .ok (.getfield 37, 3) := by decide +kernel
theorem dX3_exprHas_23 : decode cX3_exprHas 23 = .ok (.iload_n 1, 1) := by decide +kernel
theorem dX3_exprHas_24 : decode cX3_exprHas 24 = .ok (.iload 4, 2) := by decide +kernel
theorem dX3_exprHas_26 : decode cX3_exprHas 26 = .ok (.invokevirtual 86, 3) := by decide +kernel
theorem dX3_exprHas_29 : decode cX3_exprHas 29 = .ok (.ifCond .eq 7, 3) := by decide +kernel
theorem dX3_exprHas_36 : decode cX3_exprHas 36 = .ok (.aload_n 0, 1) := by decide +kernel
theorem dX3_exprHas_37 : decode cX3_exprHas 37 = .ok (.getfield 37, 3) := by decide +kernel
theorem dX3_exprHas_40 : decode cX3_exprHas 40 = .ok (.iload_n 1, 1) := by decide +kernel
theorem dX3_exprHas_41 : decode cX3_exprHas 41 = .ok (.iload 4, 2) := by decide +kernel
theorem dX3_exprHas_43 : decode cX3_exprHas 43 = .ok (.invokevirtual 90, 3) := by decide +kernel
theorem dX3_exprHas_32 : decode cX3_exprHas 32 = .ok (.iconst (-1), 1) := by decide +kernel
theorem dX3_exprHas_33 : decode cX3_exprHas 33 = .ok (.goto 13, 3) := by decide +kernel
theorem dX3_exprHas_46 : decode cX3_exprHas 46 = .ok (.istore 5, 2) := by decide +kernel
theorem dX3_exprHas_48 : decode cX3_exprHas 48 = .ok (.iconst 0, 1) := by decide +kernel
theorem dX3_exprHas_49 : decode cX3_exprHas 49 = .ok (.istore 6, 2) := by decide +kernel
theorem dX3_exprHas_51 : decode cX3_exprHas 51 = .ok (.iload 6, 2) := by decide +kernel
theorem dX3_exprHas_53 : decode cX3_exprHas 53 = .ok (.bipush 24, 2) := by decide +kernel
theorem dX3_exprHas_55 : decode cX3_exprHas 55 = .ok (.if_icmp .ge 34, 3) := by decide +kernel
theorem dX3_exprHas_58 : decode cX3_exprHas 58 = .ok (.iload 5, 2) := by decide +kernel
theorem dX3_exprHas_60 : decode cX3_exprHas 60 = .ok (.iconst (-1), 1) := by decide +kernel
theorem dX3_exprHas_61 : decode cX3_exprHas 61 = .ok (.if_icmp .eq 28, 3) := by decide +kernel
theorem dX3_exprHas_64 : decode cX3_exprHas 64 = .ok (.iload_n 3, 1) := by decide +kernel
theorem dX3_exprHas_65 : decode cX3_exprHas 65 = .ok (.aload_n 2, 1) := by decide +kernel
theorem dX3_exprHas_66 : decode cX3_exprHas 66 = .ok (.iload 5, 2) := by decide +kernel
theorem dX3_exprHas_68 : decode cX3_exprHas 68 = .ok (.iaload, 1) := by decide +kernel
theorem dX3_exprHas_69 : decode cX3_exprHas 69 = .ok (.ior, 1) := by decide +kernel
theorem dX3_exprHas_70 : decode cX3_exprHas 70 = .ok (.istore_n 3, 1) := by decide +kernel
theorem dX3_exprHas_71 : decode cX3_exprHas 71 = .ok (.aload_n 0, 1) := by decide +kernel
theorem dX3_exprHas_72 : decode cX3_exprHas 72 = .ok (.getfield 37, 3) := by decide +kernel
theorem dX3_exprHas_75 : decode cX3_exprHas 75 = .ok (.getfield 97, 3) := by decide +kernel
theorem dX3_exprHas_78 : decode cX3_exprHas 78 = .ok (.iload 5, 2) := by decide +kernel
theorem dX3_exprHas_80 : decode cX3_exprHas 80 = .ok (.iaload, 1) := by decide +kernel
theorem dX3_exprHas_81 : decode cX3_exprHas 81 = .ok (.istore 5, 2) := by decide +kernel
theorem dX3_exprHas_83 : decode cX3_exprHas 83 = .ok (.iinc 6 1, 3) := by decide +kernel
theorem dX3_exprHas_86 : decode cX3_exprHas 86 = .ok (.goto (-35), 3) := by decide +kernel
theorem dX3_exprHas_89 : decode cX3_exprHas 89 = .ok (.iinc 4 1, 3) := by decide +kernel
theorem dX3_exprHas_92 : decode cX3_exprHas 92 = .ok (.goto (-87), 3) := by decide +kernel
theorem dX3_exprHas_95 : decode cX3_exprHas 95 = .ok (.iload_n 3, 1) := by decide +kernel
theorem dX3_exprHas_96 : decode cX3_exprHas 96 = .ok (.ireturn, 1) := by decide +kernel
theorem dX3_studyPart_59 : decode cX3_studyPart 59 = .ok (.iastore, 1) := by decide +kernel
theorem dX3_studyPart_60 : decode cX3_studyPart 60 = .ok (.aload_n 0, 1) := by decide +kernel
theorem dX3_studyPart_61 : decode cX3_studyPart 61 = .ok (.getfield 25, 3) := by decide +kernel
theorem dX3_studyPart_64 : decode cX3_studyPart 64 = .ok (.iload_n 1, 1) := by decide +kernel
theorem dX3_studyPart_65 : decode cX3_studyPart 65 = .ok (.aload_n 0, 1) := by decide +kernel
theorem dX3_studyPart_66 : decode cX3_studyPart 66 = .ok (.iload 4, 2) := by decide +kernel
theorem dX3_studyPart_68 : decode cX3_studyPart 68 = .ok (.aload_n 0, 1) := by decide +kernel
theorem dX3_studyPart_69 : decode cX3_studyPart 69 = .ok (.getfield 25, 3) := by decide +kernel
theorem dX3_studyPart_72 : decode cX3_studyPart 72 = .ok (.invokevirtual 60, 3) := by decide +kernel
theorem dX3_studyPart_75 : decode cX3_studyPart 75 = .ok (.iastore, 1) := by decide +kernel
theorem dX3_studyPart_76 : decode cX3_studyPart 76 = .ok (.goto 127, 3) := by decide +kernel
theorem dX3_study_23 : decode cX3_study 23 = .ok (.iinc 1 (-1), 3) := by decide +kernel
theorem dX3_study_26 : decode cX3_study 26 = .ok (.goto (-12), 3) := by decide +kernel
theorem dX3_study_29 : decode cX3_study 29 = .ok (.iconst 0, 1) := by decide +kernel
theorem dX3_study_30 : decode cX3_study 30 = .ok (.istore_n 1, 1) := by decide +kernel
theorem dX3_study_31 : decode cX3_study 31 = .ok (.iload_n 1, 1) := by decide +kernel
theorem dX3_study_32 : decode cX3_study 32 = .ok (.aload_n 0, 1) := by decide +kernel
theorem dX3_study_33 : decode cX3_study 33 = .ok (.getfield 37, 3) := by decide +kernel
theorem dX3_study_36 : decode cX3_study 36 = .ok (.getfield 53, 3) := by decide +kernel
theorem dX3_study_39 : decode cX3_study 39 = .ok (.if_icmp .ge 50, 3) := by decide +kernel
theorem dX3_study_42 : decode cX3_study 42 = .ok (.aload_n 0, 1) := by decide +kernel
theorem dX3_study_43 : decode cX3_study 43 = .ok (.getfield 28, 3) := by decide +kernel
theorem dX3_study_46 : decode cX3_study 46 = .ok (.iload_n 1, 1) := by decide +kernel
theorem dX3_study_47 : decode cX3_study 47 = .ok (.aload_n 0, 1) := by decide +kernel
theorem dX3_study_48 : decode cX3_study 48 = .ok (.iload_n 1, 1) := by decide +kernel
theorem dX3_study_49 : decode cX3_study 49 = .ok (.invokevirtual 56, 3) := by decide +kernel
theorem dX3_study_52 : decode cX3_study 52 = .ok (.iastore, 1) := by decide +kernel
theorem dX3_study_53 : decode cX3_study 53 = .ok (.aload_n 0, 1) := by decide +kernel
theorem dX3_study_54 : decode cX3_study 54 = .ok (.getfield 31, 3) := by decide +kernel
theorem dX3_study_57 : decode cX3_study 57 = .ok (.iload_n 1, 1) := by decide +kernel
theorem dX3_study_58 : decode cX3_study 58 = .ok (.aload_n 0, 1) := by decide +kernel
theorem dX3_study_59 : decode cX3_study 59 = .ok (.iload_n 1, 1) := by decide +kernel
theorem dX3_study_60 : decode cX3_study 60 = .ok (.aload_n 0, 1) := by decide +kernel
theorem dX3_study_61 : decode cX3_study 61 = .ok (.getfield 22, 3) := by decide +kernel
theorem dX3_study_64 : decode cX3_study 64 = .ok (.invokevirtual 60, 3) := by decide +kernel
theorem dX3_study_67 : decode cX3_study 67 = .ok (.iastore, 1) := by decide +kernel
theorem dX3_study_68 : decode cX3_study 68 = .ok (.aload_n 0, 1) := by decide +kernel
theorem dX3_study_69 : decode cX3_study 69 = .ok (.getfield 34, 3) := by decide +kernel
theorem dX3_study_72 : decode cX3_study 72 = .ok (.iload_n 1, 1) := by decide +kernel
theorem dX3_study_73 : decode cX3_study 73 = .ok (.aload_n 0, 1) := by decide +kernel
theorem dX3_study_74 : decode cX3_study 74 = .ok (.iload_n 1, 1) := by decide +kernel
theorem dX3_study_75 : decode cX3_study 75 = .ok (.aload_n 0, 1) := by decide +kernel
theorem dX3_study_76 : decode cX3_study 76 = .ok (.getfield 25, 3) := by decide +kernel
theorem dX3_study_79 : decode cX3_study 79 = .ok (.invokevirtual 60, 3) := by decide +kernel
theorem dX3_study_82 : decode cX3_study 82 = .ok (.iastore, 1) := by decide +kernel
theorem dX3_study_83 : decode cX3_study 83 = .ok (.iinc 1 1, 3) := by decide +kernel
theorem dX3_study_86 : decode cX3_study 86 = .ok (.goto (-55), 3) := by decide +kernel
theorem dX3_study_89 : decode cX3_study 89 = .ok (.return_, 1) := by decide +kernel
theorem dX5_read_98 : decode cX5_read 98 = .ok (.aload_n 0, 1) := by decide +kernel
theorem dX5_read_99 : decode cX5_read 99 = .ok (.invokevirtual 77, 3) := by decide +kernel
theorem wm_933 : (Jvm.Cond.methodLink "GrownKinds$Reader" (77 : Nat) ({ cls := "GrownKinds$Reader", name := "refuseMeaningless", desc := "()V" } : Jvm.MethodName)) ∈ gT := gT_in (List.mem_of_getElem? (i := 933) (by decide +kernel)) (by decide +kernel)
theorem wm_935 : (Jvm.Cond.instanceMethod ({ cls := "GrownKinds$Reader", name := "refuseMeaningless", desc := "()V" } : Jvm.MethodName)) ∈ gT := gT_in (List.mem_of_getElem? (i := 935) (by decide +kernel)) (by decide +kernel)
theorem wm_25 : Cond.selects "GrownKinds$Reader" ⟨"GrownKinds$Reader", "refuseMeaningless", "()V"⟩ ⟨"GrownKinds$Reader", "refuseMeaningless", "()V"⟩ ∈ gT := gT_in (List.mem_of_getElem? (i := 25) (by decide +kernel)) (by decide +kernel)
theorem wm_936 : (Jvm.Cond.code ({ cls := "GrownKinds$Reader", name := "refuseMeaningless", desc := "()V" } : Jvm.MethodName) prog_7_method_3_code (2 : Nat) (Option.none : Option Jvm.ClassFile.FieldType)) ∈ gT := gT_in (List.mem_of_getElem? (i := 936) (by decide +kernel)) (by decide +kernel)
theorem dX5_refuseMeaningless_0 : decode cX5_refuseMeaningless 0 = .ok (.iconst 0, 1) := by decide +kernel
theorem dX5_refuseMeaningless_1 : decode cX5_refuseMeaningless 1 = .ok (.istore_n 1, 1) := by decide +kernel
theorem dX5_refuseMeaningless_2 : decode cX5_refuseMeaningless 2 = .ok (.iload_n 1, 1) := by decide +kernel
theorem dX5_refuseMeaningless_3 : decode cX5_refuseMeaningless 3 = .ok (.aload_n 0, 1) := by decide +kernel
theorem dX5_refuseMeaningless_4 : decode cX5_refuseMeaningless 4 = .ok (.getfield 47, 3) := by decide +kernel
theorem dX5_refuseMeaningless_7 : decode cX5_refuseMeaningless 7 = .ok (.getfield 86, 3) := by decide +kernel
theorem dX5_refuseMeaningless_10 : decode cX5_refuseMeaningless 10 = .ok (.if_icmp .ge 55, 3) := by decide +kernel
theorem dX5_refuseMeaningless_13 : decode cX5_refuseMeaningless 13 = .ok (.aload_n 0, 1) := by decide +kernel
theorem dX5_refuseMeaningless_14 : decode cX5_refuseMeaningless 14 = .ok (.getfield 9, 3) := by decide +kernel
theorem dX5_refuseMeaningless_17 : decode cX5_refuseMeaningless 17 = .ok (.ifCond .ne 48, 3) := by decide +kernel
theorem dX5_refuseMeaningless_20 : decode cX5_refuseMeaningless 20 = .ok (.aload_n 0, 1) := by decide +kernel
theorem dX5_refuseMeaningless_21 : decode cX5_refuseMeaningless 21 = .ok (.getfield 56, 3) := by decide +kernel
theorem dX5_refuseMeaningless_24 : decode cX5_refuseMeaningless 24 = .ok (.getfield 89, 3) := by decide +kernel
theorem wm_327 : (Jvm.Cond.fieldLink "GrownKinds$Reader" (89 : Nat) "GrownKinds$Leaning" "kindLeans" "[I") ∈ gT := gT_in (List.mem_of_getElem? (i := 327) (by decide +kernel)) (by decide +kernel)
theorem dX5_refuseMeaningless_27 : decode cX5_refuseMeaningless 27 = .ok (.iload_n 1, 1) := by decide +kernel
theorem dX5_refuseMeaningless_28 : decode cX5_refuseMeaningless 28 = .ok (.invokestatic 92, 3) := by decide +kernel
theorem wm_937 : (Jvm.Cond.methodLink "GrownKinds$Reader" (92 : Nat) ({ cls := "GrownKinds$Leaning", name := "closure", desc := "([II)I" } : Jvm.MethodName)) ∈ gT := gT_in (List.mem_of_getElem? (i := 937) (by decide +kernel)) (by decide +kernel)
theorem wm_938 : (Jvm.Cond.static ({ cls := "GrownKinds$Leaning", name := "closure", desc := "([II)I" } : Jvm.MethodName)) ∈ gT := gT_in (List.mem_of_getElem? (i := 938) (by decide +kernel)) (by decide +kernel)
theorem wm_939 : (Jvm.Cond.code ({ cls := "GrownKinds$Leaning", name := "closure", desc := "([II)I" } : Jvm.MethodName) prog_5_method_3_code (5 : Nat) (Option.some Jvm.ClassFile.FieldType.int)) ∈ gT := gT_in (List.mem_of_getElem? (i := 939) (by decide +kernel)) (by decide +kernel)
theorem dX3_closure_0 : decode cX3_closure 0 = .ok (.aload_n 0, 1) := by decide +kernel
theorem dX3_closure_1 : decode cX3_closure 1 = .ok (.iload_n 1, 1) := by decide +kernel
theorem dX3_closure_2 : decode cX3_closure 2 = .ok (.iaload, 1) := by decide +kernel
theorem dX3_closure_3 : decode cX3_closure 3 = .ok (.istore_n 2, 1) := by decide +kernel
theorem dX3_closure_4 : decode cX3_closure 4 = .ok (.iconst 0, 1) := by decide +kernel
theorem dX3_closure_5 : decode cX3_closure 5 = .ok (.istore_n 3, 1) := by decide +kernel
theorem dX3_closure_6 : decode cX3_closure 6 = .ok (.iload_n 3, 1) := by decide +kernel
theorem dX3_closure_7 : decode cX3_closure 7 = .ok (.bipush 6, 2) := by decide +kernel
theorem dX3_closure_9 : decode cX3_closure 9 = .ok (.if_icmp .ge 41, 3) := by decide +kernel
theorem dX3_closure_12 : decode cX3_closure 12 = .ok (.iconst 0, 1) := by decide +kernel
theorem dX3_closure_13 : decode cX3_closure 13 = .ok (.istore 4, 2) := by decide +kernel
theorem dX3_closure_15 : decode cX3_closure 15 = .ok (.iload 4, 2) := by decide +kernel
theorem dX3_closure_17 : decode cX3_closure 17 = .ok (.bipush 6, 2) := by decide +kernel
theorem dX3_closure_19 : decode cX3_closure 19 = .ok (.if_icmp .ge 25, 3) := by decide +kernel
theorem dX3_closure_22 : decode cX3_closure 22 = .ok (.iload_n 2, 1) := by decide +kernel
theorem dX3_closure_23 : decode cX3_closure 23 = .ok (.iload 4, 2) := by decide +kernel
theorem dX3_closure_25 : decode cX3_closure 25 = .ok (.ishr, 1) := by decide +kernel
theorem dX3_closure_26 : decode cX3_closure 26 = .ok (.iconst 1, 1) := by decide +kernel
theorem dX3_closure_27 : decode cX3_closure 27 = .ok (.iand, 1) := by decide +kernel
theorem dX3_closure_28 : decode cX3_closure 28 = .ok (.ifCond .eq 10, 3) := by decide +kernel
theorem dX3_closure_38 : decode cX3_closure 38 = .ok (.iinc 4 1, 3) := by decide +kernel
theorem dX3_closure_41 : decode cX3_closure 41 = .ok (.goto (-26), 3) := by decide +kernel
theorem dX3_closure_31 : decode cX3_closure 31 = .ok (.iload_n 2, 1) := by decide +kernel
theorem dX3_closure_32 : decode cX3_closure 32 = .ok (.aload_n 0, 1) := by decide +kernel
theorem dX3_closure_33 : decode cX3_closure 33 = .ok (.iload 4, 2) := by decide +kernel
theorem dX3_closure_35 : decode cX3_closure 35 = .ok (.iaload, 1) := by decide +kernel
theorem dX3_closure_36 : decode cX3_closure 36 = .ok (.ior, 1) := by decide +kernel
theorem dX3_closure_37 : decode cX3_closure 37 = .ok (.istore_n 2, 1) := by decide +kernel
theorem dX3_closure_44 : decode cX3_closure 44 = .ok (.iinc 3 1, 3) := by decide +kernel
theorem dX3_closure_47 : decode cX3_closure 47 = .ok (.goto (-41), 3) := by decide +kernel
theorem dX3_closure_50 : decode cX3_closure 50 = .ok (.iload_n 2, 1) := by decide +kernel
theorem dX3_closure_51 : decode cX3_closure 51 = .ok (.ireturn, 1) := by decide +kernel
theorem dX5_refuseMeaningless_31 : decode cX5_refuseMeaningless 31 = .ok (.iload_n 1, 1) := by decide +kernel
theorem dX5_refuseMeaningless_32 : decode cX5_refuseMeaningless 32 = .ok (.ishr, 1) := by decide +kernel
theorem dX5_refuseMeaningless_33 : decode cX5_refuseMeaningless 33 = .ok (.iconst 1, 1) := by decide +kernel
theorem dX5_refuseMeaningless_34 : decode cX5_refuseMeaningless 34 = .ok (.iand, 1) := by decide +kernel
theorem dX5_refuseMeaningless_35 : decode cX5_refuseMeaningless 35 = .ok (.ifCond .ne 14, 3) := by decide +kernel
theorem dX5_refuseMeaningless_49 : decode cX5_refuseMeaningless 49 = .ok (.aload_n 0, 1) := by decide +kernel
theorem dX5_refuseMeaningless_50 : decode cX5_refuseMeaningless 50 = .ok (.iconst 4, 1) := by decide +kernel
theorem dX5_refuseMeaningless_51 : decode cX5_refuseMeaningless 51 = .ok (.putfield 9, 3) := by decide +kernel
theorem dX5_refuseMeaningless_54 : decode cX5_refuseMeaningless 54 = .ok (.aload_n 0, 1) := by decide +kernel
theorem dX5_refuseMeaningless_55 : decode cX5_refuseMeaningless 55 = .ok (.iload_n 1, 1) := by decide +kernel
theorem dX5_refuseMeaningless_56 : decode cX5_refuseMeaningless 56 = .ok (.putfield 15, 3) := by decide +kernel
theorem dX5_refuseMeaningless_59 : decode cX5_refuseMeaningless 59 = .ok (.iinc 1 1, 3) := by decide +kernel
theorem dX5_refuseMeaningless_62 : decode cX5_refuseMeaningless 62 = .ok (.goto (-60), 3) := by decide +kernel
theorem dX5_refuseMeaningless_38 : decode cX5_refuseMeaningless 38 = .ok (.aload_n 0, 1) := by decide +kernel
theorem dX5_refuseMeaningless_39 : decode cX5_refuseMeaningless 39 = .ok (.getfield 56, 3) := by decide +kernel
theorem dX5_refuseMeaningless_42 : decode cX5_refuseMeaningless 42 = .ok (.iload_n 1, 1) := by decide +kernel
theorem dX5_refuseMeaningless_43 : decode cX5_refuseMeaningless 43 = .ok (.invokevirtual 96, 3) := by decide +kernel
theorem wm_940 : (Jvm.Cond.methodLink "GrownKinds$Reader" (96 : Nat) ({ cls := "GrownKinds$Leaning", name := "holdsEmpty", desc := "(I)Z" } : Jvm.MethodName)) ∈ gT := gT_in (List.mem_of_getElem? (i := 940) (by decide +kernel)) (by decide +kernel)
theorem wm_941 : (Jvm.Cond.instanceMethod ({ cls := "GrownKinds$Leaning", name := "holdsEmpty", desc := "(I)Z" } : Jvm.MethodName)) ∈ gT := gT_in (List.mem_of_getElem? (i := 941) (by decide +kernel)) (by decide +kernel)
theorem wm_942 : (Jvm.Cond.selects "GrownKinds$Leaning" ({ cls := "GrownKinds$Leaning", name := "holdsEmpty", desc := "(I)Z" } : Jvm.MethodName) ({ cls := "GrownKinds$Leaning", name := "holdsEmpty", desc := "(I)Z" } : Jvm.MethodName)) ∈ gT := gT_in (List.mem_of_getElem? (i := 942) (by decide +kernel)) (by decide +kernel)
theorem wm_943 : (Jvm.Cond.code ({ cls := "GrownKinds$Leaning", name := "holdsEmpty", desc := "(I)Z" } : Jvm.MethodName) prog_5_method_12_code (3 : Nat) (Option.some Jvm.ClassFile.FieldType.boolean)) ∈ gT := gT_in (List.mem_of_getElem? (i := 943) (by decide +kernel)) (by decide +kernel)
theorem dX3_holdsEmpty_0 : decode cX3_holdsEmpty 0 = .ok (.iconst 0, 1) := by decide +kernel
theorem dX3_holdsEmpty_1 : decode cX3_holdsEmpty 1 = .ok (.istore_n 2, 1) := by decide +kernel
theorem dX3_holdsEmpty_2 : decode cX3_holdsEmpty 2 = .ok (.iload_n 2, 1) := by decide +kernel
theorem dX3_holdsEmpty_3 : decode cX3_holdsEmpty 3 = .ok (.aload_n 0, 1) := by decide +kernel
theorem dX3_holdsEmpty_4 : decode cX3_holdsEmpty 4 = .ok (.getfield 37, 3) := by decide +kernel
theorem dX3_holdsEmpty_7 : decode cX3_holdsEmpty 7 = .ok (.getfield 44, 3) := by decide +kernel
theorem dX3_holdsEmpty_10 : decode cX3_holdsEmpty 10 = .ok (.if_icmp .ge 40, 3) := by decide +kernel
theorem dX3_holdsEmpty_13 : decode cX3_holdsEmpty 13 = .ok (.aload_n 0, 1) := by decide +kernel
theorem dX3_holdsEmpty_14 : decode cX3_holdsEmpty 14 = .ok (.getfield 37, 3) := by decide +kernel
theorem dX3_holdsEmpty_17 : decode cX3_holdsEmpty 17 = .ok (.getfield 100, 3) := by decide +kernel
theorem wm_261 : (Jvm.Cond.fieldLink "GrownKinds$Leaning" (100 : Nat) "GrownKinds$Grammar" "home" "[I") ∈ gT := gT_in (List.mem_of_getElem? (i := 261) (by decide +kernel)) (by decide +kernel)
theorem dX3_holdsEmpty_20 : decode cX3_holdsEmpty 20 = .ok (.iload_n 2, 1) := by decide +kernel
theorem dX3_holdsEmpty_21 : decode cX3_holdsEmpty 21 = .ok (.iaload, 1) := by decide +kernel
theorem dX3_holdsEmpty_22 : decode cX3_holdsEmpty 22 = .ok (.iload_n 1, 1) := by decide +kernel
theorem dX3_holdsEmpty_23 : decode cX3_holdsEmpty 23 = .ok (.if_icmp .ne 21, 3) := by decide +kernel
theorem dX3_holdsEmpty_44 : decode cX3_holdsEmpty 44 = .ok (.iinc 2 1, 3) := by decide +kernel
theorem dX3_holdsEmpty_47 : decode cX3_holdsEmpty 47 = .ok (.goto (-45), 3) := by decide +kernel
theorem dX3_holdsEmpty_26 : decode cX3_holdsEmpty 26 = .ok (.aload_n 0, 1) := by decide +kernel
theorem dX3_holdsEmpty_27 : decode cX3_holdsEmpty 27 = .ok (.aload_n 0, 1) := by decide +kernel
theorem dX3_holdsEmpty_28 : decode cX3_holdsEmpty 28 = .ok (.getfield 37, 3) := by decide +kernel
theorem dX3_holdsEmpty_31 : decode cX3_holdsEmpty 31 = .ok (.getfield 77, 3) := by decide +kernel
theorem dX3_holdsEmpty_34 : decode cX3_holdsEmpty 34 = .ok (.iload_n 2, 1) := by decide +kernel
theorem dX3_holdsEmpty_35 : decode cX3_holdsEmpty 35 = .ok (.iaload, 1) := by decide +kernel
theorem dX3_holdsEmpty_36 : decode cX3_holdsEmpty 36 = .ok (.invokevirtual 80, 3) := by decide +kernel
theorem dX3_holdsEmpty_39 : decode cX3_holdsEmpty 39 = .ok (.ifCond .eq 5, 3) := by decide +kernel
theorem dX3_holdsEmpty_42 : decode cX3_holdsEmpty 42 = .ok (.iconst 1, 1) := by decide +kernel
theorem dX3_holdsEmpty_43 : decode cX3_holdsEmpty 43 = .ok (.ireturn, 1) := by decide +kernel
theorem dX3_holdsEmpty_50 : decode cX3_holdsEmpty 50 = .ok (.iconst 0, 1) := by decide +kernel
theorem dX3_holdsEmpty_51 : decode cX3_holdsEmpty 51 = .ok (.ireturn, 1) := by decide +kernel
theorem dX5_refuseMeaningless_46 : decode cX5_refuseMeaningless 46 = .ok (.ifCond .eq 13, 3) := by decide +kernel
theorem dX5_refuseMeaningless_65 : decode cX5_refuseMeaningless 65 = .ok (.return_, 1) := by decide +kernel
theorem dX5_read_102 : decode cX5_read 102 = .ok (.aload_n 0, 1) := by decide +kernel
theorem dX5_read_103 : decode cX5_read 103 = .ok (.getfield 9, 3) := by decide +kernel
theorem dX5_read_106 : decode cX5_read 106 = .ok (.ifCond .ne 10, 3) := by decide +kernel
theorem dX5_read_116 : decode cX5_read 116 = .ok (.aload_n 0, 1) := by decide +kernel
theorem dX5_read_117 : decode cX5_read 117 = .ok (.getfield 47, 3) := by decide +kernel
theorem dX5_read_120 : decode cX5_read 120 = .ok (.getfield 83, 3) := by decide +kernel
theorem dX5_read_123 : decode cX5_read 123 = .ok (.ireturn, 1) := by decide +kernel
theorem dX5_read_109 : decode cX5_read 109 = .ok (.aload_n 0, 1) := by decide +kernel
theorem dX5_read_110 : decode cX5_read 110 = .ok (.getfield 56, 3) := by decide +kernel
theorem dX5_read_113 : decode cX5_read 113 = .ok (.invokevirtual 80, 3) := by decide +kernel
theorem wm_944 : (Jvm.Cond.methodLink "GrownKinds$Reader" (80 : Nat) ({ cls := "GrownKinds$Leaning", name := "layOrder", desc := "()V" } : Jvm.MethodName)) ∈ gT := gT_in (List.mem_of_getElem? (i := 944) (by decide +kernel)) (by decide +kernel)
theorem wm_945 : (Jvm.Cond.instanceMethod ({ cls := "GrownKinds$Leaning", name := "layOrder", desc := "()V" } : Jvm.MethodName)) ∈ gT := gT_in (List.mem_of_getElem? (i := 945) (by decide +kernel)) (by decide +kernel)
theorem wm_946 : (Jvm.Cond.selects "GrownKinds$Leaning" ({ cls := "GrownKinds$Leaning", name := "layOrder", desc := "()V" } : Jvm.MethodName) ({ cls := "GrownKinds$Leaning", name := "layOrder", desc := "()V" } : Jvm.MethodName)) ∈ gT := gT_in (List.mem_of_getElem? (i := 946) (by decide +kernel)) (by decide +kernel)
theorem wm_947 : (Jvm.Cond.code ({ cls := "GrownKinds$Leaning", name := "layOrder", desc := "()V" } : Jvm.MethodName) prog_5_method_13_code (6 : Nat) (Option.none : Option Jvm.ClassFile.FieldType)) ∈ gT := gT_in (List.mem_of_getElem? (i := 947) (by decide +kernel)) (by decide +kernel)
theorem dX3_layOrder_0 : decode cX3_layOrder 0 = .ok (.lconst 0, 1) := by decide +kernel
theorem dX3_layOrder_1 : decode cX3_layOrder 1 = .ok (.lstore_n 1, 1) := by decide +kernel
theorem dX3_layOrder_2 : decode cX3_layOrder 2 = .ok (.iconst 1, 1) := by decide +kernel
theorem dX3_layOrder_3 : decode cX3_layOrder 3 = .ok (.istore_n 3, 1) := by decide +kernel
theorem dX3_layOrder_4 : decode cX3_layOrder 4 = .ok (.aload_n 0, 1) := by decide +kernel
theorem dX3_layOrder_5 : decode cX3_layOrder 5 = .ok (.getfield 37, 3) := by decide +kernel
theorem dX3_layOrder_8 : decode cX3_layOrder 8 = .ok (.iconst 0, 1) := by decide +kernel
theorem dX3_layOrder_9 : decode cX3_layOrder 9 = .ok (.putfield 103, 3) := by decide +kernel
theorem wm_233 : (Jvm.Cond.fieldLink "GrownKinds$Leaning" (103 : Nat) "GrownKinds$Grammar" "steps" "I") ∈ gT := gT_in (List.mem_of_getElem? (i := 233) (by decide +kernel)) (by decide +kernel)
theorem dX3_layOrder_12 : decode cX3_layOrder 12 = .ok (.iconst 0, 1) := by decide +kernel
theorem dX3_layOrder_13 : decode cX3_layOrder 13 = .ok (.istore 4, 2) := by decide +kernel
theorem dX3_layOrder_15 : decode cX3_layOrder 15 = .ok (.iload 4, 2) := by decide +kernel
theorem dX3_layOrder_17 : decode cX3_layOrder 17 = .ok (.bipush 54, 2) := by decide +kernel
theorem dX3_layOrder_19 : decode cX3_layOrder 19 = .ok (.if_icmp .ge 102, 3) := by decide +kernel
theorem dX3_layOrder_22 : decode cX3_layOrder 22 = .ok (.iload_n 3, 1) := by decide +kernel
theorem dX3_layOrder_23 : decode cX3_layOrder 23 = .ok (.ifCond .eq 98, 3) := by decide +kernel
theorem dX3_layOrder_26 : decode cX3_layOrder 26 = .ok (.iconst 0, 1) := by decide +kernel
theorem dX3_layOrder_27 : decode cX3_layOrder 27 = .ok (.istore_n 3, 1) := by decide +kernel
theorem dX3_layOrder_28 : decode cX3_layOrder 28 = .ok (.bipush 6, 2) := by decide +kernel
theorem dX3_layOrder_30 : decode cX3_layOrder 30 = .ok (.iconst 2, 1) := by decide +kernel
theorem dX3_layOrder_31 : decode cX3_layOrder 31 = .ok (.aload_n 0, 1) := by decide +kernel
theorem dX3_layOrder_32 : decode cX3_layOrder 32 = .ok (.getfield 37, 3) := by decide +kernel
theorem dX3_layOrder_35 : decode cX3_layOrder 35 = .ok (.getfield 44, 3) := by decide +kernel
theorem dX3_layOrder_38 : decode cX3_layOrder 38 = .ok (.imul, 1) := by decide +kernel
theorem dX3_layOrder_39 : decode cX3_layOrder 39 = .ok (.iadd, 1) := by decide +kernel
theorem dX3_layOrder_40 : decode cX3_layOrder 40 = .ok (.iconst 1, 1) := by decide +kernel
theorem dX3_layOrder_41 : decode cX3_layOrder 41 = .ok (.isub, 1) := by decide +kernel
theorem dX3_layOrder_42 : decode cX3_layOrder 42 = .ok (.istore 5, 2) := by decide +kernel
theorem dX3_layOrder_44 : decode cX3_layOrder 44 = .ok (.iload 5, 2) := by decide +kernel
theorem dX3_layOrder_46 : decode cX3_layOrder 46 = .ok (.ifCond .lt 69, 3) := by decide +kernel
theorem dX3_layOrder_49 : decode cX3_layOrder 49 = .ok (.lload_n 1, 1) := by decide +kernel
theorem dX3_layOrder_50 : decode cX3_layOrder 50 = .ok (.iload 5, 2) := by decide +kernel
theorem dX3_layOrder_52 : decode cX3_layOrder 52 = .ok (.lshr, 1) := by decide +kernel
theorem dX3_layOrder_53 : decode cX3_layOrder 53 = .ok (.lconst 1, 1) := by decide +kernel
theorem dX3_layOrder_54 : decode cX3_layOrder 54 = .ok (.land, 1) := by decide +kernel
theorem dX3_layOrder_55 : decode cX3_layOrder 55 = .ok (.lconst 0, 1) := by decide +kernel
theorem dX3_layOrder_56 : decode cX3_layOrder 56 = .ok (.lcmp, 1) := by decide +kernel
theorem dX3_layOrder_57 : decode cX3_layOrder 57 = .ok (.ifCond .ne 52, 3) := by decide +kernel
theorem dX3_layOrder_109 : decode cX3_layOrder 109 = .ok (.iinc 5 (-1), 3) := by decide +kernel
theorem dX3_layOrder_112 : decode cX3_layOrder 112 = .ok (.goto (-68), 3) := by decide +kernel
theorem dX3_layOrder_60 : decode cX3_layOrder 60 = .ok (.aload_n 0, 1) := by decide +kernel
theorem dX3_layOrder_61 : decode cX3_layOrder 61 = .ok (.iload 5, 2) := by decide +kernel
theorem dX3_layOrder_63 : decode cX3_layOrder 63 = .ok (.lload_n 1, 1) := by decide +kernel
theorem dX3_layOrder_64 : decode cX3_layOrder 64 = .ok (.invokevirtual 106, 3) := by decide +kernel
theorem wm_948 : (Jvm.Cond.methodLink "GrownKinds$Leaning" (106 : Nat) ({ cls := "GrownKinds$Leaning", name := "isReady", desc := "(IJ)Z" } : Jvm.MethodName)) ∈ gT := gT_in (List.mem_of_getElem? (i := 948) (by decide +kernel)) (by decide +kernel)
theorem wm_950 : (Jvm.Cond.instanceMethod ({ cls := "GrownKinds$Leaning", name := "isReady", desc := "(IJ)Z" } : Jvm.MethodName)) ∈ gT := gT_in (List.mem_of_getElem? (i := 950) (by decide +kernel)) (by decide +kernel)
theorem wm_26 : Cond.selects "GrownKinds$Leaning" ⟨"GrownKinds$Leaning", "isReady", "(IJ)Z"⟩ ⟨"GrownKinds$Leaning", "isReady", "(IJ)Z"⟩ ∈ gT := gT_in (List.mem_of_getElem? (i := 26) (by decide +kernel)) (by decide +kernel)
theorem wm_951 : (Jvm.Cond.code ({ cls := "GrownKinds$Leaning", name := "isReady", desc := "(IJ)Z" } : Jvm.MethodName) prog_5_method_16_code (8 : Nat) (Option.some Jvm.ClassFile.FieldType.boolean)) ∈ gT := gT_in (List.mem_of_getElem? (i := 951) (by decide +kernel)) (by decide +kernel)
theorem dX3_isReady_0 : decode cX3_isReady 0 = .ok (.iload_n 1, 1) := by decide +kernel
theorem dX3_isReady_1 : decode cX3_isReady 1 = .ok (.bipush 6, 2) := by decide +kernel
theorem dX3_isReady_3 : decode cX3_isReady 3 = .ok (.if_icmp .ge 29, 3) := by decide +kernel
theorem dX3_isReady_32 : decode cX3_isReady 32 = .ok (.iload_n 1, 1) := by decide +kernel
theorem dX3_isReady_33 : decode cX3_isReady 33 = .ok (.bipush 6, 2) := by decide +kernel
theorem dX3_isReady_35 : decode cX3_isReady 35 = .ok (.isub, 1) := by decide +kernel
theorem dX3_isReady_36 : decode cX3_isReady 36 = .ok (.iconst 2, 1) := by decide +kernel
theorem dX3_isReady_37 : decode cX3_isReady 37 = .ok (.idiv, 1) := by decide +kernel
theorem dX3_isReady_38 : decode cX3_isReady 38 = .ok (.istore 4, 2) := by decide +kernel
theorem dX3_isReady_40 : decode cX3_isReady 40 = .ok (.iload_n 1, 1) := by decide +kernel
theorem dX3_isReady_41 : decode cX3_isReady 41 = .ok (.bipush 6, 2) := by decide +kernel
theorem dX3_isReady_43 : decode cX3_isReady 43 = .ok (.isub, 1) := by decide +kernel
theorem dX3_isReady_44 : decode cX3_isReady 44 = .ok (.iconst 2, 1) := by decide +kernel
theorem dX3_isReady_45 : decode cX3_isReady 45 = .ok (.irem, 1) := by decide +kernel
theorem dX3_isReady_46 : decode cX3_isReady 46 = .ok (.iconst 1, 1) := by decide +kernel
theorem dX3_isReady_47 : decode cX3_isReady 47 = .ok (.if_icmp .ne 11, 3) := by decide +kernel
theorem dX3_isReady_58 : decode cX3_isReady 58 = .ok (.aload_n 0, 1) := by decide +kernel
theorem dX3_isReady_59 : decode cX3_isReady 59 = .ok (.getfield 37, 3) := by decide +kernel
theorem dX3_isReady_62 : decode cX3_isReady 62 = .ok (.getfield 97, 3) := by decide +kernel
theorem dX3_isReady_65 : decode cX3_isReady 65 = .ok (.iload 4, 2) := by decide +kernel
theorem dX3_isReady_67 : decode cX3_isReady 67 = .ok (.iaload, 1) := by decide +kernel
theorem dX3_isReady_68 : decode cX3_isReady 68 = .ok (.istore 5, 2) := by decide +kernel
theorem dX3_isReady_70 : decode cX3_isReady 70 = .ok (.aload_n 0, 1) := by decide +kernel
theorem dX3_isReady_71 : decode cX3_isReady 71 = .ok (.iload 5, 2) := by decide +kernel
theorem dX3_isReady_73 : decode cX3_isReady 73 = .ok (.iconst (-1), 1) := by decide +kernel
theorem dX3_isReady_74 : decode cX3_isReady 74 = .ok (.invokevirtual 94, 3) := by decide +kernel
theorem dX3_isReady_77 : decode cX3_isReady 77 = .ok (.istore 6, 2) := by decide +kernel
theorem dX3_isReady_79 : decode cX3_isReady 79 = .ok (.iload 5, 2) := by decide +kernel
theorem dX3_isReady_81 : decode cX3_isReady 81 = .ok (.iconst (-1), 1) := by decide +kernel
theorem dX3_isReady_82 : decode cX3_isReady 82 = .ok (.if_icmp .eq 16, 3) := by decide +kernel
theorem dX3_isReady_98 : decode cX3_isReady 98 = .ok (.iconst 0, 1) := by decide +kernel
theorem dX3_isReady_85 : decode cX3_isReady 85 = .ok (.aload_n 0, 1) := by decide +kernel
theorem dX3_isReady_86 : decode cX3_isReady 86 = .ok (.iload 4, 2) := by decide +kernel
theorem dX3_isReady_88 : decode cX3_isReady 88 = .ok (.invokevirtual 80, 3) := by decide +kernel
theorem dX3_isReady_91 : decode cX3_isReady 91 = .ok (.ifCond .eq 7, 3) := by decide +kernel
theorem dX3_isReady_94 : decode cX3_isReady 94 = .ok (.iconst 1, 1) := by decide +kernel
theorem dX3_isReady_95 : decode cX3_isReady 95 = .ok (.goto 4, 3) := by decide +kernel
theorem dX3_isReady_99 : decode cX3_isReady 99 = .ok (.istore 7, 2) := by decide +kernel
theorem dX3_isReady_101 : decode cX3_isReady 101 = .ok (.iload 6, 2) := by decide +kernel
theorem dX3_isReady_103 : decode cX3_isReady 103 = .ok (.ifCond .eq 12, 3) := by decide +kernel
theorem dX3_isReady_115 : decode cX3_isReady 115 = .ok (.iload 7, 2) := by decide +kernel
theorem dX3_isReady_117 : decode cX3_isReady 117 = .ok (.ifCond .eq 12, 3) := by decide +kernel
theorem dX3_isReady_129 : decode cX3_isReady 129 = .ok (.iconst 1, 1) := by decide +kernel
theorem dX3_isReady_130 : decode cX3_isReady 130 = .ok (.goto 4, 3) := by decide +kernel
theorem dX3_isReady_134 : decode cX3_isReady 134 = .ok (.ireturn, 1) := by decide +kernel
theorem dX3_isReady_120 : decode cX3_isReady 120 = .ok (.lload_n 2, 1) := by decide +kernel
theorem dX3_isReady_121 : decode cX3_isReady 121 = .ok (.iload 5, 2) := by decide +kernel
theorem dX3_isReady_123 : decode cX3_isReady 123 = .ok (.invokestatic 123, 3) := by decide +kernel
theorem wm_956 : (Jvm.Cond.methodLink "GrownKinds$Leaning" (123 : Nat) ({ cls := "GrownKinds$Leaning", name := "hasTail", desc := "(JI)Z" } : Jvm.MethodName)) ∈ gT := gT_in (List.mem_of_getElem? (i := 956) (by decide +kernel)) (by decide +kernel)
theorem wm_957 : (Jvm.Cond.static ({ cls := "GrownKinds$Leaning", name := "hasTail", desc := "(JI)Z" } : Jvm.MethodName)) ∈ gT := gT_in (List.mem_of_getElem? (i := 957) (by decide +kernel)) (by decide +kernel)
theorem wm_958 : (Jvm.Cond.code ({ cls := "GrownKinds$Leaning", name := "hasTail", desc := "(JI)Z" } : Jvm.MethodName) prog_5_method_15_code (3 : Nat) (Option.some Jvm.ClassFile.FieldType.boolean)) ∈ gT := gT_in (List.mem_of_getElem? (i := 958) (by decide +kernel)) (by decide +kernel)
theorem dX3_hasTail_0 : decode cX3_hasTail 0 = .ok (.lload_n 0, 1) := by decide +kernel
theorem dX3_hasTail_1 : decode cX3_hasTail 1 = .ok (.bipush 6, 2) := by decide +kernel
theorem dX3_hasTail_3 : decode cX3_hasTail 3 = .ok (.iconst 2, 1) := by decide +kernel
theorem dX3_hasTail_4 : decode cX3_hasTail 4 = .ok (.iload_n 2, 1) := by decide +kernel
theorem dX3_hasTail_5 : decode cX3_hasTail 5 = .ok (.imul, 1) := by decide +kernel
theorem dX3_hasTail_6 : decode cX3_hasTail 6 = .ok (.iadd, 1) := by decide +kernel
theorem dX3_hasTail_7 : decode cX3_hasTail 7 = .ok (.lshr, 1) := by decide +kernel
theorem dX3_hasTail_8 : decode cX3_hasTail 8 = .ok (.lconst 1, 1) := by decide +kernel
theorem dX3_hasTail_9 : decode cX3_hasTail 9 = .ok (.land, 1) := by decide +kernel
theorem dX3_hasTail_10 : decode cX3_hasTail 10 = .ok (.lconst 0, 1) := by decide +kernel
theorem dX3_hasTail_11 : decode cX3_hasTail 11 = .ok (.lcmp, 1) := by decide +kernel
theorem dX3_hasTail_12 : decode cX3_hasTail 12 = .ok (.ifCond .eq 7, 3) := by decide +kernel
theorem dX3_hasTail_19 : decode cX3_hasTail 19 = .ok (.iconst 0, 1) := by decide +kernel
theorem dX3_hasTail_20 : decode cX3_hasTail 20 = .ok (.ireturn, 1) := by decide +kernel
theorem dX3_hasTail_15 : decode cX3_hasTail 15 = .ok (.iconst 1, 1) := by decide +kernel
theorem dX3_hasTail_16 : decode cX3_hasTail 16 = .ok (.goto 4, 3) := by decide +kernel
theorem dX3_isReady_126 : decode cX3_isReady 126 = .ok (.ifCond .eq 7, 3) := by decide +kernel
theorem dX3_isReady_133 : decode cX3_isReady 133 = .ok (.iconst 0, 1) := by decide +kernel
theorem dX3_isReady_106 : decode cX3_isReady 106 = .ok (.lload_n 2, 1) := by decide +kernel
theorem dX3_isReady_107 : decode cX3_isReady 107 = .ok (.iload 4, 2) := by decide +kernel
theorem dX3_isReady_109 : decode cX3_isReady 109 = .ok (.invokestatic 119, 3) := by decide +kernel
theorem wm_963 : (Jvm.Cond.methodLink "GrownKinds$Leaning" (119 : Nat) ({ cls := "GrownKinds$Leaning", name := "hasOwn", desc := "(JI)Z" } : Jvm.MethodName)) ∈ gT := gT_in (List.mem_of_getElem? (i := 963) (by decide +kernel)) (by decide +kernel)
theorem wm_964 : (Jvm.Cond.static ({ cls := "GrownKinds$Leaning", name := "hasOwn", desc := "(JI)Z" } : Jvm.MethodName)) ∈ gT := gT_in (List.mem_of_getElem? (i := 964) (by decide +kernel)) (by decide +kernel)
theorem wm_965 : (Jvm.Cond.code ({ cls := "GrownKinds$Leaning", name := "hasOwn", desc := "(JI)Z" } : Jvm.MethodName) prog_5_method_14_code (3 : Nat) (Option.some Jvm.ClassFile.FieldType.boolean)) ∈ gT := gT_in (List.mem_of_getElem? (i := 965) (by decide +kernel)) (by decide +kernel)
theorem dX3_hasOwn_0 : decode cX3_hasOwn 0 = .ok (.lload_n 0, 1) := by decide +kernel
theorem dX3_hasOwn_1 : decode cX3_hasOwn 1 = .ok (.bipush 6, 2) := by decide +kernel
theorem dX3_hasOwn_3 : decode cX3_hasOwn 3 = .ok (.iconst 2, 1) := by decide +kernel
theorem dX3_hasOwn_4 : decode cX3_hasOwn 4 = .ok (.iload_n 2, 1) := by decide +kernel
theorem dX3_hasOwn_5 : decode cX3_hasOwn 5 = .ok (.imul, 1) := by decide +kernel
theorem dX3_hasOwn_6 : decode cX3_hasOwn 6 = .ok (.iadd, 1) := by decide +kernel
theorem dX3_hasOwn_7 : decode cX3_hasOwn 7 = .ok (.iconst 1, 1) := by decide +kernel
theorem dX3_hasOwn_8 : decode cX3_hasOwn 8 = .ok (.iadd, 1) := by decide +kernel
theorem dX3_hasOwn_9 : decode cX3_hasOwn 9 = .ok (.lshr, 1) := by decide +kernel
theorem dX3_hasOwn_10 : decode cX3_hasOwn 10 = .ok (.lconst 1, 1) := by decide +kernel
theorem dX3_hasOwn_11 : decode cX3_hasOwn 11 = .ok (.land, 1) := by decide +kernel
theorem dX3_hasOwn_12 : decode cX3_hasOwn 12 = .ok (.lconst 0, 1) := by decide +kernel
theorem dX3_hasOwn_13 : decode cX3_hasOwn 13 = .ok (.lcmp, 1) := by decide +kernel
theorem dX3_hasOwn_14 : decode cX3_hasOwn 14 = .ok (.ifCond .eq 7, 3) := by decide +kernel
theorem dX3_hasOwn_21 : decode cX3_hasOwn 21 = .ok (.iconst 0, 1) := by decide +kernel
theorem dX3_hasOwn_22 : decode cX3_hasOwn 22 = .ok (.ireturn, 1) := by decide +kernel
theorem dX3_hasOwn_17 : decode cX3_hasOwn 17 = .ok (.iconst 1, 1) := by decide +kernel
theorem dX3_hasOwn_18 : decode cX3_hasOwn 18 = .ok (.goto 4, 3) := by decide +kernel
theorem dX3_isReady_112 : decode cX3_isReady 112 = .ok (.ifCond .eq 21, 3) := by decide +kernel
theorem dX3_isReady_50 : decode cX3_isReady 50 = .ok (.aload_n 0, 1) := by decide +kernel
theorem dX3_isReady_51 : decode cX3_isReady 51 = .ok (.iload 4, 2) := by decide +kernel
theorem dX3_isReady_53 : decode cX3_isReady 53 = .ok (.lload_n 2, 1) := by decide +kernel
theorem dX3_isReady_54 : decode cX3_isReady 54 = .ok (.invokevirtual 116, 3) := by decide +kernel
theorem wm_959 : (Jvm.Cond.methodLink "GrownKinds$Leaning" (116 : Nat) ({ cls := "GrownKinds$Leaning", name := "partReady", desc := "(IJ)Z" } : Jvm.MethodName)) ∈ gT := gT_in (List.mem_of_getElem? (i := 959) (by decide +kernel)) (by decide +kernel)
theorem wm_961 : (Jvm.Cond.instanceMethod ({ cls := "GrownKinds$Leaning", name := "partReady", desc := "(IJ)Z" } : Jvm.MethodName)) ∈ gT := gT_in (List.mem_of_getElem? (i := 961) (by decide +kernel)) (by decide +kernel)
theorem wm_28 : Cond.selects "GrownKinds$Leaning" ⟨"GrownKinds$Leaning", "partReady", "(IJ)Z"⟩ ⟨"GrownKinds$Leaning", "partReady", "(IJ)Z"⟩ ∈ gT := gT_in (List.mem_of_getElem? (i := 28) (by decide +kernel)) (by decide +kernel)
theorem wm_962 : (Jvm.Cond.code ({ cls := "GrownKinds$Leaning", name := "partReady", desc := "(IJ)Z" } : Jvm.MethodName) prog_5_method_17_code (6 : Nat) (Option.some Jvm.ClassFile.FieldType.boolean)) ∈ gT := gT_in (List.mem_of_getElem? (i := 962) (by decide +kernel)) (by decide +kernel)
theorem dX3_partReady_0 : decode cX3_partReady 0 = .ok (.aload_n 0, 1) := by decide +kernel
theorem dX3_partReady_1 : decode cX3_partReady 1 = .ok (.getfield 37, 3) := by decide +kernel
theorem dX3_partReady_4 : decode cX3_partReady 4 = .ok (.getfield 71, 3) := by decide +kernel
theorem dX3_partReady_7 : decode cX3_partReady 7 = .ok (.iload_n 1, 1) := by decide +kernel
theorem dX3_partReady_8 : decode cX3_partReady 8 = .ok (.iaload, 1) := by decide +kernel
theorem dX3_partReady_9 : decode cX3_partReady 9 = .ok (.istore 4, 2) := by decide +kernel
theorem dX3_partReady_11 : decode cX3_partReady 11 = .ok (.iload 4, 2) := by decide +kernel
theorem dX3_partReady_13 : decode cX3_partReady 13 = .ok (.iconst 2, 1) := by decide +kernel
theorem dX3_partReady_14 : decode cX3_partReady 14 = .ok (.if_icmp .ne 27, 3) := by decide +kernel
theorem dX3_partReady_41 : decode cX3_partReady 41 = .ok (.iload 4, 2) := by decide +kernel
theorem dX3_partReady_43 : decode cX3_partReady 43 = .ok (.bipush 7, 2) := by decide +kernel
theorem dX3_partReady_45 : decode cX3_partReady 45 = .ok (.if_icmp .ne 13, 3) := by decide +kernel
theorem dX3_partReady_58 : decode cX3_partReady 58 = .ok (.aload_n 0, 1) := by decide +kernel
theorem dX3_partReady_59 : decode cX3_partReady 59 = .ok (.getfield 37, 3) := by decide +kernel
theorem dX3_partReady_62 : decode cX3_partReady 62 = .ok (.getfield 77, 3) := by decide +kernel
theorem dX3_partReady_65 : decode cX3_partReady 65 = .ok (.iload_n 1, 1) := by decide +kernel
theorem dX3_partReady_66 : decode cX3_partReady 66 = .ok (.iaload, 1) := by decide +kernel
theorem dX3_partReady_67 : decode cX3_partReady 67 = .ok (.istore 5, 2) := by decide +kernel
theorem dX3_partReady_69 : decode cX3_partReady 69 = .ok (.iload 5, 2) := by decide +kernel
theorem dX3_partReady_71 : decode cX3_partReady 71 = .ok (.iconst (-1), 1) := by decide +kernel
theorem dX3_partReady_72 : decode cX3_partReady 72 = .ok (.if_icmp .eq 25, 3) := by decide +kernel
theorem dX3_partReady_97 : decode cX3_partReady 97 = .ok (.iconst 1, 1) := by decide +kernel
theorem dX3_partReady_98 : decode cX3_partReady 98 = .ok (.goto 4, 3) := by decide +kernel
theorem dX3_partReady_102 : decode cX3_partReady 102 = .ok (.ireturn, 1) := by decide +kernel
theorem dX3_partReady_75 : decode cX3_partReady 75 = .ok (.aload_n 0, 1) := by decide +kernel
theorem dX3_partReady_76 : decode cX3_partReady 76 = .ok (.getfield 37, 3) := by decide +kernel
theorem dX3_partReady_79 : decode cX3_partReady 79 = .ok (.getfield 74, 3) := by decide +kernel
theorem dX3_partReady_82 : decode cX3_partReady 82 = .ok (.iload_n 1, 1) := by decide +kernel
theorem dX3_partReady_83 : decode cX3_partReady 83 = .ok (.iaload, 1) := by decide +kernel
theorem dX3_partReady_84 : decode cX3_partReady 84 = .ok (.iconst 1, 1) := by decide +kernel
theorem dX3_partReady_85 : decode cX3_partReady 85 = .ok (.if_icmp .gt 12, 3) := by decide +kernel
theorem dX3_partReady_88 : decode cX3_partReady 88 = .ok (.lload_n 2, 1) := by decide +kernel
theorem dX3_partReady_89 : decode cX3_partReady 89 = .ok (.iload 5, 2) := by decide +kernel
theorem dX3_partReady_91 : decode cX3_partReady 91 = .ok (.invokestatic 119, 3) := by decide +kernel
theorem dX3_partReady_94 : decode cX3_partReady 94 = .ok (.ifCond .eq 7, 3) := by decide +kernel
theorem dX3_partReady_101 : decode cX3_partReady 101 = .ok (.iconst 0, 1) := by decide +kernel
theorem dX3_partReady_48 : decode cX3_partReady 48 = .ok (.aload_n 0, 1) := by decide +kernel
theorem dX3_partReady_49 : decode cX3_partReady 49 = .ok (.bipush 6, 2) := by decide +kernel
theorem dX3_partReady_51 : decode cX3_partReady 51 = .ok (.iload_n 1, 1) := by decide +kernel
theorem dX3_partReady_52 : decode cX3_partReady 52 = .ok (.iadd, 1) := by decide +kernel
theorem dX3_partReady_53 : decode cX3_partReady 53 = .ok (.lload_n 2, 1) := by decide +kernel
theorem dX3_partReady_54 : decode cX3_partReady 54 = .ok (.invokevirtual 113, 3) := by decide +kernel
theorem wm_952 : (Jvm.Cond.methodLink "GrownKinds$Leaning" (113 : Nat) ({ cls := "GrownKinds$Leaning", name := "termsLaid", desc := "(IJ)Z" } : Jvm.MethodName)) ∈ gT := gT_in (List.mem_of_getElem? (i := 952) (by decide +kernel)) (by decide +kernel)
theorem wm_954 : (Jvm.Cond.instanceMethod ({ cls := "GrownKinds$Leaning", name := "termsLaid", desc := "(IJ)Z" } : Jvm.MethodName)) ∈ gT := gT_in (List.mem_of_getElem? (i := 954) (by decide +kernel)) (by decide +kernel)
theorem wm_27 : Cond.selects "GrownKinds$Leaning" ⟨"GrownKinds$Leaning", "termsLaid", "(IJ)Z"⟩ ⟨"GrownKinds$Leaning", "termsLaid", "(IJ)Z"⟩ ∈ gT := gT_in (List.mem_of_getElem? (i := 27) (by decide +kernel)) (by decide +kernel)
theorem wm_955 : (Jvm.Cond.code ({ cls := "GrownKinds$Leaning", name := "termsLaid", desc := "(IJ)Z" } : Jvm.MethodName) prog_5_method_18_code (5 : Nat) (Option.some Jvm.ClassFile.FieldType.boolean)) ∈ gT := gT_in (List.mem_of_getElem? (i := 955) (by decide +kernel)) (by decide +kernel)
theorem dX3_termsLaid_0 : decode cX3_termsLaid 0 = .ok (.iconst 0, 1) := by decide +kernel
theorem dX3_termsLaid_1 : decode cX3_termsLaid 1 = .ok (.istore 4, 2) := by decide +kernel
theorem dX3_termsLaid_3 : decode cX3_termsLaid 3 = .ok (.iload 4, 2) := by decide +kernel
theorem dX3_termsLaid_5 : decode cX3_termsLaid 5 = .ok (.aload_n 0, 1) := by decide +kernel
theorem dX3_termsLaid_6 : decode cX3_termsLaid 6 = .ok (.getfield 37, 3) := by decide +kernel
theorem dX3_termsLaid_9 : decode cX3_termsLaid 9 = .ok (.getfield 83, 3) := by decide +kernel
theorem dX3_termsLaid_12 : decode cX3_termsLaid 12 = .ok (.iload_n 1, 1) := by decide +kernel
theorem dX3_termsLaid_13 : decode cX3_termsLaid 13 = .ok (.iaload, 1) := by decide +kernel
theorem dX3_termsLaid_14 : decode cX3_termsLaid 14 = .ok (.if_icmp .ge 28, 3) := by decide +kernel
theorem dX3_termsLaid_17 : decode cX3_termsLaid 17 = .ok (.lload_n 2, 1) := by decide +kernel
theorem dX3_termsLaid_18 : decode cX3_termsLaid 18 = .ok (.aload_n 0, 1) := by decide +kernel
theorem dX3_termsLaid_19 : decode cX3_termsLaid 19 = .ok (.getfield 37, 3) := by decide +kernel
theorem dX3_termsLaid_22 : decode cX3_termsLaid 22 = .ok (.iload_n 1, 1) := by decide +kernel
theorem dX3_termsLaid_23 : decode cX3_termsLaid 23 = .ok (.iload 4, 2) := by decide +kernel
theorem dX3_termsLaid_25 : decode cX3_termsLaid 25 = .ok (.invokevirtual 90, 3) := by decide +kernel
theorem dX3_termsLaid_28 : decode cX3_termsLaid 28 = .ok (.invokestatic 123, 3) := by decide +kernel
theorem dX3_termsLaid_31 : decode cX3_termsLaid 31 = .ok (.ifCond .ne 5, 3) := by decide +kernel
theorem dX3_termsLaid_36 : decode cX3_termsLaid 36 = .ok (.iinc 4 1, 3) := by decide +kernel
theorem dX3_termsLaid_39 : decode cX3_termsLaid 39 = .ok (.goto (-36), 3) := by decide +kernel
theorem dX3_termsLaid_34 : decode cX3_termsLaid 34 = .ok (.iconst 0, 1) := by decide +kernel
theorem dX3_termsLaid_35 : decode cX3_termsLaid 35 = .ok (.ireturn, 1) := by decide +kernel
theorem dX3_termsLaid_42 : decode cX3_termsLaid 42 = .ok (.iconst 1, 1) := by decide +kernel
theorem dX3_termsLaid_43 : decode cX3_termsLaid 43 = .ok (.ireturn, 1) := by decide +kernel
theorem dX3_partReady_57 : decode cX3_partReady 57 = .ok (.ireturn, 1) := by decide +kernel
theorem dX3_partReady_17 : decode cX3_partReady 17 = .ok (.lload_n 2, 1) := by decide +kernel
theorem dX3_partReady_18 : decode cX3_partReady 18 = .ok (.aload_n 0, 1) := by decide +kernel
theorem dX3_partReady_19 : decode cX3_partReady 19 = .ok (.getfield 37, 3) := by decide +kernel
theorem dX3_partReady_22 : decode cX3_partReady 22 = .ok (.getfield 74, 3) := by decide +kernel
theorem dX3_partReady_25 : decode cX3_partReady 25 = .ok (.iload_n 1, 1) := by decide +kernel
theorem dX3_partReady_26 : decode cX3_partReady 26 = .ok (.iaload, 1) := by decide +kernel
theorem dX3_partReady_27 : decode cX3_partReady 27 = .ok (.lshr, 1) := by decide +kernel
theorem dX3_partReady_28 : decode cX3_partReady 28 = .ok (.lconst 1, 1) := by decide +kernel
theorem dX3_partReady_29 : decode cX3_partReady 29 = .ok (.land, 1) := by decide +kernel
theorem dX3_partReady_30 : decode cX3_partReady 30 = .ok (.lconst 0, 1) := by decide +kernel
theorem dX3_partReady_31 : decode cX3_partReady 31 = .ok (.lcmp, 1) := by decide +kernel
theorem dX3_partReady_32 : decode cX3_partReady 32 = .ok (.ifCond .eq 7, 3) := by decide +kernel
theorem dX3_partReady_39 : decode cX3_partReady 39 = .ok (.iconst 0, 1) := by decide +kernel
theorem dX3_partReady_40 : decode cX3_partReady 40 = .ok (.ireturn, 1) := by decide +kernel
theorem dX3_partReady_35 : decode cX3_partReady 35 = .ok (.iconst 1, 1) := by decide +kernel
theorem dX3_partReady_36 : decode cX3_partReady 36 = .ok (.goto 4, 3) := by decide +kernel
theorem dX3_isReady_57 : decode cX3_isReady 57 = .ok (.ireturn, 1) := by decide +kernel
theorem dX3_isReady_6 : decode cX3_isReady 6 = .ok (.iload_n 1, 1) := by decide +kernel
theorem dX3_isReady_7 : decode cX3_isReady 7 = .ok (.aload_n 0, 1) := by decide +kernel
theorem dX3_isReady_8 : decode cX3_isReady 8 = .ok (.getfield 37, 3) := by decide +kernel
theorem dX3_isReady_11 : decode cX3_isReady 11 = .ok (.getfield 53, 3) := by decide +kernel
theorem dX3_isReady_14 : decode cX3_isReady 14 = .ok (.if_icmp .ge 16, 3) := by decide +kernel
theorem dX3_isReady_30 : decode cX3_isReady 30 = .ok (.iconst 0, 1) := by decide +kernel
theorem dX3_isReady_31 : decode cX3_isReady 31 = .ok (.ireturn, 1) := by decide +kernel
theorem dX3_isReady_17 : decode cX3_isReady 17 = .ok (.aload_n 0, 1) := by decide +kernel
theorem dX3_isReady_18 : decode cX3_isReady 18 = .ok (.iload_n 1, 1) := by decide +kernel
theorem dX3_isReady_19 : decode cX3_isReady 19 = .ok (.lload_n 2, 1) := by decide +kernel
theorem dX3_isReady_20 : decode cX3_isReady 20 = .ok (.invokevirtual 113, 3) := by decide +kernel
theorem dX3_isReady_23 : decode cX3_isReady 23 = .ok (.ifCond .eq 7, 3) := by decide +kernel
theorem dX3_isReady_26 : decode cX3_isReady 26 = .ok (.iconst 1, 1) := by decide +kernel
theorem dX3_isReady_27 : decode cX3_isReady 27 = .ok (.goto 4, 3) := by decide +kernel
theorem dX3_layOrder_67 : decode cX3_layOrder 67 = .ok (.ifCond .eq 42, 3) := by decide +kernel
theorem dX3_layOrder_70 : decode cX3_layOrder 70 = .ok (.aload_n 0, 1) := by decide +kernel
theorem dX3_layOrder_71 : decode cX3_layOrder 71 = .ok (.getfield 37, 3) := by decide +kernel
theorem dX3_layOrder_74 : decode cX3_layOrder 74 = .ok (.getfield 110, 3) := by decide +kernel
theorem wm_275 : (Jvm.Cond.fieldLink "GrownKinds$Leaning" (110 : Nat) "GrownKinds$Grammar" "order" "[I") ∈ gT := gT_in (List.mem_of_getElem? (i := 275) (by decide +kernel)) (by decide +kernel)
theorem dX3_layOrder_77 : decode cX3_layOrder 77 = .ok (.aload_n 0, 1) := by decide +kernel
theorem dX3_layOrder_78 : decode cX3_layOrder 78 = .ok (.getfield 37, 3) := by decide +kernel
theorem dX3_layOrder_81 : decode cX3_layOrder 81 = .ok (.getfield 103, 3) := by decide +kernel
theorem dX3_layOrder_84 : decode cX3_layOrder 84 = .ok (.iload 5, 2) := by decide +kernel
theorem dX3_layOrder_86 : decode cX3_layOrder 86 = .ok (.iastore, 1) := by decide +kernel
theorem dX3_layOrder_87 : decode cX3_layOrder 87 = .ok (.aload_n 0, 1) := by decide +kernel
theorem dX3_layOrder_88 : decode cX3_layOrder 88 = .ok (.getfield 37, 3) := by decide +kernel
theorem dX3_layOrder_91 : decode cX3_layOrder 91 = .ok (.dup, 1) := by decide +kernel
theorem dX3_layOrder_92 : decode cX3_layOrder 92 = .ok (.getfield 103, 3) := by decide +kernel
theorem dX3_layOrder_95 : decode cX3_layOrder 95 = .ok (.iconst 1, 1) := by decide +kernel
theorem dX3_layOrder_96 : decode cX3_layOrder 96 = .ok (.iadd, 1) := by decide +kernel
theorem dX3_layOrder_97 : decode cX3_layOrder 97 = .ok (.putfield 103, 3) := by decide +kernel
theorem dX3_layOrder_100 : decode cX3_layOrder 100 = .ok (.lload_n 1, 1) := by decide +kernel
theorem dX3_layOrder_101 : decode cX3_layOrder 101 = .ok (.lconst 1, 1) := by decide +kernel
theorem dX3_layOrder_102 : decode cX3_layOrder 102 = .ok (.iload 5, 2) := by decide +kernel
theorem dX3_layOrder_104 : decode cX3_layOrder 104 = .ok (.lshl, 1) := by decide +kernel
theorem dX3_layOrder_105 : decode cX3_layOrder 105 = .ok (.lor, 1) := by decide +kernel
theorem dX3_layOrder_106 : decode cX3_layOrder 106 = .ok (.lstore_n 1, 1) := by decide +kernel
theorem dX3_layOrder_107 : decode cX3_layOrder 107 = .ok (.iconst 1, 1) := by decide +kernel
theorem dX3_layOrder_108 : decode cX3_layOrder 108 = .ok (.istore_n 3, 1) := by decide +kernel
theorem dX3_layOrder_115 : decode cX3_layOrder 115 = .ok (.iinc 4 1, 3) := by decide +kernel
theorem dX3_layOrder_118 : decode cX3_layOrder 118 = .ok (.goto (-103), 3) := by decide +kernel
theorem dX3_layOrder_121 : decode cX3_layOrder 121 = .ok (.return_, 1) := by decide +kernel
theorem dX5_read_44 : decode cX5_read 44 = .ok (.iconst 0, 1) := by decide +kernel
theorem dX5_read_45 : decode cX5_read 45 = .ok (.ireturn, 1) := by decide +kernel
theorem wV_5_60 : gWV "GrownKinds$Reader" 60 yX2_clear cX2_clear 1 none := ⟨wm_743, wm_744, wm_745, wm_178, wm_746, by decide +kernel, by decide +kernel⟩
theorem wS_2_55 : gWS "GrownKinds$Grammar" 55 yJ7_fill_53178 cJ7_fill_53178 4 none := ⟨wm_747, wm_748, wm_189, wm_749, by decide +kernel, by decide +kernel⟩
def mJ7_fill_53178_19_5 (a2 : Int) : Nat → Int → St → Option (St)
  | 0, _, _ => none
  | f + 1, v_1, S_2 => gd (inI v_1) <| if 30 ≤ v_1 then (some (S_2)) else (gd (0 ≤ v_1 ∧ v_1 < 30) <| nx (up S_2 19 v_1 a2) fun S_12 => mJ7_fill_53178_19_5 a2 f (v_1 + 1) S_12)
def mJ7_fill_53178_19 (S0 : St) (a2 : Int) : Option (St) := bd1 (mJ7_fill_53178_19_5 a2 FU 0 S0) fun S_3 => some (S_3)
set_option maxHeartbeats 4000000 in
set_option maxRecDepth 100000 in
theorem vJ7_fill_53178_19 (l : Launch) {D : va_G} {cy : Nat → ClassId} {b n : Nat} (hn : 102 ≤ n) {X : Nat → va_E} {S0 : St} (a2 : Int) {o1 : St} (hM : mJ7_fill_53178_19 S0 a2 = some o1) : gV l yJ7_fill_53178 cJ7_fill_53178 4 0 0 0 D cy b n (enc b cy X S0) [.ref (b + 19), .int (iI a2)] (fun u => u = (n, enc b cy X o1)) := by
  refine gV_of (by decide) (Nat.le_of_ble_eq_true rfl) ?_
  intro p e s m args below meth c S hr hlk hin hsz ls hl hG
  have hx := S.1
  have hb := S.2.1
  have hl : lv_has ls 4 [(0, .ref (b + 19)), (1, .int (iI a2))] := hl
  replace hG : gW D cy b n s s.heap [] (enc b cy X S0) := hG
  obtain ⟨H, eH⟩ : ∃ H, H = s.heap := ⟨_, rfl⟩
  obtain ⟨locs, elocs⟩ : ∃ locs : List Loc, locs = [] := ⟨_, rfl⟩
  rw [← eH, ← elocs] at hG
  rw [← eH, ← elocs]
  clear eH elocs
  unfold mJ7_fill_53178_19 at hM
  refine lv_iconst (v := iI 0) hx hb dJ7_fill_53178_0 (by decide) ?_
  refine lv_istore_n (lv' := [(2, .int (iI 0)), (0, .ref (b + 19)), (1, .int (iI a2))]) hx hb dJ7_fill_53178_1 rfl hl (by decide) rfl (fun ls hl => ?_)
  refine lv_aload_n hx hb dJ7_fill_53178_2 rfl (lv_at hl 1 rfl) ?_
  refine m_alen S hG 19 1 ec_19 rfl (Nat.lt_of_lt_of_le (Nat.le_of_ble_eq_true rfl) hn) dJ7_fill_53178_3 (N := 30) (show Int32.ofNat 30 = iI 30 by decide) ?_
  refine lv_istore_n (lv' := [(3, .int (iI 30)), (2, .int (iI 0)), (0, .ref (b + 19)), (1, .int (iI a2))]) hx hb dJ7_fill_53178_4 rfl hl (by decide) rfl (fun ls hl => ?_)
  obtain ⟨S_3, hc_4, hM⟩ := bd1_some hM
  have hK_5 : ∀ (H : Heap) (locs : List Loc) (ls : Array Slot), gW D cy b n s H locs (enc b cy X S_3) → lv_has ls 4 [] → W p l e (gRm 0 0 0) s m args below meth c H locs 0 0 (gQV D cy b s args below 0 0 (fun u => u = (n, enc b cy X o1))) (F0 m 20 ls []) := by
    intro H locs ls hG hl
    cases hM
    exact g_vret S hr hlk hG hsz dJ7_fill_53178_20 ⟨Nat.le_of_ble_eq_true rfl, Nat.le_of_ble_eq_true rfl⟩ rfl
  have loop_6 : ∀ (f : Nat) (v_1 : Int) (S_2 : St) (H : Heap) (locs : List Loc) (ls : Array Slot), mJ7_fill_53178_19_5 a2 f v_1 S_2 = some S_3 → gW D cy b n s H locs (enc b cy X S_2) → lv_has ls 4 [(3, .int (iI 30)), (2, .int (iI v_1)), (0, .ref (b + 19)), (1, .int (iI a2))] → W p l e (gRm 0 0 0) s m args below meth c H locs 0 0 (gQV D cy b s args below 0 0 (fun u => u = (n, enc b cy X o1))) (F0 m 5 ls []) := by
    clear hM
    intro f
    induction f with
    | zero => intro v_1 S_2 H locs ls hM; rw [mJ7_fill_53178_19_5] at hM; cases hM
    | succ f_8 ih_7 =>
      intro v_1 S_2 H locs ls hM hG hl
      rw [mJ7_fill_53178_19_5] at hM
      refine lv_iload_n hx hb dJ7_fill_53178_5 rfl (lv_at hl 1 rfl) ?_
      refine lv_iload_n hx hb dJ7_fill_53178_6 rfl (lv_at hl 0 rfl) ?_
      obtain ⟨hg_9, hM⟩ := gd_some hM
      refine gi_icmp_ge (tgt := 20) hx hb dJ7_fill_53178_7 (by decide) hg_9 (by decide) (fun c_10 => ?_) (fun c_10 => ?_)
      · replace hM := ifp hM c_10
        cases hM
        exact hK_5 H locs ls hG (lv_sub hl [] rfl)
      · replace hM := ifn hM c_10
        refine lv_aload_n hx hb dJ7_fill_53178_10 rfl (lv_at hl 2 rfl) ?_
        refine lv_iload_n hx hb dJ7_fill_53178_11 rfl (lv_at hl 1 rfl) ?_
        refine lv_iload_n hx hb dJ7_fill_53178_12 rfl (lv_at hl 3 rfl) ?_
        obtain ⟨hg_11, hM⟩ := gd_some hM
        refine mi_ast S hG 19 19 rfl ec_19 (Nat.lt_of_lt_of_le (Nat.le_of_ble_eq_true rfl) hn) dJ7_fill_53178_13 hg_11 (by decide) (fun H locs S_12 eS_12 hG => ?_)
        replace hM := nx_at hM eS_12
        clear eS_12
        refine lv_iinc (v := iI (v_1 + 1)) (lv' := [(2, .int (iI (v_1 + 1))), (3, .int (iI 30)), (0, .ref (b + 19)), (1, .int (iI a2))]) hx hb dJ7_fill_53178_14 hl (k := 1) rfl ((iI_add v_1 (1)).trans (congrArg iI (by omega))) (by decide) rfl (fun ls hl => ?_)
        refine lv_goto (tgt := 5) hx hb dJ7_fill_53178_17 (by decide) ?_
        exact ih_7 (v_1 + 1) S_12 H locs ls hM hG (lv_sub hl [1, 0, 2, 3] rfl)
  exact loop_6 FU 0 S0 H locs ls hc_4 hG (lv_sub hl [0, 1, 2, 3] rfl)
def mJ7_fill_53178_21_5 (a2 : Int) : Nat → Int → St → Option (St)
  | 0, _, _ => none
  | f + 1, v_1, S_2 => gd (inI v_1) <| if 30 ≤ v_1 then (some (S_2)) else (gd (0 ≤ v_1 ∧ v_1 < 30) <| nx (up S_2 21 v_1 a2) fun S_12 => mJ7_fill_53178_21_5 a2 f (v_1 + 1) S_12)
def mJ7_fill_53178_21 (S0 : St) (a2 : Int) : Option (St) := bd1 (mJ7_fill_53178_21_5 a2 FU 0 S0) fun S_3 => some (S_3)
set_option maxHeartbeats 4000000 in
set_option maxRecDepth 100000 in
theorem vJ7_fill_53178_21 (l : Launch) {D : va_G} {cy : Nat → ClassId} {b n : Nat} (hn : 102 ≤ n) {X : Nat → va_E} {S0 : St} (a2 : Int) {o1 : St} (hM : mJ7_fill_53178_21 S0 a2 = some o1) : gV l yJ7_fill_53178 cJ7_fill_53178 4 0 0 0 D cy b n (enc b cy X S0) [.ref (b + 21), .int (iI a2)] (fun u => u = (n, enc b cy X o1)) := by
  refine gV_of (by decide) (Nat.le_of_ble_eq_true rfl) ?_
  intro p e s m args below meth c S hr hlk hin hsz ls hl hG
  have hx := S.1
  have hb := S.2.1
  have hl : lv_has ls 4 [(0, .ref (b + 21)), (1, .int (iI a2))] := hl
  replace hG : gW D cy b n s s.heap [] (enc b cy X S0) := hG
  obtain ⟨H, eH⟩ : ∃ H, H = s.heap := ⟨_, rfl⟩
  obtain ⟨locs, elocs⟩ : ∃ locs : List Loc, locs = [] := ⟨_, rfl⟩
  rw [← eH, ← elocs] at hG
  rw [← eH, ← elocs]
  clear eH elocs
  unfold mJ7_fill_53178_21 at hM
  refine lv_iconst (v := iI 0) hx hb dJ7_fill_53178_0 (by decide) ?_
  refine lv_istore_n (lv' := [(2, .int (iI 0)), (0, .ref (b + 21)), (1, .int (iI a2))]) hx hb dJ7_fill_53178_1 rfl hl (by decide) rfl (fun ls hl => ?_)
  refine lv_aload_n hx hb dJ7_fill_53178_2 rfl (lv_at hl 1 rfl) ?_
  refine m_alen S hG 21 1 ec_21 rfl (Nat.lt_of_lt_of_le (Nat.le_of_ble_eq_true rfl) hn) dJ7_fill_53178_3 (N := 30) (show Int32.ofNat 30 = iI 30 by decide) ?_
  refine lv_istore_n (lv' := [(3, .int (iI 30)), (2, .int (iI 0)), (0, .ref (b + 21)), (1, .int (iI a2))]) hx hb dJ7_fill_53178_4 rfl hl (by decide) rfl (fun ls hl => ?_)
  obtain ⟨S_3, hc_4, hM⟩ := bd1_some hM
  have hK_5 : ∀ (H : Heap) (locs : List Loc) (ls : Array Slot), gW D cy b n s H locs (enc b cy X S_3) → lv_has ls 4 [] → W p l e (gRm 0 0 0) s m args below meth c H locs 0 0 (gQV D cy b s args below 0 0 (fun u => u = (n, enc b cy X o1))) (F0 m 20 ls []) := by
    intro H locs ls hG hl
    cases hM
    exact g_vret S hr hlk hG hsz dJ7_fill_53178_20 ⟨Nat.le_of_ble_eq_true rfl, Nat.le_of_ble_eq_true rfl⟩ rfl
  have loop_6 : ∀ (f : Nat) (v_1 : Int) (S_2 : St) (H : Heap) (locs : List Loc) (ls : Array Slot), mJ7_fill_53178_21_5 a2 f v_1 S_2 = some S_3 → gW D cy b n s H locs (enc b cy X S_2) → lv_has ls 4 [(3, .int (iI 30)), (2, .int (iI v_1)), (0, .ref (b + 21)), (1, .int (iI a2))] → W p l e (gRm 0 0 0) s m args below meth c H locs 0 0 (gQV D cy b s args below 0 0 (fun u => u = (n, enc b cy X o1))) (F0 m 5 ls []) := by
    clear hM
    intro f
    induction f with
    | zero => intro v_1 S_2 H locs ls hM; rw [mJ7_fill_53178_21_5] at hM; cases hM
    | succ f_8 ih_7 =>
      intro v_1 S_2 H locs ls hM hG hl
      rw [mJ7_fill_53178_21_5] at hM
      refine lv_iload_n hx hb dJ7_fill_53178_5 rfl (lv_at hl 1 rfl) ?_
      refine lv_iload_n hx hb dJ7_fill_53178_6 rfl (lv_at hl 0 rfl) ?_
      obtain ⟨hg_9, hM⟩ := gd_some hM
      refine gi_icmp_ge (tgt := 20) hx hb dJ7_fill_53178_7 (by decide) hg_9 (by decide) (fun c_10 => ?_) (fun c_10 => ?_)
      · replace hM := ifp hM c_10
        cases hM
        exact hK_5 H locs ls hG (lv_sub hl [] rfl)
      · replace hM := ifn hM c_10
        refine lv_aload_n hx hb dJ7_fill_53178_10 rfl (lv_at hl 2 rfl) ?_
        refine lv_iload_n hx hb dJ7_fill_53178_11 rfl (lv_at hl 1 rfl) ?_
        refine lv_iload_n hx hb dJ7_fill_53178_12 rfl (lv_at hl 3 rfl) ?_
        obtain ⟨hg_11, hM⟩ := gd_some hM
        refine mi_ast S hG 21 21 rfl ec_21 (Nat.lt_of_lt_of_le (Nat.le_of_ble_eq_true rfl) hn) dJ7_fill_53178_13 hg_11 (by decide) (fun H locs S_12 eS_12 hG => ?_)
        replace hM := nx_at hM eS_12
        clear eS_12
        refine lv_iinc (v := iI (v_1 + 1)) (lv' := [(2, .int (iI (v_1 + 1))), (3, .int (iI 30)), (0, .ref (b + 21)), (1, .int (iI a2))]) hx hb dJ7_fill_53178_14 hl (k := 1) rfl ((iI_add v_1 (1)).trans (congrArg iI (by omega))) (by decide) rfl (fun ls hl => ?_)
        refine lv_goto (tgt := 5) hx hb dJ7_fill_53178_17 (by decide) ?_
        exact ih_7 (v_1 + 1) S_12 H locs ls hM hG (lv_sub hl [1, 0, 2, 3] rfl)
  exact loop_6 FU 0 S0 H locs ls hc_4 hG (lv_sub hl [0, 1, 2, 3] rfl)
def mX2_clear_13 (S0 : St)  : Option (St) := nx (up S0 13 0 0) fun S_1 => nx (up S_1 13 1 0) fun S_2 => nx (up S_2 13 2 0) fun S_3 => nx (up S_3 13 3 0) fun S_4 => nx (up S_4 13 4 0) fun S_5 => bd1 (mJ7_fill_53178_19 S_5 0) fun S_7 => bd1 (mJ7_fill_53178_21 S_7 0) fun S_9 => some (S_9)
set_option maxHeartbeats 4000000 in
set_option maxRecDepth 100000 in
theorem vX2_clear_13 (l : Launch) {D : va_G} {cy : Nat → ClassId} {b n : Nat} (hn : 102 ≤ n) {X : Nat → va_E} {S0 : St}  {o1 : St} (hM : mX2_clear_13 S0  = some o1) : gV l yX2_clear cX2_clear 1 1 0 0 D cy b n (enc b cy X S0) [.ref (b + 13)] (fun u => u = (n, enc b cy X o1)) := by
  refine gV_of (by decide) (Nat.le_of_ble_eq_true rfl) ?_
  intro p e s m args below meth c S hr hlk hin hsz ls hl hG
  have hx := S.1
  have hb := S.2.1
  have hl : lv_has ls 1 [(0, .ref (b + 13))] := hl
  replace hG : gW D cy b n s s.heap [] (enc b cy X S0) := hG
  obtain ⟨H, eH⟩ : ∃ H, H = s.heap := ⟨_, rfl⟩
  obtain ⟨locs, elocs⟩ : ∃ locs : List Loc, locs = [] := ⟨_, rfl⟩
  rw [← eH, ← elocs] at hG
  rw [← eH, ← elocs]
  clear eH elocs
  unfold mX2_clear_13 at hM
  refine lv_aload_n hx hb dX2_clear_0 rfl (lv_at hl 0 rfl) ?_
  refine lv_iconst (v := iI 0) hx hb dX2_clear_1 (by decide) ?_
  refine m_put S hG 13 13 0 rfl 0 0 ec_13 cpX2 wm_212 dX2_clear_2 (pf_13_0) (Nat.lt_of_lt_of_le (Nat.le_of_ble_eq_true rfl) hn) (by decide) (Nat.le_of_ble_eq_true rfl) rfl rfl rfl (fun H locs S_1 eS_1 hG => ?_)
  replace hM := nx_at hM eS_1
  clear eS_1
  refine lv_aload_n hx hb dX2_clear_5 rfl (lv_at hl 0 rfl) ?_
  refine lv_iconst (v := iI 0) hx hb dX2_clear_6 (by decide) ?_
  refine m_put S hG 13 13 1 rfl 1 0 ec_13 cpX2 wm_218 dX2_clear_7 (pf_13_1) (Nat.lt_of_lt_of_le (Nat.le_of_ble_eq_true rfl) hn) (by decide) (Nat.le_of_ble_eq_true rfl) rfl rfl rfl (fun H locs S_2 eS_2 hG => ?_)
  replace hM := nx_at hM eS_2
  clear eS_2
  refine lv_aload_n hx hb dX2_clear_10 rfl (lv_at hl 0 rfl) ?_
  refine lv_iconst (v := iI 0) hx hb dX2_clear_11 (by decide) ?_
  refine m_put S hG 13 13 2 rfl 2 0 ec_13 cpX2 wm_223 dX2_clear_12 (pf_13_2) (Nat.lt_of_lt_of_le (Nat.le_of_ble_eq_true rfl) hn) (by decide) (Nat.le_of_ble_eq_true rfl) rfl rfl rfl (fun H locs S_3 eS_3 hG => ?_)
  replace hM := nx_at hM eS_3
  clear eS_3
  refine lv_aload_n hx hb dX2_clear_15 rfl (lv_at hl 0 rfl) ?_
  refine lv_iconst (v := iI 0) hx hb dX2_clear_16 (by decide) ?_
  refine m_put S hG 13 13 3 rfl 3 0 ec_13 cpX2 wm_226 dX2_clear_17 (pf_13_3) (Nat.lt_of_lt_of_le (Nat.le_of_ble_eq_true rfl) hn) (by decide) (Nat.le_of_ble_eq_true rfl) rfl rfl rfl (fun H locs S_4 eS_4 hG => ?_)
  replace hM := nx_at hM eS_4
  clear eS_4
  refine lv_aload_n hx hb dX2_clear_20 rfl (lv_at hl 0 rfl) ?_
  refine lv_iconst (v := iI 0) hx hb dX2_clear_21 (by decide) ?_
  refine m_put S hG 13 13 4 rfl 4 0 ec_13 cpX2 wm_231 dX2_clear_22 (pf_13_4) (Nat.lt_of_lt_of_le (Nat.le_of_ble_eq_true rfl) hn) (by decide) (Nat.le_of_ble_eq_true rfl) rfl rfl rfl (fun H locs S_5 eS_5 hG => ?_)
  replace hM := nx_at hM eS_5
  clear eS_5
  refine lv_aload_n hx hb dX2_clear_25 rfl (lv_at hl 0 rfl) ?_
  refine m_get S hG 13 13 10 rfl ec_13 cpX2 wm_262 dX2_clear_26 rfl (Nat.lt_of_lt_of_le (Nat.le_of_ble_eq_true rfl) hn) (by decide) ?_
  refine lv_iconst (v := iI 0) hx hb dX2_clear_29 (by decide) ?_
  obtain ⟨S_7, hc_6, hM⟩ := bd1_some hM
  refine g_sv (As := [.ref (b + 19), .int (iI 0)]) (rest := []) S hG hsz (vJ7_fill_53178_19 l hn 0 hc_6) wS_2_55 dX2_clear_30 rfl hl.1 (ar := 2) (by decide +kernel) rfl ⟨Nat.le_of_ble_eq_true rfl, Nat.le_of_ble_eq_true rfl, Nat.le_of_ble_eq_true rfl, Nat.le_of_ble_eq_true rfl⟩ (Nat.le_of_ble_eq_true rfl) (fun uu H locs hp hG => ?_)
  obtain rfl := hp
  replace hG : gW D cy b n s H locs (enc b cy X S_7) := hG
  refine lv_aload_n hx hb dX2_clear_33 rfl (lv_at hl 0 rfl) ?_
  refine m_get S hG 13 13 12 rfl ec_13 cpX2 wm_271 dX2_clear_34 rfl (Nat.lt_of_lt_of_le (Nat.le_of_ble_eq_true rfl) hn) (by decide) ?_
  refine lv_iconst (v := iI 0) hx hb dX2_clear_37 (by decide) ?_
  obtain ⟨S_9, hc_8, hM⟩ := bd1_some hM
  refine g_sv (As := [.ref (b + 21), .int (iI 0)]) (rest := []) S hG hsz (vJ7_fill_53178_21 l hn 0 hc_8) wS_2_55 dX2_clear_38 rfl hl.1 (ar := 2) (by decide +kernel) rfl ⟨Nat.le_of_ble_eq_true rfl, Nat.le_of_ble_eq_true rfl, Nat.le_of_ble_eq_true rfl, Nat.le_of_ble_eq_true rfl⟩ (Nat.le_of_ble_eq_true rfl) (fun uu H locs hp hG => ?_)
  obtain rfl := hp
  replace hG : gW D cy b n s H locs (enc b cy X S_9) := hG
  cases hM
  exact g_vret S hr hlk hG hsz dX2_clear_41 ⟨Nat.le_of_ble_eq_true rfl, Nat.le_of_ble_eq_true rfl⟩ rfl
theorem wV_5_65 : gWV "GrownKinds$Reader" 65 yX5_advance cX5_advance 2 none := ⟨wm_750, wm_752, wm_1, wm_179, wm_753, by decide +kernel, by decide +kernel⟩
theorem wS_5_100 : gWS "GrownKinds$Reader" 100 yX5_isLetter cX5_isLetter 1 (some .boolean) := ⟨wm_754, wm_755, wm_179, wm_756, by decide +kernel, by decide +kernel⟩
def mX5_isLetter (a1 : Int) : Option (Int) := gd (inI a1) <| if a1 < 97 then (some (0)) else (if 122 < a1 then (some (0)) else (some (1)))
set_option maxHeartbeats 4000000 in
set_option maxRecDepth 100000 in
theorem vX5_isLetter (l : Launch) {D : va_G} {cy : Nat → ClassId} {b n : Nat} (hn : 102 ≤ n) {X : Nat → va_E} {S0 : St} (a1 : Int) {o1 : Int} (hM : mX5_isLetter a1 = some o1) : gI l yX5_isLetter cX5_isLetter 1 (some .boolean) 0 0 0 D cy b n (enc b cy X S0) [.int (iI a1)] (fun r u => r = iI o1 ∧ u = (n, enc b cy X S0)) := by
  refine gI_of (by decide) (Nat.le_of_ble_eq_true rfl) ?_
  intro p e s m args below meth c S hr hlk hin hsz ls hl hG
  have hx := S.1
  have hb := S.2.1
  have hl : lv_has ls 1 [(0, .int (iI a1))] := hl
  replace hG : gW D cy b n s s.heap [] (enc b cy X S0) := hG
  obtain ⟨H, eH⟩ : ∃ H, H = s.heap := ⟨_, rfl⟩
  obtain ⟨locs, elocs⟩ : ∃ locs : List Loc, locs = [] := ⟨_, rfl⟩
  rw [← eH, ← elocs] at hG
  rw [← eH, ← elocs]
  clear eH elocs
  unfold mX5_isLetter at hM
  refine lv_iload_n hx hb dX5_isLetter_0 rfl (lv_at hl 0 rfl) ?_
  refine lv_bipush (v := iI 97) hx hb dX5_isLetter_1 (by decide) ?_
  obtain ⟨hg_1, hM⟩ := gd_some hM
  refine gi_icmp_lt (tgt := 16) hx hb dX5_isLetter_3 (by decide) hg_1 (by decide) (fun c_2 => ?_) (fun c_2 => ?_)
  · replace hM := ifp hM c_2
    refine lv_iconst (v := iI 0) hx hb dX5_isLetter_16 (by decide) ?_
    cases hM
    exact g_zret S hr hlk hG hsz dX5_isLetter_17 ⟨Nat.le_of_ble_eq_true rfl, Nat.le_of_ble_eq_true rfl⟩ (nar_z (by decide)) ⟨rfl, rfl⟩
  · replace hM := ifn hM c_2
    refine lv_iload_n hx hb dX5_isLetter_6 rfl (lv_at hl 0 rfl) ?_
    refine lv_bipush (v := iI 122) hx hb dX5_isLetter_7 (by decide) ?_
    refine gi_icmp_gt (tgt := 16) hx hb dX5_isLetter_9 (by decide) hg_1 (by decide) (fun c_3 => ?_) (fun c_3 => ?_)
    · replace hM := ifp hM c_3
      refine lv_iconst (v := iI 0) hx hb dX5_isLetter_16 (by decide) ?_
      cases hM
      exact g_zret S hr hlk hG hsz dX5_isLetter_17 ⟨Nat.le_of_ble_eq_true rfl, Nat.le_of_ble_eq_true rfl⟩ (nar_z (by decide)) ⟨rfl, rfl⟩
    · replace hM := ifn hM c_3
      refine lv_iconst (v := iI 1) hx hb dX5_isLetter_12 (by decide) ?_
      refine lv_goto (tgt := 17) hx hb dX5_isLetter_13 (by decide) ?_
      cases hM
      exact g_zret S hr hlk hG hsz dX5_isLetter_17 ⟨Nat.le_of_ble_eq_true rfl, Nat.le_of_ble_eq_true rfl⟩ (nar_z (by decide)) ⟨rfl, rfl⟩
theorem wS_5_103 : gWS "GrownKinds$Reader" 103 yX5_isDigit cX5_isDigit 1 (some .boolean) := ⟨wm_757, wm_758, wm_179, wm_759, by decide +kernel, by decide +kernel⟩
def mX5_isDigit (a1 : Int) : Option (Int) := gd (inI a1) <| if a1 < 48 then (some (0)) else (if 57 < a1 then (some (0)) else (some (1)))
set_option maxHeartbeats 4000000 in
set_option maxRecDepth 100000 in
theorem vX5_isDigit (l : Launch) {D : va_G} {cy : Nat → ClassId} {b n : Nat} (hn : 102 ≤ n) {X : Nat → va_E} {S0 : St} (a1 : Int) {o1 : Int} (hM : mX5_isDigit a1 = some o1) : gI l yX5_isDigit cX5_isDigit 1 (some .boolean) 0 0 0 D cy b n (enc b cy X S0) [.int (iI a1)] (fun r u => r = iI o1 ∧ u = (n, enc b cy X S0)) := by
  refine gI_of (by decide) (Nat.le_of_ble_eq_true rfl) ?_
  intro p e s m args below meth c S hr hlk hin hsz ls hl hG
  have hx := S.1
  have hb := S.2.1
  have hl : lv_has ls 1 [(0, .int (iI a1))] := hl
  replace hG : gW D cy b n s s.heap [] (enc b cy X S0) := hG
  obtain ⟨H, eH⟩ : ∃ H, H = s.heap := ⟨_, rfl⟩
  obtain ⟨locs, elocs⟩ : ∃ locs : List Loc, locs = [] := ⟨_, rfl⟩
  rw [← eH, ← elocs] at hG
  rw [← eH, ← elocs]
  clear eH elocs
  unfold mX5_isDigit at hM
  refine lv_iload_n hx hb dX5_isDigit_0 rfl (lv_at hl 0 rfl) ?_
  refine lv_bipush (v := iI 48) hx hb dX5_isDigit_1 (by decide) ?_
  obtain ⟨hg_1, hM⟩ := gd_some hM
  refine gi_icmp_lt (tgt := 16) hx hb dX5_isDigit_3 (by decide) hg_1 (by decide) (fun c_2 => ?_) (fun c_2 => ?_)
  · replace hM := ifp hM c_2
    refine lv_iconst (v := iI 0) hx hb dX5_isDigit_16 (by decide) ?_
    cases hM
    exact g_zret S hr hlk hG hsz dX5_isDigit_17 ⟨Nat.le_of_ble_eq_true rfl, Nat.le_of_ble_eq_true rfl⟩ (nar_z (by decide)) ⟨rfl, rfl⟩
  · replace hM := ifn hM c_2
    refine lv_iload_n hx hb dX5_isDigit_6 rfl (lv_at hl 0 rfl) ?_
    refine lv_bipush (v := iI 57) hx hb dX5_isDigit_7 (by decide) ?_
    refine gi_icmp_gt (tgt := 16) hx hb dX5_isDigit_9 (by decide) hg_1 (by decide) (fun c_3 => ?_) (fun c_3 => ?_)
    · replace hM := ifp hM c_3
      refine lv_iconst (v := iI 0) hx hb dX5_isDigit_16 (by decide) ?_
      cases hM
      exact g_zret S hr hlk hG hsz dX5_isDigit_17 ⟨Nat.le_of_ble_eq_true rfl, Nat.le_of_ble_eq_true rfl⟩ (nar_z (by decide)) ⟨rfl, rfl⟩
    · replace hM := ifn hM c_3
      refine lv_iconst (v := iI 1) hx hb dX5_isDigit_12 (by decide) ?_
      refine lv_goto (tgt := 17) hx hb dX5_isDigit_13 (by decide) ?_
      cases hM
      exact g_zret S hr hlk hG hsz dX5_isDigit_17 ⟨Nat.le_of_ble_eq_true rfl, Nat.le_of_ble_eq_true rfl⟩ (nar_z (by decide)) ⟨rfl, rfl⟩
def mX5_advance_155  : Nat → St → Option (St)
  | 0, _ => none
  | f + 1, S_31 => gd ((inI (S_31 12 6)) ∧ (inI (S_31 12 5))) <| if (S_31 12 5) ≤ (S_31 12 6) then (some (S_31)) else (gd (S_31 12 4 = 1) <| gd (0 ≤ (S_31 12 6) ∧ (S_31 12 6) < 400) <| bd1 (mX5_isDigit (S_31 1 (S_31 12 6))) fun r_43 => gd (inI r_43) <| if r_43 = 0 then (some (S_31)) else (gd (inI ((((S_31 12 9) * 10) + (S_31 1 (S_31 12 6))) - 48)) <| nx (up S_31 12 9 (min 8 ((((S_31 12 9) * 10) + (S_31 1 (S_31 12 6))) - 48))) fun S_47 => nx (up S_47 12 6 ((S_47 12 6) + 1)) fun S_48 => mX5_advance_155 f S_48))
def mX5_advance_99  : Nat → St → Option (St)
  | 0, _ => none
  | f + 1, S_50 => gd ((inI (S_50 12 6)) ∧ (inI (S_50 12 5))) <| if (S_50 12 5) ≤ (S_50 12 6) then (some (S_50)) else (gd (S_50 12 4 = 1) <| gd (0 ≤ (S_50 12 6) ∧ (S_50 12 6) < 400) <| bd1 (mX5_isLetter (S_50 1 (S_50 12 6))) fun r_62 => gd (inI r_62) <| if r_62 = 0 then (some (S_50)) else (nx (up S_50 12 6 ((S_50 12 6) + 1)) fun S_65 => mX5_advance_99 f S_65))
def mX5_advance_0  : Nat → St → Option (St)
  | 0, _ => none
  | f + 1, S_1 => gd ((inI (S_1 12 6)) ∧ (inI (S_1 12 5))) <| if (S_1 12 5) ≤ (S_1 12 6) then (some (S_1)) else (gd (S_1 12 4 = 1) <| gd (0 ≤ (S_1 12 6) ∧ (S_1 12 6) < 400) <| bd1 (gd (inI (S_1 1 (S_1 12 6))) <| if (S_1 1 (S_1 12 6)) = 32 then (some (0)) else (if (S_1 1 (S_1 12 6)) = 10 then (some (0)) else (some (1)))) fun t_74 => if t_74 = 0 then (nx (up S_1 12 6 ((S_1 12 6) + 1)) fun S_77 => mX5_advance_0 f S_77) else (some (S_1)))
def mX5_advance (S0 : St)  : Option (St) := bd1 (mX5_advance_0 FU S0) fun S_2 => nx (up S_2 12 8 (S_2 12 6)) fun S_5 => gd ((inI (S_5 12 6)) ∧ (inI (S_5 12 5))) <| if (S_5 12 6) < (S_5 12 5) then (gd (S_5 12 4 = 1) <| gd (0 ≤ (S_5 12 6) ∧ (S_5 12 6) < 400) <| nx (S_5 1 (S_5 12 6)) fun x_10 => bd1 (mX5_isLetter x_10) fun r_12 => gd (inI r_12) <| if r_12 = 0 then (bd1 (mX5_isDigit x_10) fun r_16 => gd (inI r_16) <| if r_16 = 0 then (bd1 (gd (inI x_10) <| if x_10 = 61 then (some (x_10)) else (if x_10 = 59 then (some (x_10)) else (if x_10 = 40 then (some (x_10)) else (if x_10 = 41 then (some (x_10)) else (some (4)))))) fun z_19 => nx (up S_5 12 7 z_19) fun S_22 => nx (up S_22 12 6 ((S_22 12 6) + 1)) fun S_23 => some (S_23)) else (nx (up S_5 12 7 2) fun S_29 => nx (up S_29 12 9 0) fun S_30 => bd1 (mX5_advance_155 FU S_30) fun S_32 => some (S_32))) else (nx (up S_5 12 7 1) fun S_49 => bd1 (mX5_advance_99 FU S_49) fun S_51 => some (S_51))) else (nx (up S_5 12 7 3) fun S_66 => some (S_66))
set_option maxHeartbeats 4000000 in
set_option maxRecDepth 100000 in
theorem vX5_advance (l : Launch) {D : va_G} {cy : Nat → ClassId} {b n : Nat} (hn : 102 ≤ n) {X : Nat → va_E} {S0 : St}  {o1 : St} (hM : mX5_advance S0  = some o1) : gV l yX5_advance cX5_advance 2 1 0 0 D cy b n (enc b cy X S0) [.ref (b + 12)] (fun u => u = (n, enc b cy X o1)) := by
  refine gV_of (by decide) (Nat.le_of_ble_eq_true rfl) ?_
  intro p e s m args below meth c S hr hlk hin hsz ls hl hG
  have hx := S.1
  have hb := S.2.1
  have hl : lv_has ls 2 [(0, .ref (b + 12))] := hl
  replace hG : gW D cy b n s s.heap [] (enc b cy X S0) := hG
  obtain ⟨H, eH⟩ : ∃ H, H = s.heap := ⟨_, rfl⟩
  obtain ⟨locs, elocs⟩ : ∃ locs : List Loc, locs = [] := ⟨_, rfl⟩
  rw [← eH, ← elocs] at hG
  rw [← eH, ← elocs]
  clear eH elocs
  unfold mX5_advance at hM
  obtain ⟨S_2, hc_3, hM⟩ := bd1_some hM
  have hK_4 : ∀ (H : Heap) (locs : List Loc) (ls : Array Slot), gW D cy b n s H locs (enc b cy X S_2) → lv_has ls 2 [(0, .ref (b + 12))] → W p l e (gRm 1 0 0) s m args below meth c H locs 0 0 (gQV D cy b s args below 0 0 (fun u => u = (n, enc b cy X o1))) (F0 m 52 ls []) := by
    intro H locs ls hG hl
    refine lv_aload_n hx hb dX5_advance_52 rfl (lv_at hl 0 rfl) ?_
    refine lv_aload_n hx hb dX5_advance_53 rfl (lv_at hl 0 rfl) ?_
    refine m_get S hG 12 12 6 rfl ec_12 cpX5 wm_361 dX5_advance_54 rfl (Nat.lt_of_lt_of_le (Nat.le_of_ble_eq_true rfl) hn) (by decide) ?_
    refine m_put S hG 12 12 8 rfl 8 (S_2 12 6) ec_12 cpX5 wm_363 dX5_advance_57 (pf_12_8) (Nat.lt_of_lt_of_le (Nat.le_of_ble_eq_true rfl) hn) (by decide) (Nat.le_of_ble_eq_true rfl) rfl rfl rfl (fun H locs S_5 eS_5 hG => ?_)
    replace hM := nx_at hM eS_5
    clear eS_5
    refine lv_aload_n hx hb dX5_advance_60 rfl (lv_at hl 0 rfl) ?_
    refine m_get S hG 12 12 6 rfl ec_12 cpX5 wm_361 dX5_advance_61 rfl (Nat.lt_of_lt_of_le (Nat.le_of_ble_eq_true rfl) hn) (by decide) ?_
    refine lv_aload_n hx hb dX5_advance_64 rfl (lv_at hl 0 rfl) ?_
    refine m_get S hG 12 12 5 rfl ec_12 cpX5 wm_360 dX5_advance_65 rfl (Nat.lt_of_lt_of_le (Nat.le_of_ble_eq_true rfl) hn) (by decide) ?_
    obtain ⟨hg_6, hM⟩ := gd_some hM
    refine gi_icmp_lt (tgt := 77) hx hb dX5_advance_68 (by decide) hg_6.1 hg_6.2 (fun c_7 => ?_) (fun c_7 => ?_)
    · replace hM := ifp hM c_7
      refine lv_aload_n hx hb dX5_advance_77 rfl (lv_at hl 0 rfl) ?_
      obtain ⟨hg_8, hM⟩ := gd_some hM
      refine m_get (v := .ref (b + 1)) S hG 12 12 4 rfl ec_12 cpX5 wm_359 dX5_advance_78 (dyn12 hg_8) (Nat.lt_of_lt_of_le (Nat.le_of_ble_eq_true rfl) hn) (by decide) ?_
      refine lv_aload_n hx hb dX5_advance_81 rfl (lv_at hl 0 rfl) ?_
      refine m_get S hG 12 12 6 rfl ec_12 cpX5 wm_361 dX5_advance_82 rfl (Nat.lt_of_lt_of_le (Nat.le_of_ble_eq_true rfl) hn) (by decide) ?_
      obtain ⟨hg_9, hM⟩ := gd_some hM
      refine mb_ald S hG 1 1 rfl ec_1 (Nat.lt_of_lt_of_le (Nat.le_of_ble_eq_true rfl) hn) dX5_advance_85 hg_9 (by decide) ?_
      refine gi_nm (fun x_10 ex_10 => ?_)
      replace hM := nx_at hM ex_10
      clear ex_10
      refine lv_istore_n (lv' := [(1, .int (iI x_10)), (0, .ref (b + 12))]) hx hb dX5_advance_86 rfl hl (by decide) rfl (fun ls hl => ?_)
      refine lv_iload_n hx hb dX5_advance_87 rfl (lv_at hl 0 rfl) ?_
      obtain ⟨r_12, hc_11, hM⟩ := bd1_some hM
      refine g_si (As := [.int (iI x_10)]) (rest := []) S hG hsz (vX5_isLetter l hn x_10 hc_11) wS_5_100 dX5_advance_88 rfl hl.1 (ar := 1) (by decide +kernel) rfl ⟨Nat.le_of_ble_eq_true rfl, Nat.le_of_ble_eq_true rfl, Nat.le_of_ble_eq_true rfl, Nat.le_of_ble_eq_true rfl⟩ (Nat.le_of_ble_eq_true rfl) (fun rv uu H locs hp hG => ?_)
      obtain ⟨rfl, rfl⟩ := hp
      replace hG : gW D cy b n s H locs (enc b cy X S_5) := hG
      obtain ⟨hg_13, hM⟩ := gd_some hM
      refine gi_if_eq (tgt := 138) hx hb dX5_advance_91 (by decide) hg_13 (fun c_14 => ?_) (fun c_14 => ?_)
      · replace hM := ifp hM c_14
        refine lv_iload_n hx hb dX5_advance_138 rfl (lv_at hl 0 rfl) ?_
        obtain ⟨r_16, hc_15, hM⟩ := bd1_some hM
        refine g_si (As := [.int (iI x_10)]) (rest := []) S hG hsz (vX5_isDigit l hn x_10 hc_15) wS_5_103 dX5_advance_139 rfl hl.1 (ar := 1) (by decide +kernel) rfl ⟨Nat.le_of_ble_eq_true rfl, Nat.le_of_ble_eq_true rfl, Nat.le_of_ble_eq_true rfl, Nat.le_of_ble_eq_true rfl⟩ (Nat.le_of_ble_eq_true rfl) (fun rv uu H locs hp hG => ?_)
        obtain ⟨rfl, rfl⟩ := hp
        replace hG : gW D cy b n s H locs (enc b cy X S_5) := hG
        obtain ⟨hg_17, hM⟩ := gd_some hM
        refine gi_if_eq (tgt := 223) hx hb dX5_advance_142 (by decide) hg_17 (fun c_18 => ?_) (fun c_18 => ?_)
        · replace hM := ifp hM c_18
          refine lv_aload_n hx hb dX5_advance_223 rfl (lv_at hl 1 rfl) ?_
          refine lv_iload_n hx hb dX5_advance_224 rfl (lv_at hl 0 rfl) ?_
          refine lv_bipush (v := iI 61) hx hb dX5_advance_225 (by decide) ?_
          obtain ⟨z_19, hc_20, hM⟩ := bd1_some hM
          have hK_21 : ∀ (H : Heap) (locs : List Loc) (ls : Array Slot), gW D cy b n s H locs (enc b cy X S_5) → lv_has ls 2 [(0, .ref (b + 12))] → W p l e (gRm 1 0 0) s m args below meth c H locs 0 0 (gQV D cy b s args below 0 0 (fun u => u = (n, enc b cy X o1))) (F0 m 253 ls [.int (iI z_19), .ref (b + 12)]) := by
            intro H locs ls hG hl
            refine m_put S hG 12 12 7 rfl 7 z_19 ec_12 cpX5 wm_362 dX5_advance_253 (pf_12_7) (Nat.lt_of_lt_of_le (Nat.le_of_ble_eq_true rfl) hn) (by decide) (Nat.le_of_ble_eq_true rfl) rfl rfl rfl (fun H locs S_22 eS_22 hG => ?_)
            replace hM := nx_at hM eS_22
            clear eS_22
            refine lv_aload_n hx hb dX5_advance_256 rfl (lv_at hl 0 rfl) ?_
            refine lv_dup hx hb dX5_advance_257 rfl ?_
            refine m_get S hG 12 12 6 rfl ec_12 cpX5 wm_361 dX5_advance_258 rfl (Nat.lt_of_lt_of_le (Nat.le_of_ble_eq_true rfl) hn) (by decide) ?_
            refine lv_iconst (v := iI 1) hx hb dX5_advance_261 (by decide) ?_
            refine gi_add hx hb dX5_advance_262 ?_
            refine m_put S hG 12 12 6 rfl 6 ((S_22 12 6) + 1) ec_12 cpX5 wm_361 dX5_advance_263 (pf_12_6) (Nat.lt_of_lt_of_le (Nat.le_of_ble_eq_true rfl) hn) (by decide) (Nat.le_of_ble_eq_true rfl) rfl rfl rfl (fun H locs S_23 eS_23 hG => ?_)
            replace hM := nx_at hM eS_23
            clear eS_23
            cases hM
            exact g_vret S hr hlk hG hsz dX5_advance_266 ⟨Nat.le_of_ble_eq_true rfl, Nat.le_of_ble_eq_true rfl⟩ rfl
          clear hM
          replace hM := hc_20
          obtain ⟨hg_24, hM⟩ := gd_some hM
          refine gi_icmp_eq (tgt := 248) hx hb dX5_advance_227 (by decide) hg_24 (by decide) (fun c_25 => ?_) (fun c_25 => ?_)
          · replace hM := ifp hM c_25
            refine lv_iload_n hx hb dX5_advance_248 rfl (lv_at hl 0 rfl) ?_
            refine lv_goto (tgt := 253) hx hb dX5_advance_249 (by decide) ?_
            cases hM
            exact hK_21 H locs ls hG (lv_sub hl [1] rfl)
          · replace hM := ifn hM c_25
            refine lv_iload_n hx hb dX5_advance_230 rfl (lv_at hl 0 rfl) ?_
            refine lv_bipush (v := iI 59) hx hb dX5_advance_231 (by decide) ?_
            refine gi_icmp_eq (tgt := 248) hx hb dX5_advance_233 (by decide) hg_24 (by decide) (fun c_26 => ?_) (fun c_26 => ?_)
            · replace hM := ifp hM c_26
              refine lv_iload_n hx hb dX5_advance_248 rfl (lv_at hl 0 rfl) ?_
              refine lv_goto (tgt := 253) hx hb dX5_advance_249 (by decide) ?_
              cases hM
              exact hK_21 H locs ls hG (lv_sub hl [1] rfl)
            · replace hM := ifn hM c_26
              refine lv_iload_n hx hb dX5_advance_236 rfl (lv_at hl 0 rfl) ?_
              refine lv_bipush (v := iI 40) hx hb dX5_advance_237 (by decide) ?_
              refine gi_icmp_eq (tgt := 248) hx hb dX5_advance_239 (by decide) hg_24 (by decide) (fun c_27 => ?_) (fun c_27 => ?_)
              · replace hM := ifp hM c_27
                refine lv_iload_n hx hb dX5_advance_248 rfl (lv_at hl 0 rfl) ?_
                refine lv_goto (tgt := 253) hx hb dX5_advance_249 (by decide) ?_
                cases hM
                exact hK_21 H locs ls hG (lv_sub hl [1] rfl)
              · replace hM := ifn hM c_27
                refine lv_iload_n hx hb dX5_advance_242 rfl (lv_at hl 0 rfl) ?_
                refine lv_bipush (v := iI 41) hx hb dX5_advance_243 (by decide) ?_
                refine gi_icmp_ne (tgt := 252) hx hb dX5_advance_245 (by decide) hg_24 (by decide) (fun c_28 => ?_) (fun c_28 => ?_)
                · replace hM := ifn hM c_28
                  refine lv_iconst (v := iI 4) hx hb dX5_advance_252 (by decide) ?_
                  cases hM
                  exact hK_21 H locs ls hG (lv_sub hl [1] rfl)
                · replace hM := ifp hM c_28
                  refine lv_iload_n hx hb dX5_advance_248 rfl (lv_at hl 0 rfl) ?_
                  refine lv_goto (tgt := 253) hx hb dX5_advance_249 (by decide) ?_
                  cases hM
                  exact hK_21 H locs ls hG (lv_sub hl [1] rfl)
        · replace hM := ifn hM c_18
          refine lv_aload_n hx hb dX5_advance_145 rfl (lv_at hl 1 rfl) ?_
          refine lv_iconst (v := iI 2) hx hb dX5_advance_146 (by decide) ?_
          refine m_put S hG 12 12 7 rfl 7 2 ec_12 cpX5 wm_362 dX5_advance_147 (pf_12_7) (Nat.lt_of_lt_of_le (Nat.le_of_ble_eq_true rfl) hn) (by decide) (Nat.le_of_ble_eq_true rfl) rfl rfl rfl (fun H locs S_29 eS_29 hG => ?_)
          replace hM := nx_at hM eS_29
          clear eS_29
          refine lv_aload_n hx hb dX5_advance_150 rfl (lv_at hl 1 rfl) ?_
          refine lv_iconst (v := iI 0) hx hb dX5_advance_151 (by decide) ?_
          refine m_put S hG 12 12 9 rfl 9 0 ec_12 cpX5 wm_364 dX5_advance_152 (pf_12_9) (Nat.lt_of_lt_of_le (Nat.le_of_ble_eq_true rfl) hn) (by decide) (Nat.le_of_ble_eq_true rfl) rfl rfl rfl (fun H locs S_30 eS_30 hG => ?_)
          replace hM := nx_at hM eS_30
          clear eS_30
          obtain ⟨S_32, hc_33, hM⟩ := bd1_some hM
          have hK_34 : ∀ (H : Heap) (locs : List Loc) (ls : Array Slot), gW D cy b n s H locs (enc b cy X S_32) → lv_has ls 2 [] → W p l e (gRm 1 0 0) s m args below meth c H locs 0 0 (gQV D cy b s args below 0 0 (fun u => u = (n, enc b cy X o1))) (F0 m 266 ls []) := by
            intro H locs ls hG hl
            cases hM
            exact g_vret S hr hlk hG hsz dX5_advance_266 ⟨Nat.le_of_ble_eq_true rfl, Nat.le_of_ble_eq_true rfl⟩ rfl
          have loop_35 : ∀ (f : Nat)  (S_31 : St) (H : Heap) (locs : List Loc) (ls : Array Slot), mX5_advance_155 f S_31 = some S_32 → gW D cy b n s H locs (enc b cy X S_31) → lv_has ls 2 [(0, .ref (b + 12))] → W p l e (gRm 1 0 0) s m args below meth c H locs 0 0 (gQV D cy b s args below 0 0 (fun u => u = (n, enc b cy X o1))) (F0 m 155 ls []) := by
            clear hM
            intro f
            induction f with
            | zero => intro  S_31 H locs ls hM; rw [mX5_advance_155] at hM; cases hM
            | succ f_37 ih_36 =>
              intro  S_31 H locs ls hM hG hl
              rw [mX5_advance_155] at hM
              refine lv_aload_n hx hb dX5_advance_155 rfl (lv_at hl 0 rfl) ?_
              refine m_get S hG 12 12 6 rfl ec_12 cpX5 wm_361 dX5_advance_156 rfl (Nat.lt_of_lt_of_le (Nat.le_of_ble_eq_true rfl) hn) (by decide) ?_
              refine lv_aload_n hx hb dX5_advance_159 rfl (lv_at hl 0 rfl) ?_
              refine m_get S hG 12 12 5 rfl ec_12 cpX5 wm_360 dX5_advance_160 rfl (Nat.lt_of_lt_of_le (Nat.le_of_ble_eq_true rfl) hn) (by decide) ?_
              obtain ⟨hg_38, hM⟩ := gd_some hM
              refine gi_icmp_ge (tgt := 266) hx hb dX5_advance_163 (by decide) hg_38.1 hg_38.2 (fun c_39 => ?_) (fun c_39 => ?_)
              · replace hM := ifp hM c_39
                cases hM
                exact hK_34 H locs ls hG (lv_sub hl [] rfl)
              · replace hM := ifn hM c_39
                refine lv_aload_n hx hb dX5_advance_166 rfl (lv_at hl 0 rfl) ?_
                obtain ⟨hg_40, hM⟩ := gd_some hM
                refine m_get (v := .ref (b + 1)) S hG 12 12 4 rfl ec_12 cpX5 wm_359 dX5_advance_167 (dyn12 hg_40) (Nat.lt_of_lt_of_le (Nat.le_of_ble_eq_true rfl) hn) (by decide) ?_
                refine lv_aload_n hx hb dX5_advance_170 rfl (lv_at hl 0 rfl) ?_
                refine m_get S hG 12 12 6 rfl ec_12 cpX5 wm_361 dX5_advance_171 rfl (Nat.lt_of_lt_of_le (Nat.le_of_ble_eq_true rfl) hn) (by decide) ?_
                obtain ⟨hg_41, hM⟩ := gd_some hM
                refine mb_ald S hG 1 1 rfl ec_1 (Nat.lt_of_lt_of_le (Nat.le_of_ble_eq_true rfl) hn) dX5_advance_174 hg_41 (by decide) ?_
                obtain ⟨r_43, hc_42, hM⟩ := bd1_some hM
                refine g_si (As := [.int (iI (S_31 1 (S_31 12 6)))]) (rest := []) S hG hsz (vX5_isDigit l hn (S_31 1 (S_31 12 6)) hc_42) wS_5_103 dX5_advance_175 rfl hl.1 (ar := 1) (by decide +kernel) rfl ⟨Nat.le_of_ble_eq_true rfl, Nat.le_of_ble_eq_true rfl, Nat.le_of_ble_eq_true rfl, Nat.le_of_ble_eq_true rfl⟩ (Nat.le_of_ble_eq_true rfl) (fun rv uu H locs hp hG => ?_)
                obtain ⟨rfl, rfl⟩ := hp
                replace hG : gW D cy b n s H locs (enc b cy X S_31) := hG
                obtain ⟨hg_44, hM⟩ := gd_some hM
                refine gi_if_eq (tgt := 266) hx hb dX5_advance_178 (by decide) hg_44 (fun c_45 => ?_) (fun c_45 => ?_)
                · replace hM := ifp hM c_45
                  cases hM
                  exact hK_34 H locs ls hG (lv_sub hl [] rfl)
                · replace hM := ifn hM c_45
                  refine lv_aload_n hx hb dX5_advance_181 rfl (lv_at hl 0 rfl) ?_
                  refine lv_bipush (v := iI 8) hx hb dX5_advance_182 (by decide) ?_
                  refine lv_aload_n hx hb dX5_advance_184 rfl (lv_at hl 0 rfl) ?_
                  refine m_get S hG 12 12 9 rfl ec_12 cpX5 wm_364 dX5_advance_185 rfl (Nat.lt_of_lt_of_le (Nat.le_of_ble_eq_true rfl) hn) (by decide) ?_
                  refine lv_bipush (v := iI 10) hx hb dX5_advance_188 (by decide) ?_
                  refine gi_mul hx hb dX5_advance_190 ?_
                  refine lv_aload_n hx hb dX5_advance_191 rfl (lv_at hl 0 rfl) ?_
                  refine m_get (v := .ref (b + 1)) S hG 12 12 4 rfl ec_12 cpX5 wm_359 dX5_advance_192 (dyn12 hg_40) (Nat.lt_of_lt_of_le (Nat.le_of_ble_eq_true rfl) hn) (by decide) ?_
                  refine lv_aload_n hx hb dX5_advance_195 rfl (lv_at hl 0 rfl) ?_
                  refine m_get S hG 12 12 6 rfl ec_12 cpX5 wm_361 dX5_advance_196 rfl (Nat.lt_of_lt_of_le (Nat.le_of_ble_eq_true rfl) hn) (by decide) ?_
                  refine mb_ald S hG 1 1 rfl ec_1 (Nat.lt_of_lt_of_le (Nat.le_of_ble_eq_true rfl) hn) dX5_advance_199 hg_41 (by decide) ?_
                  refine gi_add hx hb dX5_advance_200 ?_
                  refine lv_bipush (v := iI 48) hx hb dX5_advance_201 (by decide) ?_
                  refine gi_sub hx hb dX5_advance_203 ?_
                  obtain ⟨hg_46, hM⟩ := gd_some hM
                  refine gi_min S wm_760 wm_761 wm_190 wm_762 hl.1 dX5_advance_204 ⟨Nat.le_of_ble_eq_true rfl, Nat.le_of_ble_eq_true rfl, Nat.le_of_ble_eq_true rfl, Nat.le_of_ble_eq_true rfl⟩ (by decide) hg_46 ?_
                  refine m_put S hG 12 12 9 rfl 9 (min 8 ((((S_31 12 9) * 10) + (S_31 1 (S_31 12 6))) - 48)) ec_12 cpX5 wm_364 dX5_advance_207 (pf_12_9) (Nat.lt_of_lt_of_le (Nat.le_of_ble_eq_true rfl) hn) (by decide) (Nat.le_of_ble_eq_true rfl) rfl rfl rfl (fun H locs S_47 eS_47 hG => ?_)
                  replace hM := nx_at hM eS_47
                  clear eS_47
                  refine lv_aload_n hx hb dX5_advance_210 rfl (lv_at hl 0 rfl) ?_
                  refine lv_dup hx hb dX5_advance_211 rfl ?_
                  refine m_get S hG 12 12 6 rfl ec_12 cpX5 wm_361 dX5_advance_212 rfl (Nat.lt_of_lt_of_le (Nat.le_of_ble_eq_true rfl) hn) (by decide) ?_
                  refine lv_iconst (v := iI 1) hx hb dX5_advance_215 (by decide) ?_
                  refine gi_add hx hb dX5_advance_216 ?_
                  refine m_put S hG 12 12 6 rfl 6 ((S_47 12 6) + 1) ec_12 cpX5 wm_361 dX5_advance_217 (pf_12_6) (Nat.lt_of_lt_of_le (Nat.le_of_ble_eq_true rfl) hn) (by decide) (Nat.le_of_ble_eq_true rfl) rfl rfl rfl (fun H locs S_48 eS_48 hG => ?_)
                  replace hM := nx_at hM eS_48
                  clear eS_48
                  refine lv_goto (tgt := 155) hx hb dX5_advance_220 (by decide) ?_
                  exact ih_36  S_48 H locs ls hM hG (lv_sub hl [0] rfl)
          exact loop_35 FU  S_30 H locs ls hc_33 hG (lv_sub hl [1] rfl)
      · replace hM := ifn hM c_14
        refine lv_aload_n hx hb dX5_advance_94 rfl (lv_at hl 1 rfl) ?_
        refine lv_iconst (v := iI 1) hx hb dX5_advance_95 (by decide) ?_
        refine m_put S hG 12 12 7 rfl 7 1 ec_12 cpX5 wm_362 dX5_advance_96 (pf_12_7) (Nat.lt_of_lt_of_le (Nat.le_of_ble_eq_true rfl) hn) (by decide) (Nat.le_of_ble_eq_true rfl) rfl rfl rfl (fun H locs S_49 eS_49 hG => ?_)
        replace hM := nx_at hM eS_49
        clear eS_49
        obtain ⟨S_51, hc_52, hM⟩ := bd1_some hM
        have hK_53 : ∀ (H : Heap) (locs : List Loc) (ls : Array Slot), gW D cy b n s H locs (enc b cy X S_51) → lv_has ls 2 [] → W p l e (gRm 1 0 0) s m args below meth c H locs 0 0 (gQV D cy b s args below 0 0 (fun u => u = (n, enc b cy X o1))) (F0 m 266 ls []) := by
          intro H locs ls hG hl
          cases hM
          exact g_vret S hr hlk hG hsz dX5_advance_266 ⟨Nat.le_of_ble_eq_true rfl, Nat.le_of_ble_eq_true rfl⟩ rfl
        have loop_54 : ∀ (f : Nat)  (S_50 : St) (H : Heap) (locs : List Loc) (ls : Array Slot), mX5_advance_99 f S_50 = some S_51 → gW D cy b n s H locs (enc b cy X S_50) → lv_has ls 2 [(0, .ref (b + 12))] → W p l e (gRm 1 0 0) s m args below meth c H locs 0 0 (gQV D cy b s args below 0 0 (fun u => u = (n, enc b cy X o1))) (F0 m 99 ls []) := by
          clear hM
          intro f
          induction f with
          | zero => intro  S_50 H locs ls hM; rw [mX5_advance_99] at hM; cases hM
          | succ f_56 ih_55 =>
            intro  S_50 H locs ls hM hG hl
            rw [mX5_advance_99] at hM
            refine lv_aload_n hx hb dX5_advance_99 rfl (lv_at hl 0 rfl) ?_
            refine m_get S hG 12 12 6 rfl ec_12 cpX5 wm_361 dX5_advance_100 rfl (Nat.lt_of_lt_of_le (Nat.le_of_ble_eq_true rfl) hn) (by decide) ?_
            refine lv_aload_n hx hb dX5_advance_103 rfl (lv_at hl 0 rfl) ?_
            refine m_get S hG 12 12 5 rfl ec_12 cpX5 wm_360 dX5_advance_104 rfl (Nat.lt_of_lt_of_le (Nat.le_of_ble_eq_true rfl) hn) (by decide) ?_
            obtain ⟨hg_57, hM⟩ := gd_some hM
            refine gi_icmp_ge (tgt := 266) hx hb dX5_advance_107 (by decide) hg_57.1 hg_57.2 (fun c_58 => ?_) (fun c_58 => ?_)
            · replace hM := ifp hM c_58
              cases hM
              exact hK_53 H locs ls hG (lv_sub hl [] rfl)
            · replace hM := ifn hM c_58
              refine lv_aload_n hx hb dX5_advance_110 rfl (lv_at hl 0 rfl) ?_
              obtain ⟨hg_59, hM⟩ := gd_some hM
              refine m_get (v := .ref (b + 1)) S hG 12 12 4 rfl ec_12 cpX5 wm_359 dX5_advance_111 (dyn12 hg_59) (Nat.lt_of_lt_of_le (Nat.le_of_ble_eq_true rfl) hn) (by decide) ?_
              refine lv_aload_n hx hb dX5_advance_114 rfl (lv_at hl 0 rfl) ?_
              refine m_get S hG 12 12 6 rfl ec_12 cpX5 wm_361 dX5_advance_115 rfl (Nat.lt_of_lt_of_le (Nat.le_of_ble_eq_true rfl) hn) (by decide) ?_
              obtain ⟨hg_60, hM⟩ := gd_some hM
              refine mb_ald S hG 1 1 rfl ec_1 (Nat.lt_of_lt_of_le (Nat.le_of_ble_eq_true rfl) hn) dX5_advance_118 hg_60 (by decide) ?_
              obtain ⟨r_62, hc_61, hM⟩ := bd1_some hM
              refine g_si (As := [.int (iI (S_50 1 (S_50 12 6)))]) (rest := []) S hG hsz (vX5_isLetter l hn (S_50 1 (S_50 12 6)) hc_61) wS_5_100 dX5_advance_119 rfl hl.1 (ar := 1) (by decide +kernel) rfl ⟨Nat.le_of_ble_eq_true rfl, Nat.le_of_ble_eq_true rfl, Nat.le_of_ble_eq_true rfl, Nat.le_of_ble_eq_true rfl⟩ (Nat.le_of_ble_eq_true rfl) (fun rv uu H locs hp hG => ?_)
              obtain ⟨rfl, rfl⟩ := hp
              replace hG : gW D cy b n s H locs (enc b cy X S_50) := hG
              obtain ⟨hg_63, hM⟩ := gd_some hM
              refine gi_if_eq (tgt := 266) hx hb dX5_advance_122 (by decide) hg_63 (fun c_64 => ?_) (fun c_64 => ?_)
              · replace hM := ifp hM c_64
                cases hM
                exact hK_53 H locs ls hG (lv_sub hl [] rfl)
              · replace hM := ifn hM c_64
                refine lv_aload_n hx hb dX5_advance_125 rfl (lv_at hl 0 rfl) ?_
                refine lv_dup hx hb dX5_advance_126 rfl ?_
                refine m_get S hG 12 12 6 rfl ec_12 cpX5 wm_361 dX5_advance_127 rfl (Nat.lt_of_lt_of_le (Nat.le_of_ble_eq_true rfl) hn) (by decide) ?_
                refine lv_iconst (v := iI 1) hx hb dX5_advance_130 (by decide) ?_
                refine gi_add hx hb dX5_advance_131 ?_
                refine m_put S hG 12 12 6 rfl 6 ((S_50 12 6) + 1) ec_12 cpX5 wm_361 dX5_advance_132 (pf_12_6) (Nat.lt_of_lt_of_le (Nat.le_of_ble_eq_true rfl) hn) (by decide) (Nat.le_of_ble_eq_true rfl) rfl rfl rfl (fun H locs S_65 eS_65 hG => ?_)
                replace hM := nx_at hM eS_65
                clear eS_65
                refine lv_goto (tgt := 99) hx hb dX5_advance_135 (by decide) ?_
                exact ih_55  S_65 H locs ls hM hG (lv_sub hl [0] rfl)
        exact loop_54 FU  S_49 H locs ls hc_52 hG (lv_sub hl [1] rfl)
    · replace hM := ifn hM c_7
      refine lv_aload_n hx hb dX5_advance_71 rfl (lv_at hl 0 rfl) ?_
      refine lv_iconst (v := iI 3) hx hb dX5_advance_72 (by decide) ?_
      refine m_put S hG 12 12 7 rfl 7 3 ec_12 cpX5 wm_362 dX5_advance_73 (pf_12_7) (Nat.lt_of_lt_of_le (Nat.le_of_ble_eq_true rfl) hn) (by decide) (Nat.le_of_ble_eq_true rfl) rfl rfl rfl (fun H locs S_66 eS_66 hG => ?_)
      replace hM := nx_at hM eS_66
      clear eS_66
      cases hM
      exact g_vret S hr hlk hG hsz dX5_advance_76 ⟨Nat.le_of_ble_eq_true rfl, Nat.le_of_ble_eq_true rfl⟩ rfl
  have loop_67 : ∀ (f : Nat)  (S_1 : St) (H : Heap) (locs : List Loc) (ls : Array Slot), mX5_advance_0 f S_1 = some S_2 → gW D cy b n s H locs (enc b cy X S_1) → lv_has ls 2 [(0, .ref (b + 12))] → W p l e (gRm 1 0 0) s m args below meth c H locs 0 0 (gQV D cy b s args below 0 0 (fun u => u = (n, enc b cy X o1))) (F0 m 0 ls []) := by
    clear hM
    intro f
    induction f with
    | zero => intro  S_1 H locs ls hM; rw [mX5_advance_0] at hM; cases hM
    | succ f_69 ih_68 =>
      intro  S_1 H locs ls hM hG hl
      rw [mX5_advance_0] at hM
      refine lv_aload_n hx hb dX5_advance_0 rfl (lv_at hl 0 rfl) ?_
      refine m_get S hG 12 12 6 rfl ec_12 cpX5 wm_361 dX5_advance_1 rfl (Nat.lt_of_lt_of_le (Nat.le_of_ble_eq_true rfl) hn) (by decide) ?_
      refine lv_aload_n hx hb dX5_advance_4 rfl (lv_at hl 0 rfl) ?_
      refine m_get S hG 12 12 5 rfl ec_12 cpX5 wm_360 dX5_advance_5 rfl (Nat.lt_of_lt_of_le (Nat.le_of_ble_eq_true rfl) hn) (by decide) ?_
      obtain ⟨hg_70, hM⟩ := gd_some hM
      refine gi_icmp_ge (tgt := 52) hx hb dX5_advance_8 (by decide) hg_70.1 hg_70.2 (fun c_71 => ?_) (fun c_71 => ?_)
      · replace hM := ifp hM c_71
        cases hM
        exact hK_4 H locs ls hG (lv_sub hl [0] rfl)
      · replace hM := ifn hM c_71
        refine lv_aload_n hx hb dX5_advance_11 rfl (lv_at hl 0 rfl) ?_
        obtain ⟨hg_72, hM⟩ := gd_some hM
        refine m_get (v := .ref (b + 1)) S hG 12 12 4 rfl ec_12 cpX5 wm_359 dX5_advance_12 (dyn12 hg_72) (Nat.lt_of_lt_of_le (Nat.le_of_ble_eq_true rfl) hn) (by decide) ?_
        refine lv_aload_n hx hb dX5_advance_15 rfl (lv_at hl 0 rfl) ?_
        refine m_get S hG 12 12 6 rfl ec_12 cpX5 wm_361 dX5_advance_16 rfl (Nat.lt_of_lt_of_le (Nat.le_of_ble_eq_true rfl) hn) (by decide) ?_
        obtain ⟨hg_73, hM⟩ := gd_some hM
        refine mb_ald S hG 1 1 rfl ec_1 (Nat.lt_of_lt_of_le (Nat.le_of_ble_eq_true rfl) hn) dX5_advance_19 hg_73 (by decide) ?_
        refine lv_bipush (v := iI 32) hx hb dX5_advance_20 (by decide) ?_
        obtain ⟨t_74, hc_75, hM⟩ := bd1_some hM
        have hK_76 : ∀ (H : Heap) (locs : List Loc) (ls : Array Slot), t_74 = 0 → gW D cy b n s H locs (enc b cy X S_1) → lv_has ls 2 [(0, .ref (b + 12))] → W p l e (gRm 1 0 0) s m args below meth c H locs 0 0 (gQV D cy b s args below 0 0 (fun u => u = (n, enc b cy X o1))) (F0 m 39 ls []) := by
          intro H locs ls ht hG hl
          subst ht
          replace hM := ifp hM rfl
          refine lv_aload_n hx hb dX5_advance_39 rfl (lv_at hl 0 rfl) ?_
          refine lv_dup hx hb dX5_advance_40 rfl ?_
          refine m_get S hG 12 12 6 rfl ec_12 cpX5 wm_361 dX5_advance_41 rfl (Nat.lt_of_lt_of_le (Nat.le_of_ble_eq_true rfl) hn) (by decide) ?_
          refine lv_iconst (v := iI 1) hx hb dX5_advance_44 (by decide) ?_
          refine gi_add hx hb dX5_advance_45 ?_
          refine m_put S hG 12 12 6 rfl 6 ((S_1 12 6) + 1) ec_12 cpX5 wm_361 dX5_advance_46 (pf_12_6) (Nat.lt_of_lt_of_le (Nat.le_of_ble_eq_true rfl) hn) (by decide) (Nat.le_of_ble_eq_true rfl) rfl rfl rfl (fun H locs S_77 eS_77 hG => ?_)
          replace hM := nx_at hM eS_77
          clear eS_77
          refine lv_goto (tgt := 0) hx hb dX5_advance_49 (by decide) ?_
          exact ih_68  S_77 H locs ls hM hG (lv_sub hl [0] rfl)
        have hK_78 : ∀ (H : Heap) (locs : List Loc) (ls : Array Slot), t_74 = 1 → gW D cy b n s H locs (enc b cy X S_1) → lv_has ls 2 [(0, .ref (b + 12))] → W p l e (gRm 1 0 0) s m args below meth c H locs 0 0 (gQV D cy b s args below 0 0 (fun u => u = (n, enc b cy X o1))) (F0 m 52 ls []) := by
          intro H locs ls ht hG hl
          subst ht
          replace hM := ifn hM (by decide)
          cases hM
          exact hK_4 H locs ls hG (lv_sub hl [0] rfl)
        clear hM
        replace hM := hc_75
        obtain ⟨hg_79, hM⟩ := gd_some hM
        refine gi_icmp_eq (tgt := 39) hx hb dX5_advance_22 (by decide) hg_79 (by decide) (fun c_80 => ?_) (fun c_80 => ?_)
        · replace hM := ifp hM c_80
          cases hM
          exact hK_76 H locs ls rfl hG (lv_sub hl [0] rfl)
        · replace hM := ifn hM c_80
          refine lv_aload_n hx hb dX5_advance_25 rfl (lv_at hl 0 rfl) ?_
          refine m_get (v := .ref (b + 1)) S hG 12 12 4 rfl ec_12 cpX5 wm_359 dX5_advance_26 (dyn12 hg_72) (Nat.lt_of_lt_of_le (Nat.le_of_ble_eq_true rfl) hn) (by decide) ?_
          refine lv_aload_n hx hb dX5_advance_29 rfl (lv_at hl 0 rfl) ?_
          refine m_get S hG 12 12 6 rfl ec_12 cpX5 wm_361 dX5_advance_30 rfl (Nat.lt_of_lt_of_le (Nat.le_of_ble_eq_true rfl) hn) (by decide) ?_
          refine mb_ald S hG 1 1 rfl ec_1 (Nat.lt_of_lt_of_le (Nat.le_of_ble_eq_true rfl) hn) dX5_advance_33 hg_73 (by decide) ?_
          refine lv_bipush (v := iI 10) hx hb dX5_advance_34 (by decide) ?_
          refine gi_icmp_ne (tgt := 52) hx hb dX5_advance_36 (by decide) hg_79 (by decide) (fun c_81 => ?_) (fun c_81 => ?_)
          · replace hM := ifn hM c_81
            cases hM
            exact hK_78 H locs ls rfl hG (lv_sub hl [0] rfl)
          · replace hM := ifp hM c_81
            cases hM
            exact hK_76 H locs ls rfl hG (lv_sub hl [0] rfl)
  exact loop_67 FU  S0 H locs ls hc_3 hG (lv_sub hl [0] rfl)
theorem wV_5_68 : gWV "GrownKinds$Reader" 68 yX5_readHead cX5_readHead 2 none := ⟨wm_763, wm_765, wm_2, wm_179, wm_766, by decide +kernel, by decide +kernel⟩
theorem wV_5_153 : gWV "GrownKinds$Reader" 153 yX5_expectWord cX5_expectWord 2 none := ⟨wm_768, wm_770, wm_3, wm_179, wm_771, by decide +kernel, by decide +kernel⟩
theorem wV_5_149 : gWV "GrownKinds$Reader" 149 yX5_refuse cX5_refuse 2 none := ⟨wm_824, wm_826, wm_5, wm_179, wm_827, by decide +kernel, by decide +kernel⟩
def mX5_refuse (S0 : St) (a1 : Int) : Option (St) := gd (inI (S0 12 1)) <| if (S0 12 1) = 0 then (nx (up S0 12 1 a1) fun S_3 => nx (up S_3 12 2 (S_3 12 8)) fun S_4 => some (S_4)) else (some (S0))
set_option maxHeartbeats 4000000 in
set_option maxRecDepth 100000 in
theorem vX5_refuse (l : Launch) {D : va_G} {cy : Nat → ClassId} {b n : Nat} (hn : 102 ≤ n) {X : Nat → va_E} {S0 : St} (a1 : Int) {o1 : St} (hM : mX5_refuse S0 a1 = some o1) : gV l yX5_refuse cX5_refuse 2 0 0 0 D cy b n (enc b cy X S0) [.ref (b + 12), .int (iI a1)] (fun u => u = (n, enc b cy X o1)) := by
  refine gV_of (by decide) (Nat.le_of_ble_eq_true rfl) ?_
  intro p e s m args below meth c S hr hlk hin hsz ls hl hG
  have hx := S.1
  have hb := S.2.1
  have hl : lv_has ls 2 [(0, .ref (b + 12)), (1, .int (iI a1))] := hl
  replace hG : gW D cy b n s s.heap [] (enc b cy X S0) := hG
  obtain ⟨H, eH⟩ : ∃ H, H = s.heap := ⟨_, rfl⟩
  obtain ⟨locs, elocs⟩ : ∃ locs : List Loc, locs = [] := ⟨_, rfl⟩
  rw [← eH, ← elocs] at hG
  rw [← eH, ← elocs]
  clear eH elocs
  unfold mX5_refuse at hM
  refine lv_aload_n hx hb dX5_refuse_0 rfl (lv_at hl 0 rfl) ?_
  refine m_get S hG 12 12 1 rfl ec_12 cpX5 wm_354 dX5_refuse_1 rfl (Nat.lt_of_lt_of_le (Nat.le_of_ble_eq_true rfl) hn) (by decide) ?_
  obtain ⟨hg_1, hM⟩ := gd_some hM
  refine gi_if_ne (tgt := 20) hx hb dX5_refuse_4 (by decide) hg_1 (fun c_2 => ?_) (fun c_2 => ?_)
  · replace hM := ifn hM c_2
    cases hM
    exact g_vret S hr hlk hG hsz dX5_refuse_20 ⟨Nat.le_of_ble_eq_true rfl, Nat.le_of_ble_eq_true rfl⟩ rfl
  · replace hM := ifp hM c_2
    refine lv_aload_n hx hb dX5_refuse_7 rfl (lv_at hl 0 rfl) ?_
    refine lv_iload_n hx hb dX5_refuse_8 rfl (lv_at hl 1 rfl) ?_
    refine m_put S hG 12 12 1 rfl 1 a1 ec_12 cpX5 wm_354 dX5_refuse_9 (pf_12_1) (Nat.lt_of_lt_of_le (Nat.le_of_ble_eq_true rfl) hn) (by decide) (Nat.le_of_ble_eq_true rfl) rfl rfl rfl (fun H locs S_3 eS_3 hG => ?_)
    replace hM := nx_at hM eS_3
    clear eS_3
    refine lv_aload_n hx hb dX5_refuse_12 rfl (lv_at hl 0 rfl) ?_
    refine lv_aload_n hx hb dX5_refuse_13 rfl (lv_at hl 0 rfl) ?_
    refine m_get S hG 12 12 8 rfl ec_12 cpX5 wm_363 dX5_refuse_14 rfl (Nat.lt_of_lt_of_le (Nat.le_of_ble_eq_true rfl) hn) (by decide) ?_
    refine m_put S hG 12 12 2 rfl 2 (S_3 12 8) ec_12 cpX5 wm_356 dX5_refuse_17 (pf_12_2) (Nat.lt_of_lt_of_le (Nat.le_of_ble_eq_true rfl) hn) (by decide) (Nat.le_of_ble_eq_true rfl) rfl rfl rfl (fun H locs S_4 eS_4 hG => ?_)
    replace hM := nx_at hM eS_4
    clear eS_4
    cases hM
    exact g_vret S hr hlk hG hsz dX5_refuse_20 ⟨Nat.le_of_ble_eq_true rfl, Nat.le_of_ble_eq_true rfl⟩ rfl
theorem wV_5_123 : gWV "GrownKinds$Reader" 123 yX5_isWord cX5_isWord 3 (some .boolean) := ⟨wm_772, wm_774, wm_4, wm_179, wm_775, by decide +kernel, by decide +kernel⟩
theorem wV_5_112 : gWV "GrownKinds$Reader" 112 yJ0_length_8abf5 cJ0_length_8abf5 1 (some .int) := ⟨wm_776, wm_777, wm_778, wm_191, wm_779, by decide +kernel, by decide +kernel⟩
theorem wV_5_117 : gWV "GrownKinds$Reader" 117 yJ0_charAt_5068e cJ0_charAt_5068e 2 (some .char) := ⟨wm_786, wm_787, wm_788, wm_191, wm_789, by decide +kernel, by decide +kernel⟩
def mX5_isWord_12_s_28 (bs : List Int32) (S0 : St)  : Nat → Int → Option (Int)
  | 0, _ => none
  | f + 1, v_7 => bd1 (mJ0_length_8abf5 bs) fun r_16 => gd ((inI v_7) ∧ (inI r_16)) <| if r_16 ≤ v_7 then (some (1)) else (gd (S0 12 4 = 1) <| gd (0 ≤ ((S0 12 8) + v_7) ∧ ((S0 12 8) + v_7) < 400) <| bd1 (mJ0_charAt_5068e bs v_7) fun r_22 => gd ((inI (S0 1 ((S0 12 8) + v_7))) ∧ (inI r_22)) <| if (S0 1 ((S0 12 8) + v_7)) = r_22 then (mX5_isWord_12_s_28 bs S0 f (v_7 + 1)) else (some (0)))
def mX5_isWord_12_s (bs : List Int32) (S0 : St)  : Option (Int) := gd (inI (S0 12 7)) <| if (S0 12 7) = 1 then (bd1 (mJ0_length_8abf5 bs) fun r_4 => gd ((inI ((S0 12 6) - (S0 12 8))) ∧ (inI r_4)) <| if ((S0 12 6) - (S0 12 8)) = r_4 then (bd1 (mX5_isWord_12_s_28 bs S0 FU 0) fun t_8 => if t_8 = 0 then (some (0)) else (some (1))) else (some (0))) else (some (0))
set_option maxHeartbeats 4000000 in
set_option maxRecDepth 100000 in
theorem vX5_isWord_12_s (l : Launch) {D : va_G} {cy : Nat → ClassId} {b n : Nat} (hn : 102 ≤ n) {X : Nat → va_E} {S0 : St} {si : Nat} {bs : List Int32} (hsi : isS si bs)  {o1 : Int} (hM : mX5_isWord_12_s bs S0  = some o1) : gI l yX5_isWord cX5_isWord 3 (some .boolean) 4 0 0 D cy b n (enc b cy X S0) [.ref (b + 12), .ref (cy (10 + si))] (fun r u => r = iI o1 ∧ u = (n, enc b cy X S0)) := by
  refine gI_of (by decide) (Nat.le_of_ble_eq_true rfl) ?_
  intro p e s m args below meth c S hr hlk hin hsz ls hl hG
  have hx := S.1
  have hb := S.2.1
  have hl : lv_has ls 3 [(0, .ref (b + 12)), (1, .ref (cy (10 + si)))] := hl
  replace hG : gW D cy b n s s.heap [] (enc b cy X S0) := hG
  obtain ⟨H, eH⟩ : ∃ H, H = s.heap := ⟨_, rfl⟩
  obtain ⟨locs, elocs⟩ : ∃ locs : List Loc, locs = [] := ⟨_, rfl⟩
  rw [← eH, ← elocs] at hG
  rw [← eH, ← elocs]
  clear eH elocs
  unfold mX5_isWord_12_s at hM
  refine lv_aload_n hx hb dX5_isWord_0 rfl (lv_at hl 0 rfl) ?_
  refine m_get S hG 12 12 7 rfl ec_12 cpX5 wm_362 dX5_isWord_1 rfl (Nat.lt_of_lt_of_le (Nat.le_of_ble_eq_true rfl) hn) (by decide) ?_
  refine lv_iconst (v := iI 1) hx hb dX5_isWord_4 (by decide) ?_
  obtain ⟨hg_1, hM⟩ := gd_some hM
  refine gi_icmp_ne (tgt := 24) hx hb dX5_isWord_5 (by decide) hg_1 (by decide) (fun c_2 => ?_) (fun c_2 => ?_)
  · replace hM := ifn hM c_2
    refine lv_iconst (v := iI 0) hx hb dX5_isWord_24 (by decide) ?_
    cases hM
    exact g_zret S hr hlk hG hsz dX5_isWord_25 ⟨Nat.le_of_ble_eq_true rfl, Nat.le_of_ble_eq_true rfl⟩ (nar_z (by decide)) ⟨rfl, rfl⟩
  · replace hM := ifp hM c_2
    refine lv_aload_n hx hb dX5_isWord_8 rfl (lv_at hl 0 rfl) ?_
    refine m_get S hG 12 12 6 rfl ec_12 cpX5 wm_361 dX5_isWord_9 rfl (Nat.lt_of_lt_of_le (Nat.le_of_ble_eq_true rfl) hn) (by decide) ?_
    refine lv_aload_n hx hb dX5_isWord_12 rfl (lv_at hl 0 rfl) ?_
    refine m_get S hG 12 12 8 rfl ec_12 cpX5 wm_363 dX5_isWord_13 rfl (Nat.lt_of_lt_of_le (Nat.le_of_ble_eq_true rfl) hn) (by decide) ?_
    refine gi_sub hx hb dX5_isWord_16 ?_
    refine lv_aload_n hx hb dX5_isWord_17 rfl (lv_at hl 1 rfl) ?_
    obtain ⟨r_4, hc_3, hM⟩ := bd1_some hM
    refine g_viS (As := []) (rest := [.int (iI ((S0 12 6) - (S0 12 8)))]) S hG hsz (vJ0_length_8abf5 l hn hsi   hc_3) wV_5_112 hsi rfl dX5_isWord_18 rfl hl.1 (ar := 0) (by decide +kernel) rfl ⟨Nat.le_of_ble_eq_true rfl, Nat.le_of_ble_eq_true rfl, Nat.le_of_ble_eq_true rfl, Nat.le_of_ble_eq_true rfl⟩ (Nat.le_of_ble_eq_true rfl) (fun rv uu H locs hp hG => ?_)
    obtain ⟨rfl, rfl⟩ := hp
    replace hG : gW D cy b n s H locs (enc b cy X S0) := hG
    obtain ⟨hg_5, hM⟩ := gd_some hM
    refine gi_icmp_eq (tgt := 26) hx hb dX5_isWord_21 (by decide) hg_5.1 hg_5.2 (fun c_6 => ?_) (fun c_6 => ?_)
    · replace hM := ifp hM c_6
      refine lv_iconst (v := iI 0) hx hb dX5_isWord_26 (by decide) ?_
      refine lv_istore_n (lv' := [(2, .int (iI 0)), (0, .ref (b + 12)), (1, .ref (cy (10 + si)))]) hx hb dX5_isWord_27 rfl hl (by decide) rfl (fun ls hl => ?_)
      obtain ⟨t_8, hc_9, hM⟩ := bd1_some hM
      have hK_10 : ∀ (H : Heap) (locs : List Loc) (ls : Array Slot), t_8 = 0 → gW D cy b n s H locs (enc b cy X S0) → lv_has ls 3 [] → W p l e (gRm 4 0 0) s m args below meth c H locs 0 0 (gQI D cy b s args below 0 0 (fun r u => r = iI o1 ∧ u = (n, enc b cy X S0))) (F0 m 55 ls []) := by
        intro H locs ls ht hG hl
        subst ht
        replace hM := ifp hM rfl
        refine lv_iconst (v := iI 0) hx hb dX5_isWord_55 (by decide) ?_
        cases hM
        exact g_zret S hr hlk hG hsz dX5_isWord_56 ⟨Nat.le_of_ble_eq_true rfl, Nat.le_of_ble_eq_true rfl⟩ (nar_z (by decide)) ⟨rfl, rfl⟩
      have hK_11 : ∀ (H : Heap) (locs : List Loc) (ls : Array Slot), t_8 = 1 → gW D cy b n s H locs (enc b cy X S0) → lv_has ls 3 [] → W p l e (gRm 4 0 0) s m args below meth c H locs 0 0 (gQI D cy b s args below 0 0 (fun r u => r = iI o1 ∧ u = (n, enc b cy X S0))) (F0 m 63 ls []) := by
        intro H locs ls ht hG hl
        subst ht
        replace hM := ifn hM (by decide)
        refine lv_iconst (v := iI 1) hx hb dX5_isWord_63 (by decide) ?_
        cases hM
        exact g_zret S hr hlk hG hsz dX5_isWord_64 ⟨Nat.le_of_ble_eq_true rfl, Nat.le_of_ble_eq_true rfl⟩ (nar_z (by decide)) ⟨rfl, rfl⟩
      have loop_12 : ∀ (f : Nat) (v_7 : Int) (H : Heap) (locs : List Loc) (ls : Array Slot), mX5_isWord_12_s_28 bs S0 f v_7 = some t_8 → gW D cy b n s H locs (enc b cy X S0) → lv_has ls 3 [(2, .int (iI v_7)), (0, .ref (b + 12)), (1, .ref (cy (10 + si)))] → W p l e (gRm 4 0 0) s m args below meth c H locs 0 0 (gQI D cy b s args below 0 0 (fun r u => r = iI o1 ∧ u = (n, enc b cy X S0))) (F0 m 28 ls []) := by
        clear hM
        intro f
        induction f with
        | zero => intro v_7 H locs ls hM; rw [mX5_isWord_12_s_28] at hM; cases hM
        | succ f_14 ih_13 =>
          intro v_7 H locs ls hM hG hl
          rw [mX5_isWord_12_s_28] at hM
          refine lv_iload_n hx hb dX5_isWord_28 rfl (lv_at hl 0 rfl) ?_
          refine lv_aload_n hx hb dX5_isWord_29 rfl (lv_at hl 2 rfl) ?_
          obtain ⟨r_16, hc_15, hM⟩ := bd1_some hM
          refine g_viS (As := []) (rest := [.int (iI v_7)]) S hG hsz (vJ0_length_8abf5 l hn hsi   hc_15) wV_5_112 hsi rfl dX5_isWord_30 rfl hl.1 (ar := 0) (by decide +kernel) rfl ⟨Nat.le_of_ble_eq_true rfl, Nat.le_of_ble_eq_true rfl, Nat.le_of_ble_eq_true rfl, Nat.le_of_ble_eq_true rfl⟩ (Nat.le_of_ble_eq_true rfl) (fun rv uu H locs hp hG => ?_)
          obtain ⟨rfl, rfl⟩ := hp
          replace hG : gW D cy b n s H locs (enc b cy X S0) := hG
          obtain ⟨hg_17, hM⟩ := gd_some hM
          refine gi_icmp_ge (tgt := 63) hx hb dX5_isWord_33 (by decide) hg_17.1 hg_17.2 (fun c_18 => ?_) (fun c_18 => ?_)
          · replace hM := ifp hM c_18
            cases hM
            exact hK_11 H locs ls rfl hG (lv_sub hl [] rfl)
          · replace hM := ifn hM c_18
            refine lv_aload_n hx hb dX5_isWord_36 rfl (lv_at hl 1 rfl) ?_
            obtain ⟨hg_19, hM⟩ := gd_some hM
            refine m_get (v := .ref (b + 1)) S hG 12 12 4 rfl ec_12 cpX5 wm_359 dX5_isWord_37 (dyn12 hg_19) (Nat.lt_of_lt_of_le (Nat.le_of_ble_eq_true rfl) hn) (by decide) ?_
            refine lv_aload_n hx hb dX5_isWord_40 rfl (lv_at hl 1 rfl) ?_
            refine m_get S hG 12 12 8 rfl ec_12 cpX5 wm_363 dX5_isWord_41 rfl (Nat.lt_of_lt_of_le (Nat.le_of_ble_eq_true rfl) hn) (by decide) ?_
            refine lv_iload_n hx hb dX5_isWord_44 rfl (lv_at hl 0 rfl) ?_
            refine gi_add hx hb dX5_isWord_45 ?_
            obtain ⟨hg_20, hM⟩ := gd_some hM
            refine mb_ald S hG 1 1 rfl ec_1 (Nat.lt_of_lt_of_le (Nat.le_of_ble_eq_true rfl) hn) dX5_isWord_46 hg_20 (by decide) ?_
            refine lv_aload_n hx hb dX5_isWord_47 rfl (lv_at hl 2 rfl) ?_
            refine lv_iload_n hx hb dX5_isWord_48 rfl (lv_at hl 0 rfl) ?_
            obtain ⟨r_22, hc_21, hM⟩ := bd1_some hM
            refine g_viS (As := [.int (iI v_7)]) (rest := [.int (iI (S0 1 ((S0 12 8) + v_7)))]) S hG hsz (vJ0_charAt_5068e l hn hsi  v_7 hc_21) wV_5_117 hsi rfl dX5_isWord_49 rfl hl.1 (ar := 1) (by decide +kernel) rfl ⟨Nat.le_of_ble_eq_true rfl, Nat.le_of_ble_eq_true rfl, Nat.le_of_ble_eq_true rfl, Nat.le_of_ble_eq_true rfl⟩ (Nat.le_of_ble_eq_true rfl) (fun rv uu H locs hp hG => ?_)
            obtain ⟨rfl, rfl⟩ := hp
            replace hG : gW D cy b n s H locs (enc b cy X S0) := hG
            obtain ⟨hg_23, hM⟩ := gd_some hM
            refine gi_icmp_eq (tgt := 57) hx hb dX5_isWord_52 (by decide) hg_23.1 hg_23.2 (fun c_24 => ?_) (fun c_24 => ?_)
            · replace hM := ifp hM c_24
              refine lv_iinc (v := iI (v_7 + 1)) (lv' := [(2, .int (iI (v_7 + 1))), (0, .ref (b + 12)), (1, .ref (cy (10 + si)))]) hx hb dX5_isWord_57 hl (k := 0) rfl ((iI_add v_7 (1)).trans (congrArg iI (by omega))) (by decide) rfl (fun ls hl => ?_)
              refine lv_goto (tgt := 28) hx hb dX5_isWord_60 (by decide) ?_
              exact ih_13 (v_7 + 1) H locs ls hM hG (lv_sub hl [0, 1, 2] rfl)
            · replace hM := ifn hM c_24
              cases hM
              exact hK_10 H locs ls rfl hG (lv_sub hl [] rfl)
      exact loop_12 FU 0 H locs ls hc_9 hG (lv_sub hl [0, 1, 2] rfl)
    · replace hM := ifn hM c_6
      refine lv_iconst (v := iI 0) hx hb dX5_isWord_24 (by decide) ?_
      cases hM
      exact g_zret S hr hlk hG hsz dX5_isWord_25 ⟨Nat.le_of_ble_eq_true rfl, Nat.le_of_ble_eq_true rfl⟩ (nar_z (by decide)) ⟨rfl, rfl⟩
def mX5_expectWord_12_s (bs : List Int32) (S0 : St)  : Option (St) := gd (inI (S0 12 1)) <| if (S0 12 1) = 0 then (bd1 (mX5_isWord_12_s bs S0) fun r_6 => gd (inI r_6) <| if r_6 = 0 then (bd1 (mX5_refuse S0 1) fun S_10 => some (S_10)) else (bd1 (mX5_advance S0) fun S_12 => some (S_12))) else (bd1 (mX5_refuse S0 1) fun S_4 => some (S_4))
set_option maxHeartbeats 4000000 in
set_option maxRecDepth 100000 in
theorem vX5_expectWord_12_s (l : Launch) {D : va_G} {cy : Nat → ClassId} {b n : Nat} (hn : 102 ≤ n) {X : Nat → va_E} {S0 : St} {si : Nat} {bs : List Int32} (hsi : isS si bs)  {o1 : St} (hM : mX5_expectWord_12_s bs S0  = some o1) : gV l yX5_expectWord cX5_expectWord 2 5 0 0 D cy b n (enc b cy X S0) [.ref (b + 12), .ref (cy (10 + si))] (fun u => u = (n, enc b cy X o1)) := by
  refine gV_of (by decide) (Nat.le_of_ble_eq_true rfl) ?_
  intro p e s m args below meth c S hr hlk hin hsz ls hl hG
  have hx := S.1
  have hb := S.2.1
  have hl : lv_has ls 2 [(0, .ref (b + 12)), (1, .ref (cy (10 + si)))] := hl
  replace hG : gW D cy b n s s.heap [] (enc b cy X S0) := hG
  obtain ⟨H, eH⟩ : ∃ H, H = s.heap := ⟨_, rfl⟩
  obtain ⟨locs, elocs⟩ : ∃ locs : List Loc, locs = [] := ⟨_, rfl⟩
  rw [← eH, ← elocs] at hG
  rw [← eH, ← elocs]
  clear eH elocs
  unfold mX5_expectWord_12_s at hM
  refine lv_aload_n hx hb dX5_expectWord_0 rfl (lv_at hl 0 rfl) ?_
  refine m_get S hG 12 12 1 rfl ec_12 cpX5 wm_354 dX5_expectWord_1 rfl (Nat.lt_of_lt_of_le (Nat.le_of_ble_eq_true rfl) hn) (by decide) ?_
  obtain ⟨hg_1, hM⟩ := gd_some hM
  refine gi_if_ne (tgt := 22) hx hb dX5_expectWord_4 (by decide) hg_1 (fun c_2 => ?_) (fun c_2 => ?_)
  · replace hM := ifn hM c_2
    refine lv_aload_n hx hb dX5_expectWord_22 rfl (lv_at hl 0 rfl) ?_
    refine lv_iconst (v := iI 1) hx hb dX5_expectWord_23 (by decide) ?_
    obtain ⟨S_4, hc_3, hM⟩ := bd1_some hM
    refine g_vv (As := [.int (iI 1)]) (rest := []) S hG hsz (vX5_refuse l hn 1 hc_3) wV_5_149 (ec_12 _) cpX5 (Nat.lt_of_lt_of_le (Nat.le_of_ble_eq_true rfl) hn) dX5_expectWord_24 rfl hl.1 (ar := 1) (by decide +kernel) rfl ⟨Nat.le_of_ble_eq_true rfl, Nat.le_of_ble_eq_true rfl, Nat.le_of_ble_eq_true rfl, Nat.le_of_ble_eq_true rfl⟩ (Nat.le_of_ble_eq_true rfl) (fun uu H locs hp hG => ?_)
    obtain rfl := hp
    replace hG : gW D cy b n s H locs (enc b cy X S_4) := hG
    cases hM
    exact g_vret S hr hlk hG hsz dX5_expectWord_27 ⟨Nat.le_of_ble_eq_true rfl, Nat.le_of_ble_eq_true rfl⟩ rfl
  · replace hM := ifp hM c_2
    refine lv_aload_n hx hb dX5_expectWord_7 rfl (lv_at hl 0 rfl) ?_
    refine lv_aload_n hx hb dX5_expectWord_8 rfl (lv_at hl 1 rfl) ?_
    obtain ⟨r_6, hc_5, hM⟩ := bd1_some hM
    refine g_vi (As := [.ref (cy (10 + si))]) (rest := []) S hG hsz (vX5_isWord_12_s l hn hsi   hc_5) wV_5_123 (ec_12 _) cpX5 (Nat.lt_of_lt_of_le (Nat.le_of_ble_eq_true rfl) hn) dX5_expectWord_9 rfl hl.1 (ar := 1) (by decide +kernel) rfl ⟨Nat.le_of_ble_eq_true rfl, Nat.le_of_ble_eq_true rfl, Nat.le_of_ble_eq_true rfl, Nat.le_of_ble_eq_true rfl⟩ (Nat.le_of_ble_eq_true rfl) (fun rv uu H locs hp hG => ?_)
    obtain ⟨rfl, rfl⟩ := hp
    replace hG : gW D cy b n s H locs (enc b cy X S0) := hG
    obtain ⟨hg_7, hM⟩ := gd_some hM
    refine gi_if_eq (tgt := 22) hx hb dX5_expectWord_12 (by decide) hg_7 (fun c_8 => ?_) (fun c_8 => ?_)
    · replace hM := ifp hM c_8
      refine lv_aload_n hx hb dX5_expectWord_22 rfl (lv_at hl 0 rfl) ?_
      refine lv_iconst (v := iI 1) hx hb dX5_expectWord_23 (by decide) ?_
      obtain ⟨S_10, hc_9, hM⟩ := bd1_some hM
      refine g_vv (As := [.int (iI 1)]) (rest := []) S hG hsz (vX5_refuse l hn 1 hc_9) wV_5_149 (ec_12 _) cpX5 (Nat.lt_of_lt_of_le (Nat.le_of_ble_eq_true rfl) hn) dX5_expectWord_24 rfl hl.1 (ar := 1) (by decide +kernel) rfl ⟨Nat.le_of_ble_eq_true rfl, Nat.le_of_ble_eq_true rfl, Nat.le_of_ble_eq_true rfl, Nat.le_of_ble_eq_true rfl⟩ (Nat.le_of_ble_eq_true rfl) (fun uu H locs hp hG => ?_)
      obtain rfl := hp
      replace hG : gW D cy b n s H locs (enc b cy X S_10) := hG
      cases hM
      exact g_vret S hr hlk hG hsz dX5_expectWord_27 ⟨Nat.le_of_ble_eq_true rfl, Nat.le_of_ble_eq_true rfl⟩ rfl
    · replace hM := ifn hM c_8
      refine lv_aload_n hx hb dX5_expectWord_15 rfl (lv_at hl 0 rfl) ?_
      obtain ⟨S_12, hc_11, hM⟩ := bd1_some hM
      refine g_vv (As := []) (rest := []) S hG hsz (vX5_advance l hn  hc_11) wV_5_65 (ec_12 _) cpX5 (Nat.lt_of_lt_of_le (Nat.le_of_ble_eq_true rfl) hn) dX5_expectWord_16 rfl hl.1 (ar := 0) (by decide +kernel) rfl ⟨Nat.le_of_ble_eq_true rfl, Nat.le_of_ble_eq_true rfl, Nat.le_of_ble_eq_true rfl, Nat.le_of_ble_eq_true rfl⟩ (Nat.le_of_ble_eq_true rfl) (fun uu H locs hp hG => ?_)
      obtain rfl := hp
      replace hG : gW D cy b n s H locs (enc b cy X S_12) := hG
      refine lv_goto (tgt := 27) hx hb dX5_expectWord_19 (by decide) ?_
      cases hM
      exact g_vret S hr hlk hG hsz dX5_expectWord_27 ⟨Nat.le_of_ble_eq_true rfl, Nat.le_of_ble_eq_true rfl⟩ rfl
theorem wV_5_159 : gWV "GrownKinds$Reader" 159 yX5_readName cX5_readName 1 none := ⟨wm_829, wm_831, wm_6, wm_179, wm_832, by decide +kernel, by decide +kernel⟩
theorem wV_5_165 : gWV "GrownKinds$Reader" 165 yX5_partBegun cX5_partBegun 2 (some .int) := ⟨wm_833, wm_835, wm_7, wm_179, wm_836, by decide +kernel, by decide +kernel⟩
def mX5_partBegun (S0 : St)  : Option (Int) := gd (inI (S0 12 7)) <| if (S0 12 7) = 40 then (some (7)) else (if (S0 12 7) = 1 then (bd1 (mX5_isWord_12_s tx2 S0) fun r_5 => gd (inI r_5) <| if r_5 = 0 then (bd1 (mX5_isWord_12_s tx3 S0) fun r_9 => gd (inI r_9) <| if r_9 = 0 then (bd1 (mX5_isWord_12_s tx4 S0) fun r_13 => gd (inI r_13) <| if r_13 = 0 then (bd1 (mX5_isWord_12_s tx5 S0) fun r_17 => gd (inI r_17) <| if r_17 = 0 then (bd1 (mX5_isWord_12_s tx6 S0) fun r_21 => gd (inI r_21) <| if r_21 = 0 then (bd1 (mX5_isWord_12_s tx7 S0) fun r_25 => gd (inI r_25) <| if r_25 = 0 then (bd1 (mX5_isWord_12_s tx0 S0) fun r_29 => bd1 (gd (inI r_29) <| if r_29 = 0 then (bd1 (mX5_isWord_12_s tx1 S0) fun r_38 => gd (inI r_38) <| if r_38 = 0 then (bd1 (mX5_isWord_12_s tx8 S0) fun r_42 => gd (inI r_42) <| if r_42 = 0 then (bd1 (mX5_isWord_12_s tx9 S0) fun r_46 => gd (inI r_46) <| if r_46 = 0 then (some (0)) else (some (1))) else (some (1))) else (some (1))) else (some (1))) fun z_30 => gd (inI z_30) <| if z_30 = 0 then (some (2)) else (some (8))) else (some (6))) else (some (5))) else (some (4))) else (some (3))) else (some (1))) else (some (0))) else (some ((-1))))
set_option maxHeartbeats 4000000 in
set_option maxRecDepth 100000 in
theorem vX5_partBegun (l : Launch) {D : va_G} {cy : Nat → ClassId} {b n : Nat} (hn : 102 ≤ n) {X : Nat → va_E} {S0 : St}  {o1 : Int} (hM : mX5_partBegun S0  = some o1) : gI l yX5_partBegun cX5_partBegun 2 (some .int) 5 0 0 D cy b n (enc b cy X S0) [.ref (b + 12)] (fun r u => r = iI o1 ∧ u = (n, enc b cy X S0)) := by
  refine gI_of (by decide) (Nat.le_of_ble_eq_true rfl) ?_
  intro p e s m args below meth c S hr hlk hin hsz ls hl hG
  have hx := S.1
  have hb := S.2.1
  have hl : lv_has ls 2 [(0, .ref (b + 12))] := hl
  replace hG : gW D cy b n s s.heap [] (enc b cy X S0) := hG
  obtain ⟨H, eH⟩ : ∃ H, H = s.heap := ⟨_, rfl⟩
  obtain ⟨locs, elocs⟩ : ∃ locs : List Loc, locs = [] := ⟨_, rfl⟩
  rw [← eH, ← elocs] at hG
  rw [← eH, ← elocs]
  clear eH elocs
  unfold mX5_partBegun at hM
  refine lv_aload_n hx hb dX5_partBegun_0 rfl (lv_at hl 0 rfl) ?_
  refine m_get S hG 12 12 7 rfl ec_12 cpX5 wm_362 dX5_partBegun_1 rfl (Nat.lt_of_lt_of_le (Nat.le_of_ble_eq_true rfl) hn) (by decide) ?_
  refine lv_bipush (v := iI 40) hx hb dX5_partBegun_4 (by decide) ?_
  obtain ⟨hg_1, hM⟩ := gd_some hM
  refine gi_icmp_ne (tgt := 12) hx hb dX5_partBegun_6 (by decide) hg_1 (by decide) (fun c_2 => ?_) (fun c_2 => ?_)
  · replace hM := ifn hM c_2
    refine lv_aload_n hx hb dX5_partBegun_12 rfl (lv_at hl 0 rfl) ?_
    refine m_get S hG 12 12 7 rfl ec_12 cpX5 wm_362 dX5_partBegun_13 rfl (Nat.lt_of_lt_of_le (Nat.le_of_ble_eq_true rfl) hn) (by decide) ?_
    refine lv_iconst (v := iI 1) hx hb dX5_partBegun_16 (by decide) ?_
    refine gi_icmp_eq (tgt := 22) hx hb dX5_partBegun_17 (by decide) hg_1 (by decide) (fun c_3 => ?_) (fun c_3 => ?_)
    · replace hM := ifp hM c_3
      refine lv_aload_n hx hb dX5_partBegun_22 rfl (lv_at hl 0 rfl) ?_
      refine va_ldcS (own := "GrownKinds$Reader") (index := 121) (tx := "atom") hx hb S.2.2.2.1 (hG.1.2.1.2.1 2 _ rfl).1 dX5_partBegun_23 ?_
      obtain ⟨r_5, hc_4, hM⟩ := bd1_some hM
      refine g_vi (As := [.ref (cy (10 + 2))]) (rest := []) S hG hsz (vX5_isWord_12_s l hn hs2   hc_4) wV_5_123 (ec_12 _) cpX5 (Nat.lt_of_lt_of_le (Nat.le_of_ble_eq_true rfl) hn) dX5_partBegun_25 rfl hl.1 (ar := 1) (by decide +kernel) rfl ⟨Nat.le_of_ble_eq_true rfl, Nat.le_of_ble_eq_true rfl, Nat.le_of_ble_eq_true rfl, Nat.le_of_ble_eq_true rfl⟩ (Nat.le_of_ble_eq_true rfl) (fun rv uu H locs hp hG => ?_)
      obtain ⟨rfl, rfl⟩ := hp
      replace hG : gW D cy b n s H locs (enc b cy X S0) := hG
      obtain ⟨hg_6, hM⟩ := gd_some hM
      refine gi_if_eq (tgt := 33) hx hb dX5_partBegun_28 (by decide) hg_6 (fun c_7 => ?_) (fun c_7 => ?_)
      · replace hM := ifp hM c_7
        refine lv_aload_n hx hb dX5_partBegun_33 rfl (lv_at hl 0 rfl) ?_
        refine va_ldcS (own := "GrownKinds$Reader") (index := 127) (tx := "unit") hx hb S.2.2.2.1 (hG.1.2.1.2.1 3 _ rfl).1 dX5_partBegun_34 ?_
        obtain ⟨r_9, hc_8, hM⟩ := bd1_some hM
        refine g_vi (As := [.ref (cy (10 + 3))]) (rest := []) S hG hsz (vX5_isWord_12_s l hn hs3   hc_8) wV_5_123 (ec_12 _) cpX5 (Nat.lt_of_lt_of_le (Nat.le_of_ble_eq_true rfl) hn) dX5_partBegun_36 rfl hl.1 (ar := 1) (by decide +kernel) rfl ⟨Nat.le_of_ble_eq_true rfl, Nat.le_of_ble_eq_true rfl, Nat.le_of_ble_eq_true rfl, Nat.le_of_ble_eq_true rfl⟩ (Nat.le_of_ble_eq_true rfl) (fun rv uu H locs hp hG => ?_)
        obtain ⟨rfl, rfl⟩ := hp
        replace hG : gW D cy b n s H locs (enc b cy X S0) := hG
        obtain ⟨hg_10, hM⟩ := gd_some hM
        refine gi_if_eq (tgt := 44) hx hb dX5_partBegun_39 (by decide) hg_10 (fun c_11 => ?_) (fun c_11 => ?_)
        · replace hM := ifp hM c_11
          refine lv_aload_n hx hb dX5_partBegun_44 rfl (lv_at hl 0 rfl) ?_
          refine va_ldcS (own := "GrownKinds$Reader") (index := 129) (tx := "row") hx hb S.2.2.2.1 (hG.1.2.1.2.1 4 _ rfl).1 dX5_partBegun_45 ?_
          obtain ⟨r_13, hc_12, hM⟩ := bd1_some hM
          refine g_vi (As := [.ref (cy (10 + 4))]) (rest := []) S hG hsz (vX5_isWord_12_s l hn hs4   hc_12) wV_5_123 (ec_12 _) cpX5 (Nat.lt_of_lt_of_le (Nat.le_of_ble_eq_true rfl) hn) dX5_partBegun_47 rfl hl.1 (ar := 1) (by decide +kernel) rfl ⟨Nat.le_of_ble_eq_true rfl, Nat.le_of_ble_eq_true rfl, Nat.le_of_ble_eq_true rfl, Nat.le_of_ble_eq_true rfl⟩ (Nat.le_of_ble_eq_true rfl) (fun rv uu H locs hp hG => ?_)
          obtain ⟨rfl, rfl⟩ := hp
          replace hG : gW D cy b n s H locs (enc b cy X S0) := hG
          obtain ⟨hg_14, hM⟩ := gd_some hM
          refine gi_if_eq (tgt := 55) hx hb dX5_partBegun_50 (by decide) hg_14 (fun c_15 => ?_) (fun c_15 => ?_)
          · replace hM := ifp hM c_15
            refine lv_aload_n hx hb dX5_partBegun_55 rfl (lv_at hl 0 rfl) ?_
            refine va_ldcS (own := "GrownKinds$Reader") (index := 131) (tx := "bag") hx hb S.2.2.2.1 (hG.1.2.1.2.1 5 _ rfl).1 dX5_partBegun_56 ?_
            obtain ⟨r_17, hc_16, hM⟩ := bd1_some hM
            refine g_vi (As := [.ref (cy (10 + 5))]) (rest := []) S hG hsz (vX5_isWord_12_s l hn hs5   hc_16) wV_5_123 (ec_12 _) cpX5 (Nat.lt_of_lt_of_le (Nat.le_of_ble_eq_true rfl) hn) dX5_partBegun_58 rfl hl.1 (ar := 1) (by decide +kernel) rfl ⟨Nat.le_of_ble_eq_true rfl, Nat.le_of_ble_eq_true rfl, Nat.le_of_ble_eq_true rfl, Nat.le_of_ble_eq_true rfl⟩ (Nat.le_of_ble_eq_true rfl) (fun rv uu H locs hp hG => ?_)
            obtain ⟨rfl, rfl⟩ := hp
            replace hG : gW D cy b n s H locs (enc b cy X S0) := hG
            obtain ⟨hg_18, hM⟩ := gd_some hM
            refine gi_if_eq (tgt := 66) hx hb dX5_partBegun_61 (by decide) hg_18 (fun c_19 => ?_) (fun c_19 => ?_)
            · replace hM := ifp hM c_19
              refine lv_aload_n hx hb dX5_partBegun_66 rfl (lv_at hl 0 rfl) ?_
              refine va_ldcS (own := "GrownKinds$Reader") (index := 133) (tx := "set") hx hb S.2.2.2.1 (hG.1.2.1.2.1 6 _ rfl).1 dX5_partBegun_67 ?_
              obtain ⟨r_21, hc_20, hM⟩ := bd1_some hM
              refine g_vi (As := [.ref (cy (10 + 6))]) (rest := []) S hG hsz (vX5_isWord_12_s l hn hs6   hc_20) wV_5_123 (ec_12 _) cpX5 (Nat.lt_of_lt_of_le (Nat.le_of_ble_eq_true rfl) hn) dX5_partBegun_69 rfl hl.1 (ar := 1) (by decide +kernel) rfl ⟨Nat.le_of_ble_eq_true rfl, Nat.le_of_ble_eq_true rfl, Nat.le_of_ble_eq_true rfl, Nat.le_of_ble_eq_true rfl⟩ (Nat.le_of_ble_eq_true rfl) (fun rv uu H locs hp hG => ?_)
              obtain ⟨rfl, rfl⟩ := hp
              replace hG : gW D cy b n s H locs (enc b cy X S0) := hG
              obtain ⟨hg_22, hM⟩ := gd_some hM
              refine gi_if_eq (tgt := 77) hx hb dX5_partBegun_72 (by decide) hg_22 (fun c_23 => ?_) (fun c_23 => ?_)
              · replace hM := ifp hM c_23
                refine lv_aload_n hx hb dX5_partBegun_77 rfl (lv_at hl 0 rfl) ?_
                refine va_ldcS (own := "GrownKinds$Reader") (index := 135) (tx := "ring") hx hb S.2.2.2.1 (hG.1.2.1.2.1 7 _ rfl).1 dX5_partBegun_78 ?_
                obtain ⟨r_25, hc_24, hM⟩ := bd1_some hM
                refine g_vi (As := [.ref (cy (10 + 7))]) (rest := []) S hG hsz (vX5_isWord_12_s l hn hs7   hc_24) wV_5_123 (ec_12 _) cpX5 (Nat.lt_of_lt_of_le (Nat.le_of_ble_eq_true rfl) hn) dX5_partBegun_80 rfl hl.1 (ar := 1) (by decide +kernel) rfl ⟨Nat.le_of_ble_eq_true rfl, Nat.le_of_ble_eq_true rfl, Nat.le_of_ble_eq_true rfl, Nat.le_of_ble_eq_true rfl⟩ (Nat.le_of_ble_eq_true rfl) (fun rv uu H locs hp hG => ?_)
                obtain ⟨rfl, rfl⟩ := hp
                replace hG : gW D cy b n s H locs (enc b cy X S0) := hG
                obtain ⟨hg_26, hM⟩ := gd_some hM
                refine gi_if_eq (tgt := 89) hx hb dX5_partBegun_83 (by decide) hg_26 (fun c_27 => ?_) (fun c_27 => ?_)
                · replace hM := ifp hM c_27
                  refine lv_aload_n hx hb dX5_partBegun_89 rfl (lv_at hl 0 rfl) ?_
                  refine va_ldcS (own := "GrownKinds$Reader") (index := 137) (tx := "grammar") hx hb S.2.2.2.1 (hG.1.2.1.2.1 0 _ rfl).1 dX5_partBegun_90 ?_
                  obtain ⟨r_29, hc_28, hM⟩ := bd1_some hM
                  refine g_vi (As := [.ref (cy (10 + 0))]) (rest := []) S hG hsz (vX5_isWord_12_s l hn hs0   hc_28) wV_5_123 (ec_12 _) cpX5 (Nat.lt_of_lt_of_le (Nat.le_of_ble_eq_true rfl) hn) dX5_partBegun_92 rfl hl.1 (ar := 1) (by decide +kernel) rfl ⟨Nat.le_of_ble_eq_true rfl, Nat.le_of_ble_eq_true rfl, Nat.le_of_ble_eq_true rfl, Nat.le_of_ble_eq_true rfl⟩ (Nat.le_of_ble_eq_true rfl) (fun rv uu H locs hp hG => ?_)
                  obtain ⟨rfl, rfl⟩ := hp
                  replace hG : gW D cy b n s H locs (enc b cy X S0) := hG
                  obtain ⟨z_30, hc_31, hM⟩ := bd1_some hM
                  have hK_32 : ∀ (H : Heap) (locs : List Loc) (ls : Array Slot), gW D cy b n s H locs (enc b cy X S0) → lv_has ls 2 [] → W p l e (gRm 5 0 0) s m args below meth c H locs 0 0 (gQI D cy b s args below 0 0 (fun r u => r = iI o1 ∧ u = (n, enc b cy X S0))) (F0 m 130 ls [.int (iI z_30)]) := by
                    intro H locs ls hG hl
                    refine lv_istore_n (lv' := [(1, .int (iI z_30))]) hx hb dX5_partBegun_130 rfl hl (by decide) rfl (fun ls hl => ?_)
                    refine lv_iload_n hx hb dX5_partBegun_131 rfl (lv_at hl 0 rfl) ?_
                    obtain ⟨hg_33, hM⟩ := gd_some hM
                    refine gi_if_eq (tgt := 140) hx hb dX5_partBegun_132 (by decide) hg_33 (fun c_34 => ?_) (fun c_34 => ?_)
                    · replace hM := ifp hM c_34
                      refine lv_iconst (v := iI 2) hx hb dX5_partBegun_140 (by decide) ?_
                      cases hM
                      exact g_iret S hr hlk hG hsz dX5_partBegun_141 ⟨Nat.le_of_ble_eq_true rfl, Nat.le_of_ble_eq_true rfl⟩ ⟨rfl, rfl⟩
                    · replace hM := ifn hM c_34
                      refine lv_bipush (v := iI 8) hx hb dX5_partBegun_135 (by decide) ?_
                      refine lv_goto (tgt := 141) hx hb dX5_partBegun_137 (by decide) ?_
                      cases hM
                      exact g_iret S hr hlk hG hsz dX5_partBegun_141 ⟨Nat.le_of_ble_eq_true rfl, Nat.le_of_ble_eq_true rfl⟩ ⟨rfl, rfl⟩
                  clear hM
                  replace hM := hc_31
                  obtain ⟨hg_35, hM⟩ := gd_some hM
                  refine gi_if_ne (tgt := 125) hx hb dX5_partBegun_95 (by decide) hg_35 (fun c_36 => ?_) (fun c_36 => ?_)
                  · replace hM := ifn hM c_36
                    refine lv_iconst (v := iI 1) hx hb dX5_partBegun_125 (by decide) ?_
                    refine lv_goto (tgt := 130) hx hb dX5_partBegun_126 (by decide) ?_
                    cases hM
                    exact hK_32 H locs ls hG (lv_sub hl [] rfl)
                  · replace hM := ifp hM c_36
                    refine lv_aload_n hx hb dX5_partBegun_98 rfl (lv_at hl 0 rfl) ?_
                    refine va_ldcS (own := "GrownKinds$Reader") (index := 139) (tx := "most") hx hb S.2.2.2.1 (hG.1.2.1.2.1 1 _ rfl).1 dX5_partBegun_99 ?_
                    obtain ⟨r_38, hc_37, hM⟩ := bd1_some hM
                    refine g_vi (As := [.ref (cy (10 + 1))]) (rest := []) S hG hsz (vX5_isWord_12_s l hn hs1   hc_37) wV_5_123 (ec_12 _) cpX5 (Nat.lt_of_lt_of_le (Nat.le_of_ble_eq_true rfl) hn) dX5_partBegun_101 rfl hl.1 (ar := 1) (by decide +kernel) rfl ⟨Nat.le_of_ble_eq_true rfl, Nat.le_of_ble_eq_true rfl, Nat.le_of_ble_eq_true rfl, Nat.le_of_ble_eq_true rfl⟩ (Nat.le_of_ble_eq_true rfl) (fun rv uu H locs hp hG => ?_)
                    obtain ⟨rfl, rfl⟩ := hp
                    replace hG : gW D cy b n s H locs (enc b cy X S0) := hG
                    obtain ⟨hg_39, hM⟩ := gd_some hM
                    refine gi_if_ne (tgt := 125) hx hb dX5_partBegun_104 (by decide) hg_39 (fun c_40 => ?_) (fun c_40 => ?_)
                    · replace hM := ifn hM c_40
                      refine lv_iconst (v := iI 1) hx hb dX5_partBegun_125 (by decide) ?_
                      refine lv_goto (tgt := 130) hx hb dX5_partBegun_126 (by decide) ?_
                      cases hM
                      exact hK_32 H locs ls hG (lv_sub hl [] rfl)
                    · replace hM := ifp hM c_40
                      refine lv_aload_n hx hb dX5_partBegun_107 rfl (lv_at hl 0 rfl) ?_
                      refine va_ldcS (own := "GrownKinds$Reader") (index := 141) (tx := "or") hx hb S.2.2.2.1 (hG.1.2.1.2.1 8 _ rfl).1 dX5_partBegun_108 ?_
                      obtain ⟨r_42, hc_41, hM⟩ := bd1_some hM
                      refine g_vi (As := [.ref (cy (10 + 8))]) (rest := []) S hG hsz (vX5_isWord_12_s l hn hs8   hc_41) wV_5_123 (ec_12 _) cpX5 (Nat.lt_of_lt_of_le (Nat.le_of_ble_eq_true rfl) hn) dX5_partBegun_110 rfl hl.1 (ar := 1) (by decide +kernel) rfl ⟨Nat.le_of_ble_eq_true rfl, Nat.le_of_ble_eq_true rfl, Nat.le_of_ble_eq_true rfl, Nat.le_of_ble_eq_true rfl⟩ (Nat.le_of_ble_eq_true rfl) (fun rv uu H locs hp hG => ?_)
                      obtain ⟨rfl, rfl⟩ := hp
                      replace hG : gW D cy b n s H locs (enc b cy X S0) := hG
                      obtain ⟨hg_43, hM⟩ := gd_some hM
                      refine gi_if_ne (tgt := 125) hx hb dX5_partBegun_113 (by decide) hg_43 (fun c_44 => ?_) (fun c_44 => ?_)
                      · replace hM := ifn hM c_44
                        refine lv_iconst (v := iI 1) hx hb dX5_partBegun_125 (by decide) ?_
                        refine lv_goto (tgt := 130) hx hb dX5_partBegun_126 (by decide) ?_
                        cases hM
                        exact hK_32 H locs ls hG (lv_sub hl [] rfl)
                      · replace hM := ifp hM c_44
                        refine lv_aload_n hx hb dX5_partBegun_116 rfl (lv_at hl 0 rfl) ?_
                        refine va_ldcS (own := "GrownKinds$Reader") (index := 143) (tx := "with") hx hb S.2.2.2.1 (hG.1.2.1.2.1 9 _ rfl).1 dX5_partBegun_117 ?_
                        obtain ⟨r_46, hc_45, hM⟩ := bd1_some hM
                        refine g_vi (As := [.ref (cy (10 + 9))]) (rest := []) S hG hsz (vX5_isWord_12_s l hn hs9   hc_45) wV_5_123 (ec_12 _) cpX5 (Nat.lt_of_lt_of_le (Nat.le_of_ble_eq_true rfl) hn) dX5_partBegun_119 rfl hl.1 (ar := 1) (by decide +kernel) rfl ⟨Nat.le_of_ble_eq_true rfl, Nat.le_of_ble_eq_true rfl, Nat.le_of_ble_eq_true rfl, Nat.le_of_ble_eq_true rfl⟩ (Nat.le_of_ble_eq_true rfl) (fun rv uu H locs hp hG => ?_)
                        obtain ⟨rfl, rfl⟩ := hp
                        replace hG : gW D cy b n s H locs (enc b cy X S0) := hG
                        obtain ⟨hg_47, hM⟩ := gd_some hM
                        refine gi_if_eq (tgt := 129) hx hb dX5_partBegun_122 (by decide) hg_47 (fun c_48 => ?_) (fun c_48 => ?_)
                        · replace hM := ifp hM c_48
                          refine lv_iconst (v := iI 0) hx hb dX5_partBegun_129 (by decide) ?_
                          cases hM
                          exact hK_32 H locs ls hG (lv_sub hl [] rfl)
                        · replace hM := ifn hM c_48
                          refine lv_iconst (v := iI 1) hx hb dX5_partBegun_125 (by decide) ?_
                          refine lv_goto (tgt := 130) hx hb dX5_partBegun_126 (by decide) ?_
                          cases hM
                          exact hK_32 H locs ls hG (lv_sub hl [] rfl)
                · replace hM := ifn hM c_27
                  refine lv_bipush (v := iI 6) hx hb dX5_partBegun_86 (by decide) ?_
                  cases hM
                  exact g_iret S hr hlk hG hsz dX5_partBegun_88 ⟨Nat.le_of_ble_eq_true rfl, Nat.le_of_ble_eq_true rfl⟩ ⟨rfl, rfl⟩
              · replace hM := ifn hM c_23
                refine lv_iconst (v := iI 5) hx hb dX5_partBegun_75 (by decide) ?_
                cases hM
                exact g_iret S hr hlk hG hsz dX5_partBegun_76 ⟨Nat.le_of_ble_eq_true rfl, Nat.le_of_ble_eq_true rfl⟩ ⟨rfl, rfl⟩
            · replace hM := ifn hM c_19
              refine lv_iconst (v := iI 4) hx hb dX5_partBegun_64 (by decide) ?_
              cases hM
              exact g_iret S hr hlk hG hsz dX5_partBegun_65 ⟨Nat.le_of_ble_eq_true rfl, Nat.le_of_ble_eq_true rfl⟩ ⟨rfl, rfl⟩
          · replace hM := ifn hM c_15
            refine lv_iconst (v := iI 3) hx hb dX5_partBegun_53 (by decide) ?_
            cases hM
            exact g_iret S hr hlk hG hsz dX5_partBegun_54 ⟨Nat.le_of_ble_eq_true rfl, Nat.le_of_ble_eq_true rfl⟩ ⟨rfl, rfl⟩
        · replace hM := ifn hM c_11
          refine lv_iconst (v := iI 1) hx hb dX5_partBegun_42 (by decide) ?_
          cases hM
          exact g_iret S hr hlk hG hsz dX5_partBegun_43 ⟨Nat.le_of_ble_eq_true rfl, Nat.le_of_ble_eq_true rfl⟩ ⟨rfl, rfl⟩
      · replace hM := ifn hM c_7
        refine lv_iconst (v := iI 0) hx hb dX5_partBegun_31 (by decide) ?_
        cases hM
        exact g_iret S hr hlk hG hsz dX5_partBegun_32 ⟨Nat.le_of_ble_eq_true rfl, Nat.le_of_ble_eq_true rfl⟩ ⟨rfl, rfl⟩
    · replace hM := ifn hM c_3
      refine lv_iconst (v := iI (-1)) hx hb dX5_partBegun_20 (by decide) ?_
      cases hM
      exact g_iret S hr hlk hG hsz dX5_partBegun_21 ⟨Nat.le_of_ble_eq_true rfl, Nat.le_of_ble_eq_true rfl⟩ ⟨rfl, rfl⟩
  · replace hM := ifp hM c_2
    refine lv_bipush (v := iI 7) hx hb dX5_partBegun_9 (by decide) ?_
    cases hM
    exact g_iret S hr hlk hG hsz dX5_partBegun_11 ⟨Nat.le_of_ble_eq_true rfl, Nat.le_of_ble_eq_true rfl⟩ ⟨rfl, rfl⟩
theorem wV_5_168 : gWV "GrownKinds$Reader" 168 yX5_kindNamed cX5_kindNamed 2 (some .int) := ⟨wm_845, wm_847, wm_8, wm_179, wm_848, by decide +kernel, by decide +kernel⟩
theorem wV_5_145 : gWV "GrownKinds$Reader" 145 yX5_sameBytes cX5_sameBytes 5 (some .boolean) := ⟨wm_849, wm_851, wm_9, wm_179, wm_852, by decide +kernel, by decide +kernel⟩
def mX5_sameBytes_3 (S0 : St) (a1 : Int) (a2 : Int) (a3 : Int) : Nat → Int → Option (Int)
  | 0, _ => none
  | f + 1, v_1 => gd ((inI v_1) ∧ (inI a3)) <| if a3 ≤ v_1 then (some (1)) else (gd (S0 12 4 = 1) <| gd (0 ≤ (a1 + v_1) ∧ (a1 + v_1) < 400) <| gd (0 ≤ (a2 + v_1) ∧ (a2 + v_1) < 400) <| gd ((inI (S0 1 (a1 + v_1))) ∧ (inI (S0 1 (a2 + v_1)))) <| if (S0 1 (a1 + v_1)) = (S0 1 (a2 + v_1)) then (mX5_sameBytes_3 S0 a1 a2 a3 f (v_1 + 1)) else (some (0)))
def mX5_sameBytes (S0 : St) (a1 : Int) (a2 : Int) (a3 : Int) : Option (Int) := bd1 (mX5_sameBytes_3 S0 a1 a2 a3 FU 0) fun t_2 => if t_2 = 0 then (some (0)) else (some (1))
set_option maxHeartbeats 4000000 in
set_option maxRecDepth 100000 in
theorem vX5_sameBytes (l : Launch) {D : va_G} {cy : Nat → ClassId} {b n : Nat} (hn : 102 ≤ n) {X : Nat → va_E} {S0 : St} (a1 : Int) (a2 : Int) (a3 : Int) {o1 : Int} (hM : mX5_sameBytes S0 a1 a2 a3 = some o1) : gI l yX5_sameBytes cX5_sameBytes 5 (some .boolean) 0 0 0 D cy b n (enc b cy X S0) [.ref (b + 12), .int (iI a1), .int (iI a2), .int (iI a3)] (fun r u => r = iI o1 ∧ u = (n, enc b cy X S0)) := by
  refine gI_of (by decide) (Nat.le_of_ble_eq_true rfl) ?_
  intro p e s m args below meth c S hr hlk hin hsz ls hl hG
  have hx := S.1
  have hb := S.2.1
  have hl : lv_has ls 5 [(0, .ref (b + 12)), (1, .int (iI a1)), (2, .int (iI a2)), (3, .int (iI a3))] := hl
  replace hG : gW D cy b n s s.heap [] (enc b cy X S0) := hG
  obtain ⟨H, eH⟩ : ∃ H, H = s.heap := ⟨_, rfl⟩
  obtain ⟨locs, elocs⟩ : ∃ locs : List Loc, locs = [] := ⟨_, rfl⟩
  rw [← eH, ← elocs] at hG
  rw [← eH, ← elocs]
  clear eH elocs
  unfold mX5_sameBytes at hM
  refine lv_iconst (v := iI 0) hx hb dX5_sameBytes_0 (by decide) ?_
  refine lv_istore (lv' := [(4, .int (iI 0)), (0, .ref (b + 12)), (1, .int (iI a1)), (2, .int (iI a2)), (3, .int (iI a3))]) hx hb dX5_sameBytes_1 hl (by decide) rfl (fun ls hl => ?_)
  obtain ⟨t_2, hc_3, hM⟩ := bd1_some hM
  have hK_4 : ∀ (H : Heap) (locs : List Loc) (ls : Array Slot), t_2 = 0 → gW D cy b n s H locs (enc b cy X S0) → lv_has ls 5 [] → W p l e (gRm 0 0 0) s m args below meth c H locs 0 0 (gQI D cy b s args below 0 0 (fun r u => r = iI o1 ∧ u = (n, enc b cy X S0))) (F0 m 30 ls []) := by
    intro H locs ls ht hG hl
    subst ht
    replace hM := ifp hM rfl
    refine lv_iconst (v := iI 0) hx hb dX5_sameBytes_30 (by decide) ?_
    cases hM
    exact g_zret S hr hlk hG hsz dX5_sameBytes_31 ⟨Nat.le_of_ble_eq_true rfl, Nat.le_of_ble_eq_true rfl⟩ (nar_z (by decide)) ⟨rfl, rfl⟩
  have hK_5 : ∀ (H : Heap) (locs : List Loc) (ls : Array Slot), t_2 = 1 → gW D cy b n s H locs (enc b cy X S0) → lv_has ls 5 [] → W p l e (gRm 0 0 0) s m args below meth c H locs 0 0 (gQI D cy b s args below 0 0 (fun r u => r = iI o1 ∧ u = (n, enc b cy X S0))) (F0 m 38 ls []) := by
    intro H locs ls ht hG hl
    subst ht
    replace hM := ifn hM (by decide)
    refine lv_iconst (v := iI 1) hx hb dX5_sameBytes_38 (by decide) ?_
    cases hM
    exact g_zret S hr hlk hG hsz dX5_sameBytes_39 ⟨Nat.le_of_ble_eq_true rfl, Nat.le_of_ble_eq_true rfl⟩ (nar_z (by decide)) ⟨rfl, rfl⟩
  have loop_6 : ∀ (f : Nat) (v_1 : Int) (H : Heap) (locs : List Loc) (ls : Array Slot), mX5_sameBytes_3 S0 a1 a2 a3 f v_1 = some t_2 → gW D cy b n s H locs (enc b cy X S0) → lv_has ls 5 [(4, .int (iI v_1)), (0, .ref (b + 12)), (1, .int (iI a1)), (2, .int (iI a2)), (3, .int (iI a3))] → W p l e (gRm 0 0 0) s m args below meth c H locs 0 0 (gQI D cy b s args below 0 0 (fun r u => r = iI o1 ∧ u = (n, enc b cy X S0))) (F0 m 3 ls []) := by
    clear hM
    intro f
    induction f with
    | zero => intro v_1 H locs ls hM; rw [mX5_sameBytes_3] at hM; cases hM
    | succ f_8 ih_7 =>
      intro v_1 H locs ls hM hG hl
      rw [mX5_sameBytes_3] at hM
      refine lv_iload hx hb dX5_sameBytes_3 (lv_at hl 0 rfl) ?_
      refine lv_iload_n hx hb dX5_sameBytes_5 rfl (lv_at hl 4 rfl) ?_
      obtain ⟨hg_9, hM⟩ := gd_some hM
      refine gi_icmp_ge (tgt := 38) hx hb dX5_sameBytes_6 (by decide) hg_9.1 hg_9.2 (fun c_10 => ?_) (fun c_10 => ?_)
      · replace hM := ifp hM c_10
        cases hM
        exact hK_5 H locs ls rfl hG (lv_sub hl [] rfl)
      · replace hM := ifn hM c_10
        refine lv_aload_n hx hb dX5_sameBytes_9 rfl (lv_at hl 1 rfl) ?_
        obtain ⟨hg_11, hM⟩ := gd_some hM
        refine m_get (v := .ref (b + 1)) S hG 12 12 4 rfl ec_12 cpX5 wm_359 dX5_sameBytes_10 (dyn12 hg_11) (Nat.lt_of_lt_of_le (Nat.le_of_ble_eq_true rfl) hn) (by decide) ?_
        refine lv_iload_n hx hb dX5_sameBytes_13 rfl (lv_at hl 2 rfl) ?_
        refine lv_iload hx hb dX5_sameBytes_14 (lv_at hl 0 rfl) ?_
        refine gi_add hx hb dX5_sameBytes_16 ?_
        obtain ⟨hg_12, hM⟩ := gd_some hM
        refine mb_ald S hG 1 1 rfl ec_1 (Nat.lt_of_lt_of_le (Nat.le_of_ble_eq_true rfl) hn) dX5_sameBytes_17 hg_12 (by decide) ?_
        refine lv_aload_n hx hb dX5_sameBytes_18 rfl (lv_at hl 1 rfl) ?_
        refine m_get (v := .ref (b + 1)) S hG 12 12 4 rfl ec_12 cpX5 wm_359 dX5_sameBytes_19 (dyn12 hg_11) (Nat.lt_of_lt_of_le (Nat.le_of_ble_eq_true rfl) hn) (by decide) ?_
        refine lv_iload_n hx hb dX5_sameBytes_22 rfl (lv_at hl 3 rfl) ?_
        refine lv_iload hx hb dX5_sameBytes_23 (lv_at hl 0 rfl) ?_
        refine gi_add hx hb dX5_sameBytes_25 ?_
        obtain ⟨hg_13, hM⟩ := gd_some hM
        refine mb_ald S hG 1 1 rfl ec_1 (Nat.lt_of_lt_of_le (Nat.le_of_ble_eq_true rfl) hn) dX5_sameBytes_26 hg_13 (by decide) ?_
        obtain ⟨hg_14, hM⟩ := gd_some hM
        refine gi_icmp_eq (tgt := 32) hx hb dX5_sameBytes_27 (by decide) hg_14.1 hg_14.2 (fun c_15 => ?_) (fun c_15 => ?_)
        · replace hM := ifp hM c_15
          refine lv_iinc (v := iI (v_1 + 1)) (lv' := [(4, .int (iI (v_1 + 1))), (0, .ref (b + 12)), (1, .int (iI a1)), (2, .int (iI a2)), (3, .int (iI a3))]) hx hb dX5_sameBytes_32 hl (k := 0) rfl ((iI_add v_1 (1)).trans (congrArg iI (by omega))) (by decide) rfl (fun ls hl => ?_)
          refine lv_goto (tgt := 3) hx hb dX5_sameBytes_35 (by decide) ?_
          exact ih_7 (v_1 + 1) H locs ls hM hG (lv_sub hl [0, 1, 2, 3, 4] rfl)
        · replace hM := ifn hM c_15
          cases hM
          exact hK_4 H locs ls rfl hG (lv_sub hl [] rfl)
  exact loop_6 FU 0 H locs ls hc_3 hG (lv_sub hl [0, 1, 2, 3, 4] rfl)
def mX5_kindNamed_2 (S0 : St)  : Nat → Int → Option (Int × Int)
  | 0, _ => none
  | f + 1, v_1 => gd ((inI v_1) ∧ (inI (S0 13 1))) <| if (S0 13 1) ≤ v_1 then (some (1, v_1)) else (gd (0 ≤ v_1 ∧ v_1 < 6) <| gd ((inI (S0 25 v_1)) ∧ (inI ((S0 12 6) - (S0 12 8)))) <| if (S0 25 v_1) = ((S0 12 6) - (S0 12 8)) then (bd1 (mX5_sameBytes S0 (S0 24 v_1) (S0 12 8) ((S0 12 6) - (S0 12 8))) fun r_16 => gd (inI r_16) <| if r_16 = 0 then (mX5_kindNamed_2 S0 f (v_1 + 1)) else (some (0, v_1))) else (mX5_kindNamed_2 S0 f (v_1 + 1)))
def mX5_kindNamed (S0 : St)  : Option (Int) := bd2 (mX5_kindNamed_2 S0 FU 0) fun t_2 y_3 => if t_2 = 0 then (some (y_3)) else (some ((-1)))
set_option maxHeartbeats 4000000 in
set_option maxRecDepth 100000 in
theorem vX5_kindNamed (l : Launch) {D : va_G} {cy : Nat → ClassId} {b n : Nat} (hn : 102 ≤ n) {X : Nat → va_E} {S0 : St}  {o1 : Int} (hM : mX5_kindNamed S0  = some o1) : gI l yX5_kindNamed cX5_kindNamed 2 (some .int) 1 0 0 D cy b n (enc b cy X S0) [.ref (b + 12)] (fun r u => r = iI o1 ∧ u = (n, enc b cy X S0)) := by
  refine gI_of (by decide) (Nat.le_of_ble_eq_true rfl) ?_
  intro p e s m args below meth c S hr hlk hin hsz ls hl hG
  have hx := S.1
  have hb := S.2.1
  have hl : lv_has ls 2 [(0, .ref (b + 12))] := hl
  replace hG : gW D cy b n s s.heap [] (enc b cy X S0) := hG
  obtain ⟨H, eH⟩ : ∃ H, H = s.heap := ⟨_, rfl⟩
  obtain ⟨locs, elocs⟩ : ∃ locs : List Loc, locs = [] := ⟨_, rfl⟩
  rw [← eH, ← elocs] at hG
  rw [← eH, ← elocs]
  clear eH elocs
  unfold mX5_kindNamed at hM
  refine lv_iconst (v := iI 0) hx hb dX5_kindNamed_0 (by decide) ?_
  refine lv_istore_n (lv' := [(1, .int (iI 0)), (0, .ref (b + 12))]) hx hb dX5_kindNamed_1 rfl hl (by decide) rfl (fun ls hl => ?_)
  obtain ⟨t_2, y_3, hc_4, hM⟩ := bd2_some hM
  have hK_5 : ∀ (H : Heap) (locs : List Loc) (ls : Array Slot), t_2 = 0 → gW D cy b n s H locs (enc b cy X S0) → lv_has ls 2 [(1, .int (iI y_3))] → W p l e (gRm 1 0 0) s m args below meth c H locs 0 0 (gQI D cy b s args below 0 0 (fun r u => r = iI o1 ∧ u = (n, enc b cy X S0))) (F0 m 57 ls []) := by
    intro H locs ls ht hG hl
    subst ht
    replace hM := ifp hM rfl
    refine lv_iload_n hx hb dX5_kindNamed_57 rfl (lv_at hl 0 rfl) ?_
    cases hM
    exact g_iret S hr hlk hG hsz dX5_kindNamed_58 ⟨Nat.le_of_ble_eq_true rfl, Nat.le_of_ble_eq_true rfl⟩ ⟨rfl, rfl⟩
  have hK_6 : ∀ (H : Heap) (locs : List Loc) (ls : Array Slot), t_2 = 1 → gW D cy b n s H locs (enc b cy X S0) → lv_has ls 2 [] → W p l e (gRm 1 0 0) s m args below meth c H locs 0 0 (gQI D cy b s args below 0 0 (fun r u => r = iI o1 ∧ u = (n, enc b cy X S0))) (F0 m 65 ls []) := by
    intro H locs ls ht hG hl
    subst ht
    replace hM := ifn hM (by decide)
    refine lv_iconst (v := iI (-1)) hx hb dX5_kindNamed_65 (by decide) ?_
    cases hM
    exact g_iret S hr hlk hG hsz dX5_kindNamed_66 ⟨Nat.le_of_ble_eq_true rfl, Nat.le_of_ble_eq_true rfl⟩ ⟨rfl, rfl⟩
  have loop_7 : ∀ (f : Nat) (v_1 : Int) (H : Heap) (locs : List Loc) (ls : Array Slot), mX5_kindNamed_2 S0 f v_1 = some (t_2, y_3) → gW D cy b n s H locs (enc b cy X S0) → lv_has ls 2 [(1, .int (iI v_1)), (0, .ref (b + 12))] → W p l e (gRm 1 0 0) s m args below meth c H locs 0 0 (gQI D cy b s args below 0 0 (fun r u => r = iI o1 ∧ u = (n, enc b cy X S0))) (F0 m 2 ls []) := by
    clear hM
    intro f
    induction f with
    | zero => intro v_1 H locs ls hM; rw [mX5_kindNamed_2] at hM; cases hM
    | succ f_9 ih_8 =>
      intro v_1 H locs ls hM hG hl
      rw [mX5_kindNamed_2] at hM
      refine lv_iload_n hx hb dX5_kindNamed_2 rfl (lv_at hl 0 rfl) ?_
      refine lv_aload_n hx hb dX5_kindNamed_3 rfl (lv_at hl 1 rfl) ?_
      refine m_get S hG 12 12 0 rfl ec_12 cpX5 wm_352 dX5_kindNamed_4 rfl (Nat.lt_of_lt_of_le (Nat.le_of_ble_eq_true rfl) hn) (by decide) ?_
      refine m_get S hG 13 13 1 rfl ec_13 cpX2 wm_220 dX5_kindNamed_7 rfl (Nat.lt_of_lt_of_le (Nat.le_of_ble_eq_true rfl) hn) (by decide) ?_
      obtain ⟨hg_10, hM⟩ := gd_some hM
      refine gi_icmp_ge (tgt := 65) hx hb dX5_kindNamed_10 (by decide) hg_10.1 hg_10.2 (fun c_11 => ?_) (fun c_11 => ?_)
      · replace hM := ifp hM c_11
        cases hM
        exact hK_6 H locs ls rfl hG (lv_sub hl [] rfl)
      · replace hM := ifn hM c_11
        refine lv_aload_n hx hb dX5_kindNamed_13 rfl (lv_at hl 1 rfl) ?_
        refine m_get S hG 12 12 12 rfl ec_12 cpX5 wm_367 dX5_kindNamed_14 rfl (Nat.lt_of_lt_of_le (Nat.le_of_ble_eq_true rfl) hn) (by decide) ?_
        refine lv_iload_n hx hb dX5_kindNamed_17 rfl (lv_at hl 0 rfl) ?_
        obtain ⟨hg_12, hM⟩ := gd_some hM
        refine mi_ald S hG 25 25 rfl ec_25 (Nat.lt_of_lt_of_le (Nat.le_of_ble_eq_true rfl) hn) dX5_kindNamed_18 hg_12 (by decide) ?_
        refine lv_aload_n hx hb dX5_kindNamed_19 rfl (lv_at hl 1 rfl) ?_
        refine m_get S hG 12 12 6 rfl ec_12 cpX5 wm_361 dX5_kindNamed_20 rfl (Nat.lt_of_lt_of_le (Nat.le_of_ble_eq_true rfl) hn) (by decide) ?_
        refine lv_aload_n hx hb dX5_kindNamed_23 rfl (lv_at hl 1 rfl) ?_
        refine m_get S hG 12 12 8 rfl ec_12 cpX5 wm_363 dX5_kindNamed_24 rfl (Nat.lt_of_lt_of_le (Nat.le_of_ble_eq_true rfl) hn) (by decide) ?_
        refine gi_sub hx hb dX5_kindNamed_27 ?_
        obtain ⟨hg_13, hM⟩ := gd_some hM
        refine gi_icmp_ne (tgt := 59) hx hb dX5_kindNamed_28 (by decide) hg_13.1 hg_13.2 (fun c_14 => ?_) (fun c_14 => ?_)
        · replace hM := ifn hM c_14
          refine lv_iinc (v := iI (v_1 + 1)) (lv' := [(1, .int (iI (v_1 + 1))), (0, .ref (b + 12))]) hx hb dX5_kindNamed_59 hl (k := 0) rfl ((iI_add v_1 (1)).trans (congrArg iI (by omega))) (by decide) rfl (fun ls hl => ?_)
          refine lv_goto (tgt := 2) hx hb dX5_kindNamed_62 (by decide) ?_
          exact ih_8 (v_1 + 1) H locs ls hM hG (lv_sub hl [0, 1] rfl)
        · replace hM := ifp hM c_14
          refine lv_aload_n hx hb dX5_kindNamed_31 rfl (lv_at hl 1 rfl) ?_
          refine lv_aload_n hx hb dX5_kindNamed_32 rfl (lv_at hl 1 rfl) ?_
          refine m_get S hG 12 12 11 rfl ec_12 cpX5 wm_366 dX5_kindNamed_33 rfl (Nat.lt_of_lt_of_le (Nat.le_of_ble_eq_true rfl) hn) (by decide) ?_
          refine lv_iload_n hx hb dX5_kindNamed_36 rfl (lv_at hl 0 rfl) ?_
          refine mi_ald S hG 24 24 rfl ec_24 (Nat.lt_of_lt_of_le (Nat.le_of_ble_eq_true rfl) hn) dX5_kindNamed_37 hg_12 (by decide) ?_
          refine lv_aload_n hx hb dX5_kindNamed_38 rfl (lv_at hl 1 rfl) ?_
          refine m_get S hG 12 12 8 rfl ec_12 cpX5 wm_363 dX5_kindNamed_39 rfl (Nat.lt_of_lt_of_le (Nat.le_of_ble_eq_true rfl) hn) (by decide) ?_
          refine lv_aload_n hx hb dX5_kindNamed_42 rfl (lv_at hl 1 rfl) ?_
          refine m_get S hG 12 12 6 rfl ec_12 cpX5 wm_361 dX5_kindNamed_43 rfl (Nat.lt_of_lt_of_le (Nat.le_of_ble_eq_true rfl) hn) (by decide) ?_
          refine lv_aload_n hx hb dX5_kindNamed_46 rfl (lv_at hl 1 rfl) ?_
          refine m_get S hG 12 12 8 rfl ec_12 cpX5 wm_363 dX5_kindNamed_47 rfl (Nat.lt_of_lt_of_le (Nat.le_of_ble_eq_true rfl) hn) (by decide) ?_
          refine gi_sub hx hb dX5_kindNamed_50 ?_
          obtain ⟨r_16, hc_15, hM⟩ := bd1_some hM
          refine g_vi (As := [.int (iI (S0 24 v_1)), .int (iI (S0 12 8)), .int (iI ((S0 12 6) - (S0 12 8)))]) (rest := []) S hG hsz (vX5_sameBytes l hn (S0 24 v_1) (S0 12 8) ((S0 12 6) - (S0 12 8)) hc_15) wV_5_145 (ec_12 _) cpX5 (Nat.lt_of_lt_of_le (Nat.le_of_ble_eq_true rfl) hn) dX5_kindNamed_51 rfl hl.1 (ar := 3) (by decide +kernel) rfl ⟨Nat.le_of_ble_eq_true rfl, Nat.le_of_ble_eq_true rfl, Nat.le_of_ble_eq_true rfl, Nat.le_of_ble_eq_true rfl⟩ (Nat.le_of_ble_eq_true rfl) (fun rv uu H locs hp hG => ?_)
          obtain ⟨rfl, rfl⟩ := hp
          replace hG : gW D cy b n s H locs (enc b cy X S0) := hG
          obtain ⟨hg_17, hM⟩ := gd_some hM
          refine gi_if_eq (tgt := 59) hx hb dX5_kindNamed_54 (by decide) hg_17 (fun c_18 => ?_) (fun c_18 => ?_)
          · replace hM := ifp hM c_18
            refine lv_iinc (v := iI (v_1 + 1)) (lv' := [(1, .int (iI (v_1 + 1))), (0, .ref (b + 12))]) hx hb dX5_kindNamed_59 hl (k := 0) rfl ((iI_add v_1 (1)).trans (congrArg iI (by omega))) (by decide) rfl (fun ls hl => ?_)
            refine lv_goto (tgt := 2) hx hb dX5_kindNamed_62 (by decide) ?_
            exact ih_8 (v_1 + 1) H locs ls hM hG (lv_sub hl [0, 1] rfl)
          · replace hM := ifn hM c_18
            cases hM
            exact hK_5 H locs ls rfl hG (lv_sub hl [0] rfl)
  exact loop_7 FU 0 H locs ls hc_4 hG (lv_sub hl [0, 1] rfl)
def mX5_readName (S0 : St)  : Option (St) := bd1 (mX5_partBegun S0) fun r_2 => gd (inI r_2) <| if r_2 = 2 then (gd (inI ((S0 12 6) - (S0 12 8))) <| if 8 < ((S0 12 6) - (S0 12 8)) then (bd1 (mX5_refuse S0 2) fun S_8 => some (S_8)) else (bd1 (mX5_kindNamed S0) fun r_10 => gd (inI r_10) <| if r_10 = (-1) then (gd (inI (S0 13 1)) <| if (S0 13 1) < 6 then (gd (0 ≤ (S0 13 1) ∧ (S0 13 1) < 6) <| nx (up S0 24 (S0 13 1) (S0 12 8)) fun S_16 => gd (0 ≤ (S_16 13 1) ∧ (S_16 13 1) < 6) <| nx (up S_16 25 (S_16 13 1) ((S_16 12 6) - (S_16 12 8))) fun S_18 => nx (up S_18 13 1 ((S_18 13 1) + 1)) fun S_19 => bd1 (mX5_advance S_19) fun S_21 => some (S_21)) else (bd1 (mX5_refuse S0 3) fun S_23 => some (S_23))) else (bd1 (mX5_refuse S0 2) fun S_25 => some (S_25)))) else (bd1 (mX5_refuse S0 1) fun S_27 => some (S_27))
set_option maxHeartbeats 4000000 in
set_option maxRecDepth 100000 in
theorem vX5_readName (l : Launch) {D : va_G} {cy : Nat → ClassId} {b n : Nat} (hn : 102 ≤ n) {X : Nat → va_E} {S0 : St}  {o1 : St} (hM : mX5_readName S0  = some o1) : gV l yX5_readName cX5_readName 1 6 0 0 D cy b n (enc b cy X S0) [.ref (b + 12)] (fun u => u = (n, enc b cy X o1)) := by
  refine gV_of (by decide) (Nat.le_of_ble_eq_true rfl) ?_
  intro p e s m args below meth c S hr hlk hin hsz ls hl hG
  have hx := S.1
  have hb := S.2.1
  have hl : lv_has ls 1 [(0, .ref (b + 12))] := hl
  replace hG : gW D cy b n s s.heap [] (enc b cy X S0) := hG
  obtain ⟨H, eH⟩ : ∃ H, H = s.heap := ⟨_, rfl⟩
  obtain ⟨locs, elocs⟩ : ∃ locs : List Loc, locs = [] := ⟨_, rfl⟩
  rw [← eH, ← elocs] at hG
  rw [← eH, ← elocs]
  clear eH elocs
  unfold mX5_readName at hM
  refine lv_aload_n hx hb dX5_readName_0 rfl (lv_at hl 0 rfl) ?_
  obtain ⟨r_2, hc_1, hM⟩ := bd1_some hM
  refine g_vi (As := []) (rest := []) S hG hsz (vX5_partBegun l hn  hc_1) wV_5_165 (ec_12 _) cpX5 (Nat.lt_of_lt_of_le (Nat.le_of_ble_eq_true rfl) hn) dX5_readName_1 rfl hl.1 (ar := 0) (by decide +kernel) rfl ⟨Nat.le_of_ble_eq_true rfl, Nat.le_of_ble_eq_true rfl, Nat.le_of_ble_eq_true rfl, Nat.le_of_ble_eq_true rfl⟩ (Nat.le_of_ble_eq_true rfl) (fun rv uu H locs hp hG => ?_)
  obtain ⟨rfl, rfl⟩ := hp
  replace hG : gW D cy b n s H locs (enc b cy X S0) := hG
  refine lv_iconst (v := iI 2) hx hb dX5_readName_4 (by decide) ?_
  obtain ⟨hg_3, hM⟩ := gd_some hM
  refine gi_icmp_eq (tgt := 16) hx hb dX5_readName_5 (by decide) hg_3 (by decide) (fun c_4 => ?_) (fun c_4 => ?_)
  · replace hM := ifp hM c_4
    refine lv_aload_n hx hb dX5_readName_16 rfl (lv_at hl 0 rfl) ?_
    refine m_get S hG 12 12 6 rfl ec_12 cpX5 wm_361 dX5_readName_17 rfl (Nat.lt_of_lt_of_le (Nat.le_of_ble_eq_true rfl) hn) (by decide) ?_
    refine lv_aload_n hx hb dX5_readName_20 rfl (lv_at hl 0 rfl) ?_
    refine m_get S hG 12 12 8 rfl ec_12 cpX5 wm_363 dX5_readName_21 rfl (Nat.lt_of_lt_of_le (Nat.le_of_ble_eq_true rfl) hn) (by decide) ?_
    refine gi_sub hx hb dX5_readName_24 ?_
    refine lv_bipush (v := iI 8) hx hb dX5_readName_25 (by decide) ?_
    obtain ⟨hg_5, hM⟩ := gd_some hM
    refine gi_icmp_gt (tgt := 38) hx hb dX5_readName_27 (by decide) hg_5 (by decide) (fun c_6 => ?_) (fun c_6 => ?_)
    · replace hM := ifp hM c_6
      refine lv_aload_n hx hb dX5_readName_38 rfl (lv_at hl 0 rfl) ?_
      refine lv_iconst (v := iI 2) hx hb dX5_readName_39 (by decide) ?_
      obtain ⟨S_8, hc_7, hM⟩ := bd1_some hM
      refine g_vv (As := [.int (iI 2)]) (rest := []) S hG hsz (vX5_refuse l hn 2 hc_7) wV_5_149 (ec_12 _) cpX5 (Nat.lt_of_lt_of_le (Nat.le_of_ble_eq_true rfl) hn) dX5_readName_40 rfl hl.1 (ar := 1) (by decide +kernel) rfl ⟨Nat.le_of_ble_eq_true rfl, Nat.le_of_ble_eq_true rfl, Nat.le_of_ble_eq_true rfl, Nat.le_of_ble_eq_true rfl⟩ (Nat.le_of_ble_eq_true rfl) (fun uu H locs hp hG => ?_)
      obtain rfl := hp
      replace hG : gW D cy b n s H locs (enc b cy X S_8) := hG
      refine lv_goto (tgt := 120) hx hb dX5_readName_43 (by decide) ?_
      cases hM
      exact g_vret S hr hlk hG hsz dX5_readName_120 ⟨Nat.le_of_ble_eq_true rfl, Nat.le_of_ble_eq_true rfl⟩ rfl
    · replace hM := ifn hM c_6
      refine lv_aload_n hx hb dX5_readName_30 rfl (lv_at hl 0 rfl) ?_
      obtain ⟨r_10, hc_9, hM⟩ := bd1_some hM
      refine g_vi (As := []) (rest := []) S hG hsz (vX5_kindNamed l hn  hc_9) wV_5_168 (ec_12 _) cpX5 (Nat.lt_of_lt_of_le (Nat.le_of_ble_eq_true rfl) hn) dX5_readName_31 rfl hl.1 (ar := 0) (by decide +kernel) rfl ⟨Nat.le_of_ble_eq_true rfl, Nat.le_of_ble_eq_true rfl, Nat.le_of_ble_eq_true rfl, Nat.le_of_ble_eq_true rfl⟩ (Nat.le_of_ble_eq_true rfl) (fun rv uu H locs hp hG => ?_)
      obtain ⟨rfl, rfl⟩ := hp
      replace hG : gW D cy b n s H locs (enc b cy X S0) := hG
      refine lv_iconst (v := iI (-1)) hx hb dX5_readName_34 (by decide) ?_
      obtain ⟨hg_11, hM⟩ := gd_some hM
      refine gi_icmp_eq (tgt := 46) hx hb dX5_readName_35 (by decide) hg_11 (by decide) (fun c_12 => ?_) (fun c_12 => ?_)
      · replace hM := ifp hM c_12
        refine lv_aload_n hx hb dX5_readName_46 rfl (lv_at hl 0 rfl) ?_
        refine m_get S hG 12 12 0 rfl ec_12 cpX5 wm_352 dX5_readName_47 rfl (Nat.lt_of_lt_of_le (Nat.le_of_ble_eq_true rfl) hn) (by decide) ?_
        refine m_get S hG 13 13 1 rfl ec_13 cpX2 wm_220 dX5_readName_50 rfl (Nat.lt_of_lt_of_le (Nat.le_of_ble_eq_true rfl) hn) (by decide) ?_
        refine lv_bipush (v := iI 6) hx hb dX5_readName_53 (by decide) ?_
        obtain ⟨hg_13, hM⟩ := gd_some hM
        refine gi_icmp_lt (tgt := 66) hx hb dX5_readName_55 (by decide) hg_13 (by decide) (fun c_14 => ?_) (fun c_14 => ?_)
        · replace hM := ifp hM c_14
          refine lv_aload_n hx hb dX5_readName_66 rfl (lv_at hl 0 rfl) ?_
          refine m_get S hG 12 12 11 rfl ec_12 cpX5 wm_366 dX5_readName_67 rfl (Nat.lt_of_lt_of_le (Nat.le_of_ble_eq_true rfl) hn) (by decide) ?_
          refine lv_aload_n hx hb dX5_readName_70 rfl (lv_at hl 0 rfl) ?_
          refine m_get S hG 12 12 0 rfl ec_12 cpX5 wm_352 dX5_readName_71 rfl (Nat.lt_of_lt_of_le (Nat.le_of_ble_eq_true rfl) hn) (by decide) ?_
          refine m_get S hG 13 13 1 rfl ec_13 cpX2 wm_220 dX5_readName_74 rfl (Nat.lt_of_lt_of_le (Nat.le_of_ble_eq_true rfl) hn) (by decide) ?_
          refine lv_aload_n hx hb dX5_readName_77 rfl (lv_at hl 0 rfl) ?_
          refine m_get S hG 12 12 8 rfl ec_12 cpX5 wm_363 dX5_readName_78 rfl (Nat.lt_of_lt_of_le (Nat.le_of_ble_eq_true rfl) hn) (by decide) ?_
          obtain ⟨hg_15, hM⟩ := gd_some hM
          refine mi_ast S hG 24 24 rfl ec_24 (Nat.lt_of_lt_of_le (Nat.le_of_ble_eq_true rfl) hn) dX5_readName_81 hg_15 (by decide) (fun H locs S_16 eS_16 hG => ?_)
          replace hM := nx_at hM eS_16
          clear eS_16
          refine lv_aload_n hx hb dX5_readName_82 rfl (lv_at hl 0 rfl) ?_
          refine m_get S hG 12 12 12 rfl ec_12 cpX5 wm_367 dX5_readName_83 rfl (Nat.lt_of_lt_of_le (Nat.le_of_ble_eq_true rfl) hn) (by decide) ?_
          refine lv_aload_n hx hb dX5_readName_86 rfl (lv_at hl 0 rfl) ?_
          refine m_get S hG 12 12 0 rfl ec_12 cpX5 wm_352 dX5_readName_87 rfl (Nat.lt_of_lt_of_le (Nat.le_of_ble_eq_true rfl) hn) (by decide) ?_
          refine m_get S hG 13 13 1 rfl ec_13 cpX2 wm_220 dX5_readName_90 rfl (Nat.lt_of_lt_of_le (Nat.le_of_ble_eq_true rfl) hn) (by decide) ?_
          refine lv_aload_n hx hb dX5_readName_93 rfl (lv_at hl 0 rfl) ?_
          refine m_get S hG 12 12 6 rfl ec_12 cpX5 wm_361 dX5_readName_94 rfl (Nat.lt_of_lt_of_le (Nat.le_of_ble_eq_true rfl) hn) (by decide) ?_
          refine lv_aload_n hx hb dX5_readName_97 rfl (lv_at hl 0 rfl) ?_
          refine m_get S hG 12 12 8 rfl ec_12 cpX5 wm_363 dX5_readName_98 rfl (Nat.lt_of_lt_of_le (Nat.le_of_ble_eq_true rfl) hn) (by decide) ?_
          refine gi_sub hx hb dX5_readName_101 ?_
          obtain ⟨hg_17, hM⟩ := gd_some hM
          refine mi_ast S hG 25 25 rfl ec_25 (Nat.lt_of_lt_of_le (Nat.le_of_ble_eq_true rfl) hn) dX5_readName_102 hg_17 (by decide) (fun H locs S_18 eS_18 hG => ?_)
          replace hM := nx_at hM eS_18
          clear eS_18
          refine lv_aload_n hx hb dX5_readName_103 rfl (lv_at hl 0 rfl) ?_
          refine m_get S hG 12 12 0 rfl ec_12 cpX5 wm_352 dX5_readName_104 rfl (Nat.lt_of_lt_of_le (Nat.le_of_ble_eq_true rfl) hn) (by decide) ?_
          refine lv_dup hx hb dX5_readName_107 rfl ?_
          refine m_get S hG 13 13 1 rfl ec_13 cpX2 wm_220 dX5_readName_108 rfl (Nat.lt_of_lt_of_le (Nat.le_of_ble_eq_true rfl) hn) (by decide) ?_
          refine lv_iconst (v := iI 1) hx hb dX5_readName_111 (by decide) ?_
          refine gi_add hx hb dX5_readName_112 ?_
          refine m_put S hG 13 13 1 rfl 1 ((S_18 13 1) + 1) ec_13 cpX2 wm_220 dX5_readName_113 (pf_13_1) (Nat.lt_of_lt_of_le (Nat.le_of_ble_eq_true rfl) hn) (by decide) (Nat.le_of_ble_eq_true rfl) rfl rfl rfl (fun H locs S_19 eS_19 hG => ?_)
          replace hM := nx_at hM eS_19
          clear eS_19
          refine lv_aload_n hx hb dX5_readName_116 rfl (lv_at hl 0 rfl) ?_
          obtain ⟨S_21, hc_20, hM⟩ := bd1_some hM
          refine g_vv (As := []) (rest := []) S hG hsz (vX5_advance l hn  hc_20) wV_5_65 (ec_12 _) cpX5 (Nat.lt_of_lt_of_le (Nat.le_of_ble_eq_true rfl) hn) dX5_readName_117 rfl hl.1 (ar := 0) (by decide +kernel) rfl ⟨Nat.le_of_ble_eq_true rfl, Nat.le_of_ble_eq_true rfl, Nat.le_of_ble_eq_true rfl, Nat.le_of_ble_eq_true rfl⟩ (Nat.le_of_ble_eq_true rfl) (fun uu H locs hp hG => ?_)
          obtain rfl := hp
          replace hG : gW D cy b n s H locs (enc b cy X S_21) := hG
          cases hM
          exact g_vret S hr hlk hG hsz dX5_readName_120 ⟨Nat.le_of_ble_eq_true rfl, Nat.le_of_ble_eq_true rfl⟩ rfl
        · replace hM := ifn hM c_14
          refine lv_aload_n hx hb dX5_readName_58 rfl (lv_at hl 0 rfl) ?_
          refine lv_iconst (v := iI 3) hx hb dX5_readName_59 (by decide) ?_
          obtain ⟨S_23, hc_22, hM⟩ := bd1_some hM
          refine g_vv (As := [.int (iI 3)]) (rest := []) S hG hsz (vX5_refuse l hn 3 hc_22) wV_5_149 (ec_12 _) cpX5 (Nat.lt_of_lt_of_le (Nat.le_of_ble_eq_true rfl) hn) dX5_readName_60 rfl hl.1 (ar := 1) (by decide +kernel) rfl ⟨Nat.le_of_ble_eq_true rfl, Nat.le_of_ble_eq_true rfl, Nat.le_of_ble_eq_true rfl, Nat.le_of_ble_eq_true rfl⟩ (Nat.le_of_ble_eq_true rfl) (fun uu H locs hp hG => ?_)
          obtain rfl := hp
          replace hG : gW D cy b n s H locs (enc b cy X S_23) := hG
          refine lv_goto (tgt := 120) hx hb dX5_readName_63 (by decide) ?_
          cases hM
          exact g_vret S hr hlk hG hsz dX5_readName_120 ⟨Nat.le_of_ble_eq_true rfl, Nat.le_of_ble_eq_true rfl⟩ rfl
      · replace hM := ifn hM c_12
        refine lv_aload_n hx hb dX5_readName_38 rfl (lv_at hl 0 rfl) ?_
        refine lv_iconst (v := iI 2) hx hb dX5_readName_39 (by decide) ?_
        obtain ⟨S_25, hc_24, hM⟩ := bd1_some hM
        refine g_vv (As := [.int (iI 2)]) (rest := []) S hG hsz (vX5_refuse l hn 2 hc_24) wV_5_149 (ec_12 _) cpX5 (Nat.lt_of_lt_of_le (Nat.le_of_ble_eq_true rfl) hn) dX5_readName_40 rfl hl.1 (ar := 1) (by decide +kernel) rfl ⟨Nat.le_of_ble_eq_true rfl, Nat.le_of_ble_eq_true rfl, Nat.le_of_ble_eq_true rfl, Nat.le_of_ble_eq_true rfl⟩ (Nat.le_of_ble_eq_true rfl) (fun uu H locs hp hG => ?_)
        obtain rfl := hp
        replace hG : gW D cy b n s H locs (enc b cy X S_25) := hG
        refine lv_goto (tgt := 120) hx hb dX5_readName_43 (by decide) ?_
        cases hM
        exact g_vret S hr hlk hG hsz dX5_readName_120 ⟨Nat.le_of_ble_eq_true rfl, Nat.le_of_ble_eq_true rfl⟩ rfl
  · replace hM := ifn hM c_4
    refine lv_aload_n hx hb dX5_readName_8 rfl (lv_at hl 0 rfl) ?_
    refine lv_iconst (v := iI 1) hx hb dX5_readName_9 (by decide) ?_
    obtain ⟨S_27, hc_26, hM⟩ := bd1_some hM
    refine g_vv (As := [.int (iI 1)]) (rest := []) S hG hsz (vX5_refuse l hn 1 hc_26) wV_5_149 (ec_12 _) cpX5 (Nat.lt_of_lt_of_le (Nat.le_of_ble_eq_true rfl) hn) dX5_readName_10 rfl hl.1 (ar := 1) (by decide +kernel) rfl ⟨Nat.le_of_ble_eq_true rfl, Nat.le_of_ble_eq_true rfl, Nat.le_of_ble_eq_true rfl, Nat.le_of_ble_eq_true rfl⟩ (Nat.le_of_ble_eq_true rfl) (fun uu H locs hp hG => ?_)
    obtain rfl := hp
    replace hG : gW D cy b n s H locs (enc b cy X S_27) := hG
    refine lv_goto (tgt := 120) hx hb dX5_readName_13 (by decide) ?_
    cases hM
    exact g_vret S hr hlk hG hsz dX5_readName_120 ⟨Nat.le_of_ble_eq_true rfl, Nat.le_of_ble_eq_true rfl⟩ rfl
theorem wV_5_162 : gWV "GrownKinds$Reader" 162 yX5_expectSign cX5_expectSign 2 none := ⟨wm_853, wm_855, wm_10, wm_179, wm_856, by decide +kernel, by decide +kernel⟩
def mX5_expectSign (S0 : St) (a1 : Int) : Option (St) := gd (inI (S0 12 1)) <| if (S0 12 1) = 0 then (gd ((inI (S0 12 7)) ∧ (inI a1)) <| if (S0 12 7) = a1 then (bd1 (mX5_advance S0) fun S_10 => some (S_10)) else (bd1 (mX5_refuse S0 1) fun S_8 => some (S_8))) else (bd1 (mX5_refuse S0 1) fun S_4 => some (S_4))
set_option maxHeartbeats 4000000 in
set_option maxRecDepth 100000 in
theorem vX5_expectSign (l : Launch) {D : va_G} {cy : Nat → ClassId} {b n : Nat} (hn : 102 ≤ n) {X : Nat → va_E} {S0 : St} (a1 : Int) {o1 : St} (hM : mX5_expectSign S0 a1 = some o1) : gV l yX5_expectSign cX5_expectSign 2 2 0 0 D cy b n (enc b cy X S0) [.ref (b + 12), .int (iI a1)] (fun u => u = (n, enc b cy X o1)) := by
  refine gV_of (by decide) (Nat.le_of_ble_eq_true rfl) ?_
  intro p e s m args below meth c S hr hlk hin hsz ls hl hG
  have hx := S.1
  have hb := S.2.1
  have hl : lv_has ls 2 [(0, .ref (b + 12)), (1, .int (iI a1))] := hl
  replace hG : gW D cy b n s s.heap [] (enc b cy X S0) := hG
  obtain ⟨H, eH⟩ : ∃ H, H = s.heap := ⟨_, rfl⟩
  obtain ⟨locs, elocs⟩ : ∃ locs : List Loc, locs = [] := ⟨_, rfl⟩
  rw [← eH, ← elocs] at hG
  rw [← eH, ← elocs]
  clear eH elocs
  unfold mX5_expectSign at hM
  refine lv_aload_n hx hb dX5_expectSign_0 rfl (lv_at hl 0 rfl) ?_
  refine m_get S hG 12 12 1 rfl ec_12 cpX5 wm_354 dX5_expectSign_1 rfl (Nat.lt_of_lt_of_le (Nat.le_of_ble_eq_true rfl) hn) (by decide) ?_
  obtain ⟨hg_1, hM⟩ := gd_some hM
  refine gi_if_ne (tgt := 22) hx hb dX5_expectSign_4 (by decide) hg_1 (fun c_2 => ?_) (fun c_2 => ?_)
  · replace hM := ifn hM c_2
    refine lv_aload_n hx hb dX5_expectSign_22 rfl (lv_at hl 0 rfl) ?_
    refine lv_iconst (v := iI 1) hx hb dX5_expectSign_23 (by decide) ?_
    obtain ⟨S_4, hc_3, hM⟩ := bd1_some hM
    refine g_vv (As := [.int (iI 1)]) (rest := []) S hG hsz (vX5_refuse l hn 1 hc_3) wV_5_149 (ec_12 _) cpX5 (Nat.lt_of_lt_of_le (Nat.le_of_ble_eq_true rfl) hn) dX5_expectSign_24 rfl hl.1 (ar := 1) (by decide +kernel) rfl ⟨Nat.le_of_ble_eq_true rfl, Nat.le_of_ble_eq_true rfl, Nat.le_of_ble_eq_true rfl, Nat.le_of_ble_eq_true rfl⟩ (Nat.le_of_ble_eq_true rfl) (fun uu H locs hp hG => ?_)
    obtain rfl := hp
    replace hG : gW D cy b n s H locs (enc b cy X S_4) := hG
    cases hM
    exact g_vret S hr hlk hG hsz dX5_expectSign_27 ⟨Nat.le_of_ble_eq_true rfl, Nat.le_of_ble_eq_true rfl⟩ rfl
  · replace hM := ifp hM c_2
    refine lv_aload_n hx hb dX5_expectSign_7 rfl (lv_at hl 0 rfl) ?_
    refine m_get S hG 12 12 7 rfl ec_12 cpX5 wm_362 dX5_expectSign_8 rfl (Nat.lt_of_lt_of_le (Nat.le_of_ble_eq_true rfl) hn) (by decide) ?_
    refine lv_iload_n hx hb dX5_expectSign_11 rfl (lv_at hl 1 rfl) ?_
    obtain ⟨hg_5, hM⟩ := gd_some hM
    refine gi_icmp_ne (tgt := 22) hx hb dX5_expectSign_12 (by decide) hg_5.1 hg_5.2 (fun c_6 => ?_) (fun c_6 => ?_)
    · replace hM := ifn hM c_6
      refine lv_aload_n hx hb dX5_expectSign_22 rfl (lv_at hl 0 rfl) ?_
      refine lv_iconst (v := iI 1) hx hb dX5_expectSign_23 (by decide) ?_
      obtain ⟨S_8, hc_7, hM⟩ := bd1_some hM
      refine g_vv (As := [.int (iI 1)]) (rest := []) S hG hsz (vX5_refuse l hn 1 hc_7) wV_5_149 (ec_12 _) cpX5 (Nat.lt_of_lt_of_le (Nat.le_of_ble_eq_true rfl) hn) dX5_expectSign_24 rfl hl.1 (ar := 1) (by decide +kernel) rfl ⟨Nat.le_of_ble_eq_true rfl, Nat.le_of_ble_eq_true rfl, Nat.le_of_ble_eq_true rfl, Nat.le_of_ble_eq_true rfl⟩ (Nat.le_of_ble_eq_true rfl) (fun uu H locs hp hG => ?_)
      obtain rfl := hp
      replace hG : gW D cy b n s H locs (enc b cy X S_8) := hG
      cases hM
      exact g_vret S hr hlk hG hsz dX5_expectSign_27 ⟨Nat.le_of_ble_eq_true rfl, Nat.le_of_ble_eq_true rfl⟩ rfl
    · replace hM := ifp hM c_6
      refine lv_aload_n hx hb dX5_expectSign_15 rfl (lv_at hl 0 rfl) ?_
      obtain ⟨S_10, hc_9, hM⟩ := bd1_some hM
      refine g_vv (As := []) (rest := []) S hG hsz (vX5_advance l hn  hc_9) wV_5_65 (ec_12 _) cpX5 (Nat.lt_of_lt_of_le (Nat.le_of_ble_eq_true rfl) hn) dX5_expectSign_16 rfl hl.1 (ar := 0) (by decide +kernel) rfl ⟨Nat.le_of_ble_eq_true rfl, Nat.le_of_ble_eq_true rfl, Nat.le_of_ble_eq_true rfl, Nat.le_of_ble_eq_true rfl⟩ (Nat.le_of_ble_eq_true rfl) (fun uu H locs hp hG => ?_)
      obtain rfl := hp
      replace hG : gW D cy b n s H locs (enc b cy X S_10) := hG
      refine lv_goto (tgt := 27) hx hb dX5_expectSign_19 (by decide) ?_
      cases hM
      exact g_vret S hr hlk hG hsz dX5_expectSign_27 ⟨Nat.le_of_ble_eq_true rfl, Nat.le_of_ble_eq_true rfl⟩ rfl
def mX5_readHead_66  : Nat → Int → St → Option (St)
  | 0, _, _ => none
  | f + 1, v_11, S_12 => gd (inI v_11) <| if 6 < v_11 then (some (S_12)) else (gd (inI (S_12 12 1)) <| if (S_12 12 1) = 0 then (if v_11 = 0 then (bd1 (mX5_readName S_12) fun S_28 => mX5_readHead_66 f (v_11 + 1) S_28) else (gd (inI (S_12 12 7)) <| if (S_12 12 7) = 59 then (some (S_12)) else (bd1 (mX5_readName S_12) fun S_32 => mX5_readHead_66 f (v_11 + 1) S_32))) else (some (S_12)))
def mX5_readHead (S0 : St)  : Option (St) := bd1 (mX5_expectWord_12_s tx0 S0) fun S_2 => bd1 (mX5_expectWord_12_s tx1 S_2) fun S_4 => bd1 (gd (inI (S_4 12 7)) <| if (S_4 12 7) = 2 then (gd (inI (S_4 12 9)) <| if (S_4 12 9) ≤ 7 then (some (S_4)) else (bd1 (mX5_refuse S_4 2) fun S_43 => some (S_43))) else (bd1 (mX5_refuse S_4 1) fun S_45 => some (S_45))) fun S_5 => bd1 (gd (inI (S_5 12 1)) <| if (S_5 12 1) = 0 then (nx (up S_5 13 0 (S_5 12 9)) fun S_35 => bd1 (mX5_advance S_35) fun S_37 => some (S_37)) else (some (S_5))) fun S_8 => bd1 (mX5_readHead_66 FU 0 S_8) fun S_13 => bd1 (mX5_expectSign S_13 59) fun S_17 => nx (up S_17 13 2 1) fun S_18 => some (S_18)
set_option maxHeartbeats 4000000 in
set_option maxRecDepth 100000 in
theorem vX5_readHead (l : Launch) {D : va_G} {cy : Nat → ClassId} {b n : Nat} (hn : 102 ≤ n) {X : Nat → va_E} {S0 : St}  {o1 : St} (hM : mX5_readHead S0  = some o1) : gV l yX5_readHead cX5_readHead 2 7 0 0 D cy b n (enc b cy X S0) [.ref (b + 12)] (fun u => u = (n, enc b cy X o1)) := by
  refine gV_of (by decide) (Nat.le_of_ble_eq_true rfl) ?_
  intro p e s m args below meth c S hr hlk hin hsz ls hl hG
  have hx := S.1
  have hb := S.2.1
  have hl : lv_has ls 2 [(0, .ref (b + 12))] := hl
  replace hG : gW D cy b n s s.heap [] (enc b cy X S0) := hG
  obtain ⟨H, eH⟩ : ∃ H, H = s.heap := ⟨_, rfl⟩
  obtain ⟨locs, elocs⟩ : ∃ locs : List Loc, locs = [] := ⟨_, rfl⟩
  rw [← eH, ← elocs] at hG
  rw [← eH, ← elocs]
  clear eH elocs
  unfold mX5_readHead at hM
  refine lv_aload_n hx hb dX5_readHead_0 rfl (lv_at hl 0 rfl) ?_
  refine va_ldcS (own := "GrownKinds$Reader") (index := 137) (tx := "grammar") hx hb S.2.2.2.1 (hG.1.2.1.2.1 0 _ rfl).1 dX5_readHead_1 ?_
  obtain ⟨S_2, hc_1, hM⟩ := bd1_some hM
  refine g_vv (As := [.ref (cy (10 + 0))]) (rest := []) S hG hsz (vX5_expectWord_12_s l hn hs0   hc_1) wV_5_153 (ec_12 _) cpX5 (Nat.lt_of_lt_of_le (Nat.le_of_ble_eq_true rfl) hn) dX5_readHead_3 rfl hl.1 (ar := 1) (by decide +kernel) rfl ⟨Nat.le_of_ble_eq_true rfl, Nat.le_of_ble_eq_true rfl, Nat.le_of_ble_eq_true rfl, Nat.le_of_ble_eq_true rfl⟩ (Nat.le_of_ble_eq_true rfl) (fun uu H locs hp hG => ?_)
  obtain rfl := hp
  replace hG : gW D cy b n s H locs (enc b cy X S_2) := hG
  refine lv_aload_n hx hb dX5_readHead_6 rfl (lv_at hl 0 rfl) ?_
  refine va_ldcS (own := "GrownKinds$Reader") (index := 139) (tx := "most") hx hb S.2.2.2.1 (hG.1.2.1.2.1 1 _ rfl).1 dX5_readHead_7 ?_
  obtain ⟨S_4, hc_3, hM⟩ := bd1_some hM
  refine g_vv (As := [.ref (cy (10 + 1))]) (rest := []) S hG hsz (vX5_expectWord_12_s l hn hs1   hc_3) wV_5_153 (ec_12 _) cpX5 (Nat.lt_of_lt_of_le (Nat.le_of_ble_eq_true rfl) hn) dX5_readHead_9 rfl hl.1 (ar := 1) (by decide +kernel) rfl ⟨Nat.le_of_ble_eq_true rfl, Nat.le_of_ble_eq_true rfl, Nat.le_of_ble_eq_true rfl, Nat.le_of_ble_eq_true rfl⟩ (Nat.le_of_ble_eq_true rfl) (fun uu H locs hp hG => ?_)
  obtain rfl := hp
  replace hG : gW D cy b n s H locs (enc b cy X S_4) := hG
  refine lv_aload_n hx hb dX5_readHead_12 rfl (lv_at hl 0 rfl) ?_
  refine m_get S hG 12 12 7 rfl ec_12 cpX5 wm_362 dX5_readHead_13 rfl (Nat.lt_of_lt_of_le (Nat.le_of_ble_eq_true rfl) hn) (by decide) ?_
  refine lv_iconst (v := iI 2) hx hb dX5_readHead_16 (by decide) ?_
  obtain ⟨S_5, hc_6, hM⟩ := bd1_some hM
  have hK_7 : ∀ (H : Heap) (locs : List Loc) (ls : Array Slot), gW D cy b n s H locs (enc b cy X S_5) → lv_has ls 2 [(0, .ref (b + 12))] → W p l e (gRm 7 0 0) s m args below meth c H locs 0 0 (gQV D cy b s args below 0 0 (fun u => u = (n, enc b cy X o1))) (F0 m 42 ls []) := by
    intro H locs ls hG hl
    refine lv_aload_n hx hb dX5_readHead_42 rfl (lv_at hl 0 rfl) ?_
    refine m_get S hG 12 12 1 rfl ec_12 cpX5 wm_354 dX5_readHead_43 rfl (Nat.lt_of_lt_of_le (Nat.le_of_ble_eq_true rfl) hn) (by decide) ?_
    obtain ⟨S_8, hc_9, hM⟩ := bd1_some hM
    have hK_10 : ∀ (H : Heap) (locs : List Loc) (ls : Array Slot), gW D cy b n s H locs (enc b cy X S_8) → lv_has ls 2 [(0, .ref (b + 12))] → W p l e (gRm 7 0 0) s m args below meth c H locs 0 0 (gQV D cy b s args below 0 0 (fun u => u = (n, enc b cy X o1))) (F0 m 64 ls []) := by
      intro H locs ls hG hl
      refine lv_iconst (v := iI 0) hx hb dX5_readHead_64 (by decide) ?_
      refine lv_istore_n (lv' := [(1, .int (iI 0)), (0, .ref (b + 12))]) hx hb dX5_readHead_65 rfl hl (by decide) rfl (fun ls hl => ?_)
      obtain ⟨S_13, hc_14, hM⟩ := bd1_some hM
      have hK_15 : ∀ (H : Heap) (locs : List Loc) (ls : Array Slot), gW D cy b n s H locs (enc b cy X S_13) → lv_has ls 2 [(0, .ref (b + 12))] → W p l e (gRm 7 0 0) s m args below meth c H locs 0 0 (gQV D cy b s args below 0 0 (fun u => u = (n, enc b cy X o1))) (F0 m 102 ls []) := by
        intro H locs ls hG hl
        refine lv_aload_n hx hb dX5_readHead_102 rfl (lv_at hl 0 rfl) ?_
        refine lv_bipush (v := iI 59) hx hb dX5_readHead_103 (by decide) ?_
        obtain ⟨S_17, hc_16, hM⟩ := bd1_some hM
        refine g_vv (As := [.int (iI 59)]) (rest := []) S hG hsz (vX5_expectSign l hn 59 hc_16) wV_5_162 (ec_12 _) cpX5 (Nat.lt_of_lt_of_le (Nat.le_of_ble_eq_true rfl) hn) dX5_readHead_105 rfl hl.1 (ar := 1) (by decide +kernel) rfl ⟨Nat.le_of_ble_eq_true rfl, Nat.le_of_ble_eq_true rfl, Nat.le_of_ble_eq_true rfl, Nat.le_of_ble_eq_true rfl⟩ (Nat.le_of_ble_eq_true rfl) (fun uu H locs hp hG => ?_)
        obtain rfl := hp
        replace hG : gW D cy b n s H locs (enc b cy X S_17) := hG
        refine lv_aload_n hx hb dX5_readHead_108 rfl (lv_at hl 0 rfl) ?_
        refine m_get S hG 12 12 0 rfl ec_12 cpX5 wm_352 dX5_readHead_109 rfl (Nat.lt_of_lt_of_le (Nat.le_of_ble_eq_true rfl) hn) (by decide) ?_
        refine lv_iconst (v := iI 1) hx hb dX5_readHead_112 (by decide) ?_
        refine m_put S hG 13 13 2 rfl 2 1 ec_13 cpX2 wm_224 dX5_readHead_113 (pf_13_2) (Nat.lt_of_lt_of_le (Nat.le_of_ble_eq_true rfl) hn) (by decide) (Nat.le_of_ble_eq_true rfl) rfl rfl rfl (fun H locs S_18 eS_18 hG => ?_)
        replace hM := nx_at hM eS_18
        clear eS_18
        cases hM
        exact g_vret S hr hlk hG hsz dX5_readHead_116 ⟨Nat.le_of_ble_eq_true rfl, Nat.le_of_ble_eq_true rfl⟩ rfl
      have loop_19 : ∀ (f : Nat) (v_11 : Int) (S_12 : St) (H : Heap) (locs : List Loc) (ls : Array Slot), mX5_readHead_66 f v_11 S_12 = some S_13 → gW D cy b n s H locs (enc b cy X S_12) → lv_has ls 2 [(1, .int (iI v_11)), (0, .ref (b + 12))] → W p l e (gRm 7 0 0) s m args below meth c H locs 0 0 (gQV D cy b s args below 0 0 (fun u => u = (n, enc b cy X o1))) (F0 m 66 ls []) := by
        clear hM
        intro f
        induction f with
        | zero => intro v_11 S_12 H locs ls hM; rw [mX5_readHead_66] at hM; cases hM
        | succ f_21 ih_20 =>
          intro v_11 S_12 H locs ls hM hG hl
          rw [mX5_readHead_66] at hM
          refine lv_iload_n hx hb dX5_readHead_66 rfl (lv_at hl 0 rfl) ?_
          refine lv_bipush (v := iI 6) hx hb dX5_readHead_67 (by decide) ?_
          obtain ⟨hg_22, hM⟩ := gd_some hM
          refine gi_icmp_gt (tgt := 102) hx hb dX5_readHead_69 (by decide) hg_22 (by decide) (fun c_23 => ?_) (fun c_23 => ?_)
          · replace hM := ifp hM c_23
            cases hM
            exact hK_15 H locs ls hG (lv_sub hl [1] rfl)
          · replace hM := ifn hM c_23
            refine lv_aload_n hx hb dX5_readHead_72 rfl (lv_at hl 1 rfl) ?_
            refine m_get S hG 12 12 1 rfl ec_12 cpX5 wm_354 dX5_readHead_73 rfl (Nat.lt_of_lt_of_le (Nat.le_of_ble_eq_true rfl) hn) (by decide) ?_
            obtain ⟨hg_24, hM⟩ := gd_some hM
            refine gi_if_ne (tgt := 102) hx hb dX5_readHead_76 (by decide) hg_24 (fun c_25 => ?_) (fun c_25 => ?_)
            · replace hM := ifn hM c_25
              cases hM
              exact hK_15 H locs ls hG (lv_sub hl [1] rfl)
            · replace hM := ifp hM c_25
              refine lv_iload_n hx hb dX5_readHead_79 rfl (lv_at hl 0 rfl) ?_
              refine gi_if_eq (tgt := 92) hx hb dX5_readHead_80 (by decide) hg_22 (fun c_26 => ?_) (fun c_26 => ?_)
              · replace hM := ifp hM c_26
                refine lv_aload_n hx hb dX5_readHead_92 rfl (lv_at hl 1 rfl) ?_
                obtain ⟨S_28, hc_27, hM⟩ := bd1_some hM
                refine g_vv (As := []) (rest := []) S hG hsz (vX5_readName l hn  hc_27) wV_5_159 (ec_12 _) cpX5 (Nat.lt_of_lt_of_le (Nat.le_of_ble_eq_true rfl) hn) dX5_readHead_93 rfl hl.1 (ar := 0) (by decide +kernel) rfl ⟨Nat.le_of_ble_eq_true rfl, Nat.le_of_ble_eq_true rfl, Nat.le_of_ble_eq_true rfl, Nat.le_of_ble_eq_true rfl⟩ (Nat.le_of_ble_eq_true rfl) (fun uu H locs hp hG => ?_)
                obtain rfl := hp
                replace hG : gW D cy b n s H locs (enc b cy X S_28) := hG
                refine lv_iinc (v := iI (v_11 + 1)) (lv' := [(1, .int (iI (v_11 + 1))), (0, .ref (b + 12))]) hx hb dX5_readHead_96 hl (k := 0) rfl ((iI_add v_11 (1)).trans (congrArg iI (by omega))) (by decide) rfl (fun ls hl => ?_)
                refine lv_goto (tgt := 66) hx hb dX5_readHead_99 (by decide) ?_
                exact ih_20 (v_11 + 1) S_28 H locs ls hM hG (lv_sub hl [0, 1] rfl)
              · replace hM := ifn hM c_26
                refine lv_aload_n hx hb dX5_readHead_83 rfl (lv_at hl 1 rfl) ?_
                refine m_get S hG 12 12 7 rfl ec_12 cpX5 wm_362 dX5_readHead_84 rfl (Nat.lt_of_lt_of_le (Nat.le_of_ble_eq_true rfl) hn) (by decide) ?_
                refine lv_bipush (v := iI 59) hx hb dX5_readHead_87 (by decide) ?_
                obtain ⟨hg_29, hM⟩ := gd_some hM
                refine gi_icmp_eq (tgt := 102) hx hb dX5_readHead_89 (by decide) hg_29 (by decide) (fun c_30 => ?_) (fun c_30 => ?_)
                · replace hM := ifp hM c_30
                  cases hM
                  exact hK_15 H locs ls hG (lv_sub hl [1] rfl)
                · replace hM := ifn hM c_30
                  refine lv_aload_n hx hb dX5_readHead_92 rfl (lv_at hl 1 rfl) ?_
                  obtain ⟨S_32, hc_31, hM⟩ := bd1_some hM
                  refine g_vv (As := []) (rest := []) S hG hsz (vX5_readName l hn  hc_31) wV_5_159 (ec_12 _) cpX5 (Nat.lt_of_lt_of_le (Nat.le_of_ble_eq_true rfl) hn) dX5_readHead_93 rfl hl.1 (ar := 0) (by decide +kernel) rfl ⟨Nat.le_of_ble_eq_true rfl, Nat.le_of_ble_eq_true rfl, Nat.le_of_ble_eq_true rfl, Nat.le_of_ble_eq_true rfl⟩ (Nat.le_of_ble_eq_true rfl) (fun uu H locs hp hG => ?_)
                  obtain rfl := hp
                  replace hG : gW D cy b n s H locs (enc b cy X S_32) := hG
                  refine lv_iinc (v := iI (v_11 + 1)) (lv' := [(1, .int (iI (v_11 + 1))), (0, .ref (b + 12))]) hx hb dX5_readHead_96 hl (k := 0) rfl ((iI_add v_11 (1)).trans (congrArg iI (by omega))) (by decide) rfl (fun ls hl => ?_)
                  refine lv_goto (tgt := 66) hx hb dX5_readHead_99 (by decide) ?_
                  exact ih_20 (v_11 + 1) S_32 H locs ls hM hG (lv_sub hl [0, 1] rfl)
      exact loop_19 FU 0 S_8 H locs ls hc_14 hG (lv_sub hl [0, 1] rfl)
    clear hM
    replace hM := hc_9
    obtain ⟨hg_33, hM⟩ := gd_some hM
    refine gi_if_ne (tgt := 64) hx hb dX5_readHead_46 (by decide) hg_33 (fun c_34 => ?_) (fun c_34 => ?_)
    · replace hM := ifn hM c_34
      cases hM
      exact hK_10 H locs ls hG (lv_sub hl [0] rfl)
    · replace hM := ifp hM c_34
      refine lv_aload_n hx hb dX5_readHead_49 rfl (lv_at hl 0 rfl) ?_
      refine m_get S hG 12 12 0 rfl ec_12 cpX5 wm_352 dX5_readHead_50 rfl (Nat.lt_of_lt_of_le (Nat.le_of_ble_eq_true rfl) hn) (by decide) ?_
      refine lv_aload_n hx hb dX5_readHead_53 rfl (lv_at hl 0 rfl) ?_
      refine m_get S hG 12 12 9 rfl ec_12 cpX5 wm_364 dX5_readHead_54 rfl (Nat.lt_of_lt_of_le (Nat.le_of_ble_eq_true rfl) hn) (by decide) ?_
      refine m_put S hG 13 13 0 rfl 0 (S_5 12 9) ec_13 cpX2 wm_217 dX5_readHead_57 (pf_13_0) (Nat.lt_of_lt_of_le (Nat.le_of_ble_eq_true rfl) hn) (by decide) (Nat.le_of_ble_eq_true rfl) rfl rfl rfl (fun H locs S_35 eS_35 hG => ?_)
      replace hM := nx_at hM eS_35
      clear eS_35
      refine lv_aload_n hx hb dX5_readHead_60 rfl (lv_at hl 0 rfl) ?_
      obtain ⟨S_37, hc_36, hM⟩ := bd1_some hM
      refine g_vv (As := []) (rest := []) S hG hsz (vX5_advance l hn  hc_36) wV_5_65 (ec_12 _) cpX5 (Nat.lt_of_lt_of_le (Nat.le_of_ble_eq_true rfl) hn) dX5_readHead_61 rfl hl.1 (ar := 0) (by decide +kernel) rfl ⟨Nat.le_of_ble_eq_true rfl, Nat.le_of_ble_eq_true rfl, Nat.le_of_ble_eq_true rfl, Nat.le_of_ble_eq_true rfl⟩ (Nat.le_of_ble_eq_true rfl) (fun uu H locs hp hG => ?_)
      obtain rfl := hp
      replace hG : gW D cy b n s H locs (enc b cy X S_37) := hG
      cases hM
      exact hK_10 H locs ls hG (lv_sub hl [0] rfl)
  clear hM
  replace hM := hc_6
  obtain ⟨hg_38, hM⟩ := gd_some hM
  refine gi_icmp_eq (tgt := 28) hx hb dX5_readHead_17 (by decide) hg_38 (by decide) (fun c_39 => ?_) (fun c_39 => ?_)
  · replace hM := ifp hM c_39
    refine lv_aload_n hx hb dX5_readHead_28 rfl (lv_at hl 0 rfl) ?_
    refine m_get S hG 12 12 9 rfl ec_12 cpX5 wm_364 dX5_readHead_29 rfl (Nat.lt_of_lt_of_le (Nat.le_of_ble_eq_true rfl) hn) (by decide) ?_
    refine lv_bipush (v := iI 7) hx hb dX5_readHead_32 (by decide) ?_
    obtain ⟨hg_40, hM⟩ := gd_some hM
    refine gi_icmp_le (tgt := 42) hx hb dX5_readHead_34 (by decide) hg_40 (by decide) (fun c_41 => ?_) (fun c_41 => ?_)
    · replace hM := ifp hM c_41
      cases hM
      exact hK_7 H locs ls hG (lv_sub hl [0] rfl)
    · replace hM := ifn hM c_41
      refine lv_aload_n hx hb dX5_readHead_37 rfl (lv_at hl 0 rfl) ?_
      refine lv_iconst (v := iI 2) hx hb dX5_readHead_38 (by decide) ?_
      obtain ⟨S_43, hc_42, hM⟩ := bd1_some hM
      refine g_vv (As := [.int (iI 2)]) (rest := []) S hG hsz (vX5_refuse l hn 2 hc_42) wV_5_149 (ec_12 _) cpX5 (Nat.lt_of_lt_of_le (Nat.le_of_ble_eq_true rfl) hn) dX5_readHead_39 rfl hl.1 (ar := 1) (by decide +kernel) rfl ⟨Nat.le_of_ble_eq_true rfl, Nat.le_of_ble_eq_true rfl, Nat.le_of_ble_eq_true rfl, Nat.le_of_ble_eq_true rfl⟩ (Nat.le_of_ble_eq_true rfl) (fun uu H locs hp hG => ?_)
      obtain rfl := hp
      replace hG : gW D cy b n s H locs (enc b cy X S_43) := hG
      cases hM
      exact hK_7 H locs ls hG (lv_sub hl [0] rfl)
  · replace hM := ifn hM c_39
    refine lv_aload_n hx hb dX5_readHead_20 rfl (lv_at hl 0 rfl) ?_
    refine lv_iconst (v := iI 1) hx hb dX5_readHead_21 (by decide) ?_
    obtain ⟨S_45, hc_44, hM⟩ := bd1_some hM
    refine g_vv (As := [.int (iI 1)]) (rest := []) S hG hsz (vX5_refuse l hn 1 hc_44) wV_5_149 (ec_12 _) cpX5 (Nat.lt_of_lt_of_le (Nat.le_of_ble_eq_true rfl) hn) dX5_readHead_22 rfl hl.1 (ar := 1) (by decide +kernel) rfl ⟨Nat.le_of_ble_eq_true rfl, Nat.le_of_ble_eq_true rfl, Nat.le_of_ble_eq_true rfl, Nat.le_of_ble_eq_true rfl⟩ (Nat.le_of_ble_eq_true rfl) (fun uu H locs hp hG => ?_)
    obtain rfl := hp
    replace hG : gW D cy b n s H locs (enc b cy X S_45) := hG
    refine lv_goto (tgt := 42) hx hb dX5_readHead_25 (by decide) ?_
    cases hM
    exact hK_7 H locs ls hG (lv_sub hl [0] rfl)
theorem wV_5_71 : gWV "GrownKinds$Reader" 71 yX5_readLine cX5_readLine 1 none := ⟨wm_857, wm_859, wm_11, wm_179, wm_860, by decide +kernel, by decide +kernel⟩
theorem wV_5_174 : gWV "GrownKinds$Reader" 174 yX5_readExpr cX5_readExpr 5 none := ⟨wm_861, wm_863, wm_12, wm_179, wm_864, by decide +kernel, by decide +kernel⟩
theorem wV_5_178 : gWV "GrownKinds$Reader" 178 yX5_readTerm cX5_readTerm 7 (some .int) := ⟨wm_865, wm_867, wm_13, wm_179, wm_868, by decide +kernel, by decide +kernel⟩
theorem wV_5_194 : gWV "GrownKinds$Reader" 194 yX5_faultOfPart cX5_faultOfPart 6 (some .int) := ⟨wm_873, wm_875, wm_15, wm_179, wm_876, by decide +kernel, by decide +kernel⟩
def mX5_faultOfPart (S0 : St) (a1 : Int) (a2 : Int) (a3 : Int) (a4 : Int) : Option (Int) := gd (inI a1) <| if a1 = (-1) then (some (1)) else (if a1 = 8 then (some (1)) else (bd1 (if a1 = 2 then (gd (inI a2) <| if a2 = (-1) then (some (0)) else (some (1))) else (some (1))) fun t_4 => if t_4 = 0 then (some (2)) else (bd1 (if a1 < 3 then (some (0)) else (gd (inI a3) <| if a3 < 6 then (some (0)) else (some (1)))) fun z_8 => gd (inI a4) <| if a4 = 0 then (gd (inI z_8) <| if z_8 = 0 then (gd (inI (S0 13 3)) <| if (S0 13 3) < 24 then (some (0)) else (some (3))) else (some (3))) else (some (3)))))
set_option maxHeartbeats 4000000 in
set_option maxRecDepth 100000 in
theorem vX5_faultOfPart (l : Launch) {D : va_G} {cy : Nat → ClassId} {b n : Nat} (hn : 102 ≤ n) {X : Nat → va_E} {S0 : St} (a1 : Int) (a2 : Int) (a3 : Int) (a4 : Int) {o1 : Int} (hM : mX5_faultOfPart S0 a1 a2 a3 a4 = some o1) : gI l yX5_faultOfPart cX5_faultOfPart 6 (some .int) 0 0 0 D cy b n (enc b cy X S0) [.ref (b + 12), .int (iI a1), .int (iI a2), .int (iI a3), .int (iI a4)] (fun r u => r = iI o1 ∧ u = (n, enc b cy X S0)) := by
  refine gI_of (by decide) (Nat.le_of_ble_eq_true rfl) ?_
  intro p e s m args below meth c S hr hlk hin hsz ls hl hG
  have hx := S.1
  have hb := S.2.1
  have hl : lv_has ls 6 [(0, .ref (b + 12)), (1, .int (iI a1)), (2, .int (iI a2)), (3, .int (iI a3)), (4, .int (iI a4))] := hl
  replace hG : gW D cy b n s s.heap [] (enc b cy X S0) := hG
  obtain ⟨H, eH⟩ : ∃ H, H = s.heap := ⟨_, rfl⟩
  obtain ⟨locs, elocs⟩ : ∃ locs : List Loc, locs = [] := ⟨_, rfl⟩
  rw [← eH, ← elocs] at hG
  rw [← eH, ← elocs]
  clear eH elocs
  unfold mX5_faultOfPart at hM
  refine lv_iload_n hx hb dX5_faultOfPart_0 rfl (lv_at hl 1 rfl) ?_
  refine lv_iconst (v := iI (-1)) hx hb dX5_faultOfPart_1 (by decide) ?_
  obtain ⟨hg_1, hM⟩ := gd_some hM
  refine gi_icmp_eq (tgt := 11) hx hb dX5_faultOfPart_2 (by decide) hg_1 (by decide) (fun c_2 => ?_) (fun c_2 => ?_)
  · replace hM := ifp hM c_2
    refine lv_iconst (v := iI 1) hx hb dX5_faultOfPart_11 (by decide) ?_
    cases hM
    exact g_iret S hr hlk hG hsz dX5_faultOfPart_12 ⟨Nat.le_of_ble_eq_true rfl, Nat.le_of_ble_eq_true rfl⟩ ⟨rfl, rfl⟩
  · replace hM := ifn hM c_2
    refine lv_iload_n hx hb dX5_faultOfPart_5 rfl (lv_at hl 1 rfl) ?_
    refine lv_bipush (v := iI 8) hx hb dX5_faultOfPart_6 (by decide) ?_
    refine gi_icmp_ne (tgt := 13) hx hb dX5_faultOfPart_8 (by decide) hg_1 (by decide) (fun c_3 => ?_) (fun c_3 => ?_)
    · replace hM := ifn hM c_3
      refine lv_iload_n hx hb dX5_faultOfPart_13 rfl (lv_at hl 1 rfl) ?_
      refine lv_iconst (v := iI 2) hx hb dX5_faultOfPart_14 (by decide) ?_
      obtain ⟨t_4, hc_5, hM⟩ := bd1_some hM
      have hK_6 : ∀ (H : Heap) (locs : List Loc) (ls : Array Slot), t_4 = 0 → gW D cy b n s H locs (enc b cy X S0) → lv_has ls 6 [] → W p l e (gRm 0 0 0) s m args below meth c H locs 0 0 (gQI D cy b s args below 0 0 (fun r u => r = iI o1 ∧ u = (n, enc b cy X S0))) (F0 m 23 ls []) := by
        intro H locs ls ht hG hl
        subst ht
        replace hM := ifp hM rfl
        refine lv_iconst (v := iI 2) hx hb dX5_faultOfPart_23 (by decide) ?_
        cases hM
        exact g_iret S hr hlk hG hsz dX5_faultOfPart_24 ⟨Nat.le_of_ble_eq_true rfl, Nat.le_of_ble_eq_true rfl⟩ ⟨rfl, rfl⟩
      have hK_7 : ∀ (H : Heap) (locs : List Loc) (ls : Array Slot), t_4 = 1 → gW D cy b n s H locs (enc b cy X S0) → lv_has ls 6 [(0, .ref (b + 12)), (1, .int (iI a1)), (3, .int (iI a3)), (4, .int (iI a4))] → W p l e (gRm 0 0 0) s m args below meth c H locs 0 0 (gQI D cy b s args below 0 0 (fun r u => r = iI o1 ∧ u = (n, enc b cy X S0))) (F0 m 25 ls []) := by
        intro H locs ls ht hG hl
        subst ht
        replace hM := ifn hM (by decide)
        refine lv_iload_n hx hb dX5_faultOfPart_25 rfl (lv_at hl 1 rfl) ?_
        refine lv_iconst (v := iI 3) hx hb dX5_faultOfPart_26 (by decide) ?_
        obtain ⟨z_8, hc_9, hM⟩ := bd1_some hM
        have hK_10 : ∀ (H : Heap) (locs : List Loc) (ls : Array Slot), gW D cy b n s H locs (enc b cy X S0) → lv_has ls 6 [(0, .ref (b + 12)), (4, .int (iI a4))] → W p l e (gRm 0 0 0) s m args below meth c H locs 0 0 (gQI D cy b s args below 0 0 (fun r u => r = iI o1 ∧ u = (n, enc b cy X S0))) (F0 m 41 ls [.int (iI z_8)]) := by
          intro H locs ls hG hl
          refine lv_istore (lv' := [(5, .int (iI z_8)), (0, .ref (b + 12)), (4, .int (iI a4))]) hx hb dX5_faultOfPart_41 hl (by decide) rfl (fun ls hl => ?_)
          refine lv_iload hx hb dX5_faultOfPart_43 (lv_at hl 2 rfl) ?_
          obtain ⟨hg_11, hM⟩ := gd_some hM
          refine gi_if_ne (tgt := 65) hx hb dX5_faultOfPart_45 (by decide) hg_11 (fun c_12 => ?_) (fun c_12 => ?_)
          · replace hM := ifn hM c_12
            refine lv_iconst (v := iI 3) hx hb dX5_faultOfPart_65 (by decide) ?_
            refine lv_goto (tgt := 70) hx hb dX5_faultOfPart_66 (by decide) ?_
            cases hM
            exact g_iret S hr hlk hG hsz dX5_faultOfPart_70 ⟨Nat.le_of_ble_eq_true rfl, Nat.le_of_ble_eq_true rfl⟩ ⟨rfl, rfl⟩
          · replace hM := ifp hM c_12
            refine lv_iload hx hb dX5_faultOfPart_48 (lv_at hl 0 rfl) ?_
            obtain ⟨hg_13, hM⟩ := gd_some hM
            refine gi_if_ne (tgt := 65) hx hb dX5_faultOfPart_50 (by decide) hg_13 (fun c_14 => ?_) (fun c_14 => ?_)
            · replace hM := ifn hM c_14
              refine lv_iconst (v := iI 3) hx hb dX5_faultOfPart_65 (by decide) ?_
              refine lv_goto (tgt := 70) hx hb dX5_faultOfPart_66 (by decide) ?_
              cases hM
              exact g_iret S hr hlk hG hsz dX5_faultOfPart_70 ⟨Nat.le_of_ble_eq_true rfl, Nat.le_of_ble_eq_true rfl⟩ ⟨rfl, rfl⟩
            · replace hM := ifp hM c_14
              refine lv_aload_n hx hb dX5_faultOfPart_53 rfl (lv_at hl 1 rfl) ?_
              refine m_get S hG 12 12 0 rfl ec_12 cpX5 wm_352 dX5_faultOfPart_54 rfl (Nat.lt_of_lt_of_le (Nat.le_of_ble_eq_true rfl) hn) (by decide) ?_
              refine m_get S hG 13 13 3 rfl ec_13 cpX2 wm_230 dX5_faultOfPart_57 rfl (Nat.lt_of_lt_of_le (Nat.le_of_ble_eq_true rfl) hn) (by decide) ?_
              refine lv_bipush (v := iI 24) hx hb dX5_faultOfPart_60 (by decide) ?_
              obtain ⟨hg_15, hM⟩ := gd_some hM
              refine gi_icmp_lt (tgt := 69) hx hb dX5_faultOfPart_62 (by decide) hg_15 (by decide) (fun c_16 => ?_) (fun c_16 => ?_)
              · replace hM := ifp hM c_16
                refine lv_iconst (v := iI 0) hx hb dX5_faultOfPart_69 (by decide) ?_
                cases hM
                exact g_iret S hr hlk hG hsz dX5_faultOfPart_70 ⟨Nat.le_of_ble_eq_true rfl, Nat.le_of_ble_eq_true rfl⟩ ⟨rfl, rfl⟩
              · replace hM := ifn hM c_16
                refine lv_iconst (v := iI 3) hx hb dX5_faultOfPart_65 (by decide) ?_
                refine lv_goto (tgt := 70) hx hb dX5_faultOfPart_66 (by decide) ?_
                cases hM
                exact g_iret S hr hlk hG hsz dX5_faultOfPart_70 ⟨Nat.le_of_ble_eq_true rfl, Nat.le_of_ble_eq_true rfl⟩ ⟨rfl, rfl⟩
        clear hM
        replace hM := hc_9
        refine gi_icmp_lt (tgt := 40) hx hb dX5_faultOfPart_27 (by decide) hg_1 (by decide) (fun c_17 => ?_) (fun c_17 => ?_)
        · replace hM := ifp hM c_17
          refine lv_iconst (v := iI 0) hx hb dX5_faultOfPart_40 (by decide) ?_
          cases hM
          exact hK_10 H locs ls hG (lv_sub hl [0, 3] rfl)
        · replace hM := ifn hM c_17
          refine lv_iload_n hx hb dX5_faultOfPart_30 rfl (lv_at hl 2 rfl) ?_
          refine lv_bipush (v := iI 6) hx hb dX5_faultOfPart_31 (by decide) ?_
          obtain ⟨hg_18, hM⟩ := gd_some hM
          refine gi_icmp_lt (tgt := 40) hx hb dX5_faultOfPart_33 (by decide) hg_18 (by decide) (fun c_19 => ?_) (fun c_19 => ?_)
          · replace hM := ifp hM c_19
            refine lv_iconst (v := iI 0) hx hb dX5_faultOfPart_40 (by decide) ?_
            cases hM
            exact hK_10 H locs ls hG (lv_sub hl [0, 3] rfl)
          · replace hM := ifn hM c_19
            refine lv_iconst (v := iI 1) hx hb dX5_faultOfPart_36 (by decide) ?_
            refine lv_goto (tgt := 41) hx hb dX5_faultOfPart_37 (by decide) ?_
            cases hM
            exact hK_10 H locs ls hG (lv_sub hl [0, 3] rfl)
      clear hM
      replace hM := hc_5
      refine gi_icmp_ne (tgt := 25) hx hb dX5_faultOfPart_15 (by decide) hg_1 (by decide) (fun c_20 => ?_) (fun c_20 => ?_)
      · replace hM := ifn hM c_20
        cases hM
        exact hK_7 H locs ls rfl hG (lv_sub hl [0, 1, 3, 4] rfl)
      · replace hM := ifp hM c_20
        refine lv_iload_n hx hb dX5_faultOfPart_18 rfl (lv_at hl 2 rfl) ?_
        refine lv_iconst (v := iI (-1)) hx hb dX5_faultOfPart_19 (by decide) ?_
        obtain ⟨hg_21, hM⟩ := gd_some hM
        refine gi_icmp_ne (tgt := 25) hx hb dX5_faultOfPart_20 (by decide) hg_21 (by decide) (fun c_22 => ?_) (fun c_22 => ?_)
        · replace hM := ifn hM c_22
          cases hM
          exact hK_7 H locs ls rfl hG (lv_sub hl [0, 1, 3, 4] rfl)
        · replace hM := ifp hM c_22
          cases hM
          exact hK_6 H locs ls rfl hG (lv_sub hl [] rfl)
    · replace hM := ifp hM c_3
      refine lv_iconst (v := iI 1) hx hb dX5_faultOfPart_11 (by decide) ?_
      cases hM
      exact g_iret S hr hlk hG hsz dX5_faultOfPart_12 ⟨Nat.le_of_ble_eq_true rfl, Nat.le_of_ble_eq_true rfl⟩ ⟨rfl, rfl⟩
theorem wV_5_198 : gWV "GrownKinds$Reader" 198 yX2_addPart cX2_addPart 4 (some .int) := ⟨wm_877, wm_878, wm_879, wm_178, wm_880, by decide +kernel, by decide +kernel⟩
def mX2_addPart_13 (S0 : St) (a1 : Int) (a2 : Int) : Option (Int × St) := nx (S0 13 3) fun x_1 => gd (inI x_1) <| if x_1 < 24 then (gd (0 ≤ x_1 ∧ x_1 < 24) <| nx (up S0 14 x_1 a1) fun S_5 => nx (up S_5 15 x_1 0) fun S_6 => nx (up S_6 16 x_1 (-1)) fun S_7 => nx (up S_7 17 x_1 (-1)) fun S_8 => nx (up S_8 18 x_1 a2) fun S_9 => nx (up S_9 13 3 ((S_9 13 3) + 1)) fun S_10 => some (x_1, S_10)) else (some ((-1), S0))
set_option maxHeartbeats 4000000 in
set_option maxRecDepth 100000 in
theorem vX2_addPart_13 (l : Launch) {D : va_G} {cy : Nat → ClassId} {b n : Nat} (hn : 102 ≤ n) {X : Nat → va_E} {S0 : St} (a1 : Int) (a2 : Int) {o1 : Int} {o2 : St} (hM : mX2_addPart_13 S0 a1 a2 = some (o1, o2)) : gI l yX2_addPart cX2_addPart 4 (some .int) 0 0 0 D cy b n (enc b cy X S0) [.ref (b + 13), .int (iI a1), .int (iI a2)] (fun r u => r = iI o1 ∧ u = (n, enc b cy X o2)) := by
  refine gI_of (by decide) (Nat.le_of_ble_eq_true rfl) ?_
  intro p e s m args below meth c S hr hlk hin hsz ls hl hG
  have hx := S.1
  have hb := S.2.1
  have hl : lv_has ls 4 [(0, .ref (b + 13)), (1, .int (iI a1)), (2, .int (iI a2))] := hl
  replace hG : gW D cy b n s s.heap [] (enc b cy X S0) := hG
  obtain ⟨H, eH⟩ : ∃ H, H = s.heap := ⟨_, rfl⟩
  obtain ⟨locs, elocs⟩ : ∃ locs : List Loc, locs = [] := ⟨_, rfl⟩
  rw [← eH, ← elocs] at hG
  rw [← eH, ← elocs]
  clear eH elocs
  unfold mX2_addPart_13 at hM
  refine lv_aload_n hx hb dX2_addPart_0 rfl (lv_at hl 0 rfl) ?_
  refine m_get S hG 13 13 3 rfl ec_13 cpX2 wm_226 dX2_addPart_1 rfl (Nat.lt_of_lt_of_le (Nat.le_of_ble_eq_true rfl) hn) (by decide) ?_
  refine gi_nm (fun x_1 ex_1 => ?_)
  replace hM := nx_at hM ex_1
  clear ex_1
  refine lv_istore_n (lv' := [(3, .int (iI x_1)), (0, .ref (b + 13)), (1, .int (iI a1)), (2, .int (iI a2))]) hx hb dX2_addPart_4 rfl hl (by decide) rfl (fun ls hl => ?_)
  refine lv_iload_n hx hb dX2_addPart_5 rfl (lv_at hl 0 rfl) ?_
  refine lv_bipush (v := iI 24) hx hb dX2_addPart_6 (by decide) ?_
  obtain ⟨hg_2, hM⟩ := gd_some hM
  refine gi_icmp_lt (tgt := 13) hx hb dX2_addPart_8 (by decide) hg_2 (by decide) (fun c_3 => ?_) (fun c_3 => ?_)
  · replace hM := ifp hM c_3
    refine lv_aload_n hx hb dX2_addPart_13 rfl (lv_at hl 1 rfl) ?_
    refine m_get S hG 13 13 5 rfl ec_13 cpX2 wm_234 dX2_addPart_14 rfl (Nat.lt_of_lt_of_le (Nat.le_of_ble_eq_true rfl) hn) (by decide) ?_
    refine lv_iload_n hx hb dX2_addPart_17 rfl (lv_at hl 0 rfl) ?_
    refine lv_iload_n hx hb dX2_addPart_18 rfl (lv_at hl 2 rfl) ?_
    obtain ⟨hg_4, hM⟩ := gd_some hM
    refine mi_ast S hG 14 14 rfl ec_14 (Nat.lt_of_lt_of_le (Nat.le_of_ble_eq_true rfl) hn) dX2_addPart_19 hg_4 (by decide) (fun H locs S_5 eS_5 hG => ?_)
    replace hM := nx_at hM eS_5
    clear eS_5
    refine lv_aload_n hx hb dX2_addPart_20 rfl (lv_at hl 1 rfl) ?_
    refine m_get S hG 13 13 6 rfl ec_13 cpX2 wm_240 dX2_addPart_21 rfl (Nat.lt_of_lt_of_le (Nat.le_of_ble_eq_true rfl) hn) (by decide) ?_
    refine lv_iload_n hx hb dX2_addPart_24 rfl (lv_at hl 0 rfl) ?_
    refine lv_iconst (v := iI 0) hx hb dX2_addPart_25 (by decide) ?_
    refine mi_ast S hG 15 15 rfl ec_15 (Nat.lt_of_lt_of_le (Nat.le_of_ble_eq_true rfl) hn) dX2_addPart_26 hg_4 (by decide) (fun H locs S_6 eS_6 hG => ?_)
    replace hM := nx_at hM eS_6
    clear eS_6
    refine lv_aload_n hx hb dX2_addPart_27 rfl (lv_at hl 1 rfl) ?_
    refine m_get S hG 13 13 7 rfl ec_13 cpX2 wm_247 dX2_addPart_28 rfl (Nat.lt_of_lt_of_le (Nat.le_of_ble_eq_true rfl) hn) (by decide) ?_
    refine lv_iload_n hx hb dX2_addPart_31 rfl (lv_at hl 0 rfl) ?_
    refine lv_iconst (v := iI (-1)) hx hb dX2_addPart_32 (by decide) ?_
    refine mi_ast S hG 16 16 rfl ec_16 (Nat.lt_of_lt_of_le (Nat.le_of_ble_eq_true rfl) hn) dX2_addPart_33 hg_4 (by decide) (fun H locs S_7 eS_7 hG => ?_)
    replace hM := nx_at hM eS_7
    clear eS_7
    refine lv_aload_n hx hb dX2_addPart_34 rfl (lv_at hl 1 rfl) ?_
    refine m_get S hG 13 13 8 rfl ec_13 cpX2 wm_254 dX2_addPart_35 rfl (Nat.lt_of_lt_of_le (Nat.le_of_ble_eq_true rfl) hn) (by decide) ?_
    refine lv_iload_n hx hb dX2_addPart_38 rfl (lv_at hl 0 rfl) ?_
    refine lv_iconst (v := iI (-1)) hx hb dX2_addPart_39 (by decide) ?_
    refine mi_ast S hG 17 17 rfl ec_17 (Nat.lt_of_lt_of_le (Nat.le_of_ble_eq_true rfl) hn) dX2_addPart_40 hg_4 (by decide) (fun H locs S_8 eS_8 hG => ?_)
    replace hM := nx_at hM eS_8
    clear eS_8
    refine lv_aload_n hx hb dX2_addPart_41 rfl (lv_at hl 1 rfl) ?_
    refine m_get S hG 13 13 9 rfl ec_13 cpX2 wm_260 dX2_addPart_42 rfl (Nat.lt_of_lt_of_le (Nat.le_of_ble_eq_true rfl) hn) (by decide) ?_
    refine lv_iload_n hx hb dX2_addPart_45 rfl (lv_at hl 0 rfl) ?_
    refine lv_iload_n hx hb dX2_addPart_46 rfl (lv_at hl 3 rfl) ?_
    refine mi_ast S hG 18 18 rfl ec_18 (Nat.lt_of_lt_of_le (Nat.le_of_ble_eq_true rfl) hn) dX2_addPart_47 hg_4 (by decide) (fun H locs S_9 eS_9 hG => ?_)
    replace hM := nx_at hM eS_9
    clear eS_9
    refine lv_aload_n hx hb dX2_addPart_48 rfl (lv_at hl 1 rfl) ?_
    refine lv_dup hx hb dX2_addPart_49 rfl ?_
    refine m_get S hG 13 13 3 rfl ec_13 cpX2 wm_226 dX2_addPart_50 rfl (Nat.lt_of_lt_of_le (Nat.le_of_ble_eq_true rfl) hn) (by decide) ?_
    refine lv_iconst (v := iI 1) hx hb dX2_addPart_53 (by decide) ?_
    refine gi_add hx hb dX2_addPart_54 ?_
    refine m_put S hG 13 13 3 rfl 3 ((S_9 13 3) + 1) ec_13 cpX2 wm_226 dX2_addPart_55 (pf_13_3) (Nat.lt_of_lt_of_le (Nat.le_of_ble_eq_true rfl) hn) (by decide) (Nat.le_of_ble_eq_true rfl) rfl rfl rfl (fun H locs S_10 eS_10 hG => ?_)
    replace hM := nx_at hM eS_10
    clear eS_10
    refine lv_iload_n hx hb dX2_addPart_58 rfl (lv_at hl 0 rfl) ?_
    cases hM
    exact g_iret S hr hlk hG hsz dX2_addPart_59 ⟨Nat.le_of_ble_eq_true rfl, Nat.le_of_ble_eq_true rfl⟩ ⟨rfl, rfl⟩
  · replace hM := ifn hM c_3
    refine lv_iconst (v := iI (-1)) hx hb dX2_addPart_11 (by decide) ?_
    cases hM
    exact g_iret S hr hlk hG hsz dX2_addPart_12 ⟨Nat.le_of_ble_eq_true rfl, Nat.le_of_ble_eq_true rfl⟩ ⟨rfl, rfl⟩
theorem wV_5_207 : gWV "GrownKinds$Reader" 207 yX5_readMany cX5_readMany 2 none := ⟨wm_885, wm_887, wm_17, wm_179, wm_888, by decide +kernel, by decide +kernel⟩
def mX5_readMany (S0 : St) (a1 : Int) : Option (St) := gd (inI (S0 12 7)) <| if (S0 12 7) = 2 then (gd (inI (S0 12 9)) <| if (S0 12 9) < 1 then (bd1 (mX5_refuse S0 2) fun S_6 => some (S_6)) else (if (S0 12 9) ≤ 7 then (gd (0 ≤ a1 ∧ a1 < 24) <| nx (up S0 15 a1 (S0 12 9)) fun S_9 => bd1 (mX5_advance S_9) fun S_11 => some (S_11)) else (bd1 (mX5_refuse S0 2) fun S_13 => some (S_13)))) else (some (S0))
set_option maxHeartbeats 4000000 in
set_option maxRecDepth 100000 in
theorem vX5_readMany (l : Launch) {D : va_G} {cy : Nat → ClassId} {b n : Nat} (hn : 102 ≤ n) {X : Nat → va_E} {S0 : St} (a1 : Int) {o1 : St} (hM : mX5_readMany S0 a1 = some o1) : gV l yX5_readMany cX5_readMany 2 2 0 0 D cy b n (enc b cy X S0) [.ref (b + 12), .int (iI a1)] (fun u => u = (n, enc b cy X o1)) := by
  refine gV_of (by decide) (Nat.le_of_ble_eq_true rfl) ?_
  intro p e s m args below meth c S hr hlk hin hsz ls hl hG
  have hx := S.1
  have hb := S.2.1
  have hl : lv_has ls 2 [(0, .ref (b + 12)), (1, .int (iI a1))] := hl
  replace hG : gW D cy b n s s.heap [] (enc b cy X S0) := hG
  obtain ⟨H, eH⟩ : ∃ H, H = s.heap := ⟨_, rfl⟩
  obtain ⟨locs, elocs⟩ : ∃ locs : List Loc, locs = [] := ⟨_, rfl⟩
  rw [← eH, ← elocs] at hG
  rw [← eH, ← elocs]
  clear eH elocs
  unfold mX5_readMany at hM
  refine lv_aload_n hx hb dX5_readMany_0 rfl (lv_at hl 0 rfl) ?_
  refine m_get S hG 12 12 7 rfl ec_12 cpX5 wm_362 dX5_readMany_1 rfl (Nat.lt_of_lt_of_le (Nat.le_of_ble_eq_true rfl) hn) (by decide) ?_
  refine lv_iconst (v := iI 2) hx hb dX5_readMany_4 (by decide) ?_
  obtain ⟨hg_1, hM⟩ := gd_some hM
  refine gi_icmp_eq (tgt := 9) hx hb dX5_readMany_5 (by decide) hg_1 (by decide) (fun c_2 => ?_) (fun c_2 => ?_)
  · replace hM := ifp hM c_2
    refine lv_aload_n hx hb dX5_readMany_9 rfl (lv_at hl 0 rfl) ?_
    refine m_get S hG 12 12 9 rfl ec_12 cpX5 wm_364 dX5_readMany_10 rfl (Nat.lt_of_lt_of_le (Nat.le_of_ble_eq_true rfl) hn) (by decide) ?_
    refine lv_iconst (v := iI 1) hx hb dX5_readMany_13 (by decide) ?_
    obtain ⟨hg_3, hM⟩ := gd_some hM
    refine gi_icmp_lt (tgt := 26) hx hb dX5_readMany_14 (by decide) hg_3 (by decide) (fun c_4 => ?_) (fun c_4 => ?_)
    · replace hM := ifp hM c_4
      refine lv_aload_n hx hb dX5_readMany_26 rfl (lv_at hl 0 rfl) ?_
      refine lv_iconst (v := iI 2) hx hb dX5_readMany_27 (by decide) ?_
      obtain ⟨S_6, hc_5, hM⟩ := bd1_some hM
      refine g_vv (As := [.int (iI 2)]) (rest := []) S hG hsz (vX5_refuse l hn 2 hc_5) wV_5_149 (ec_12 _) cpX5 (Nat.lt_of_lt_of_le (Nat.le_of_ble_eq_true rfl) hn) dX5_readMany_28 rfl hl.1 (ar := 1) (by decide +kernel) rfl ⟨Nat.le_of_ble_eq_true rfl, Nat.le_of_ble_eq_true rfl, Nat.le_of_ble_eq_true rfl, Nat.le_of_ble_eq_true rfl⟩ (Nat.le_of_ble_eq_true rfl) (fun uu H locs hp hG => ?_)
      obtain rfl := hp
      replace hG : gW D cy b n s H locs (enc b cy X S_6) := hG
      refine lv_goto (tgt := 51) hx hb dX5_readMany_31 (by decide) ?_
      cases hM
      exact g_vret S hr hlk hG hsz dX5_readMany_51 ⟨Nat.le_of_ble_eq_true rfl, Nat.le_of_ble_eq_true rfl⟩ rfl
    · replace hM := ifn hM c_4
      refine lv_aload_n hx hb dX5_readMany_17 rfl (lv_at hl 0 rfl) ?_
      refine m_get S hG 12 12 9 rfl ec_12 cpX5 wm_364 dX5_readMany_18 rfl (Nat.lt_of_lt_of_le (Nat.le_of_ble_eq_true rfl) hn) (by decide) ?_
      refine lv_bipush (v := iI 7) hx hb dX5_readMany_21 (by decide) ?_
      refine gi_icmp_le (tgt := 34) hx hb dX5_readMany_23 (by decide) hg_3 (by decide) (fun c_7 => ?_) (fun c_7 => ?_)
      · replace hM := ifp hM c_7
        refine lv_aload_n hx hb dX5_readMany_34 rfl (lv_at hl 0 rfl) ?_
        refine m_get S hG 12 12 0 rfl ec_12 cpX5 wm_352 dX5_readMany_35 rfl (Nat.lt_of_lt_of_le (Nat.le_of_ble_eq_true rfl) hn) (by decide) ?_
        refine m_get S hG 13 13 6 rfl ec_13 cpX2 wm_246 dX5_readMany_38 rfl (Nat.lt_of_lt_of_le (Nat.le_of_ble_eq_true rfl) hn) (by decide) ?_
        refine lv_iload_n hx hb dX5_readMany_41 rfl (lv_at hl 1 rfl) ?_
        refine lv_aload_n hx hb dX5_readMany_42 rfl (lv_at hl 0 rfl) ?_
        refine m_get S hG 12 12 9 rfl ec_12 cpX5 wm_364 dX5_readMany_43 rfl (Nat.lt_of_lt_of_le (Nat.le_of_ble_eq_true rfl) hn) (by decide) ?_
        obtain ⟨hg_8, hM⟩ := gd_some hM
        refine mi_ast S hG 15 15 rfl ec_15 (Nat.lt_of_lt_of_le (Nat.le_of_ble_eq_true rfl) hn) dX5_readMany_46 hg_8 (by decide) (fun H locs S_9 eS_9 hG => ?_)
        replace hM := nx_at hM eS_9
        clear eS_9
        refine lv_aload_n hx hb dX5_readMany_47 rfl (lv_at hl 0 rfl) ?_
        obtain ⟨S_11, hc_10, hM⟩ := bd1_some hM
        refine g_vv (As := []) (rest := []) S hG hsz (vX5_advance l hn  hc_10) wV_5_65 (ec_12 _) cpX5 (Nat.lt_of_lt_of_le (Nat.le_of_ble_eq_true rfl) hn) dX5_readMany_48 rfl hl.1 (ar := 0) (by decide +kernel) rfl ⟨Nat.le_of_ble_eq_true rfl, Nat.le_of_ble_eq_true rfl, Nat.le_of_ble_eq_true rfl, Nat.le_of_ble_eq_true rfl⟩ (Nat.le_of_ble_eq_true rfl) (fun uu H locs hp hG => ?_)
        obtain rfl := hp
        replace hG : gW D cy b n s H locs (enc b cy X S_11) := hG
        cases hM
        exact g_vret S hr hlk hG hsz dX5_readMany_51 ⟨Nat.le_of_ble_eq_true rfl, Nat.le_of_ble_eq_true rfl⟩ rfl
      · replace hM := ifn hM c_7
        refine lv_aload_n hx hb dX5_readMany_26 rfl (lv_at hl 0 rfl) ?_
        refine lv_iconst (v := iI 2) hx hb dX5_readMany_27 (by decide) ?_
        obtain ⟨S_13, hc_12, hM⟩ := bd1_some hM
        refine g_vv (As := [.int (iI 2)]) (rest := []) S hG hsz (vX5_refuse l hn 2 hc_12) wV_5_149 (ec_12 _) cpX5 (Nat.lt_of_lt_of_le (Nat.le_of_ble_eq_true rfl) hn) dX5_readMany_28 rfl hl.1 (ar := 1) (by decide +kernel) rfl ⟨Nat.le_of_ble_eq_true rfl, Nat.le_of_ble_eq_true rfl, Nat.le_of_ble_eq_true rfl, Nat.le_of_ble_eq_true rfl⟩ (Nat.le_of_ble_eq_true rfl) (fun uu H locs hp hG => ?_)
        obtain rfl := hp
        replace hG : gW D cy b n s H locs (enc b cy X S_13) := hG
        refine lv_goto (tgt := 51) hx hb dX5_readMany_31 (by decide) ?_
        cases hM
        exact g_vret S hr hlk hG hsz dX5_readMany_51 ⟨Nat.le_of_ble_eq_true rfl, Nat.le_of_ble_eq_true rfl⟩ rfl
  · replace hM := ifn hM c_2
    cases hM
    exact g_vret S hr hlk hG hsz dX5_readMany_8 ⟨Nat.le_of_ble_eq_true rfl, Nat.le_of_ble_eq_true rfl⟩ rfl
theorem wV_5_185 : gWV "GrownKinds$Reader" 185 yX5_readPart cX5_readPart 7 (some .int) := ⟨wm_869, wm_871, wm_14, wm_179, wm_872, by decide +kernel, by decide +kernel⟩
theorem wV_5_204 : gWV "GrownKinds$Reader" 204 yX5_readLetter cX5_readLetter 2 none := ⟨wm_881, wm_883, wm_16, wm_179, wm_884, by decide +kernel, by decide +kernel⟩
def mX5_readLetter (S0 : St) (a1 : Int) : Option (St) := gd (inI (S0 12 7)) <| if (S0 12 7) = 1 then (gd (inI ((S0 12 6) - (S0 12 8))) <| if ((S0 12 6) - (S0 12 8)) ≤ 1 then (gd (S0 12 4 = 1) <| gd (0 ≤ (S0 12 8) ∧ (S0 12 8) < 400) <| gd (0 ≤ a1 ∧ a1 < 24) <| nx (up S0 15 a1 ((S0 1 (S0 12 8)) - 97)) fun S_8 => bd1 (mX5_advance S_8) fun S_10 => some (S_10)) else (bd1 (mX5_refuse S0 2) fun S_12 => some (S_12))) else (bd1 (mX5_refuse S0 1) fun S_14 => some (S_14))
set_option maxHeartbeats 4000000 in
set_option maxRecDepth 100000 in
theorem vX5_readLetter (l : Launch) {D : va_G} {cy : Nat → ClassId} {b n : Nat} (hn : 102 ≤ n) {X : Nat → va_E} {S0 : St} (a1 : Int) {o1 : St} (hM : mX5_readLetter S0 a1 = some o1) : gV l yX5_readLetter cX5_readLetter 2 2 0 0 D cy b n (enc b cy X S0) [.ref (b + 12), .int (iI a1)] (fun u => u = (n, enc b cy X o1)) := by
  refine gV_of (by decide) (Nat.le_of_ble_eq_true rfl) ?_
  intro p e s m args below meth c S hr hlk hin hsz ls hl hG
  have hx := S.1
  have hb := S.2.1
  have hl : lv_has ls 2 [(0, .ref (b + 12)), (1, .int (iI a1))] := hl
  replace hG : gW D cy b n s s.heap [] (enc b cy X S0) := hG
  obtain ⟨H, eH⟩ : ∃ H, H = s.heap := ⟨_, rfl⟩
  obtain ⟨locs, elocs⟩ : ∃ locs : List Loc, locs = [] := ⟨_, rfl⟩
  rw [← eH, ← elocs] at hG
  rw [← eH, ← elocs]
  clear eH elocs
  unfold mX5_readLetter at hM
  refine lv_aload_n hx hb dX5_readLetter_0 rfl (lv_at hl 0 rfl) ?_
  refine m_get S hG 12 12 7 rfl ec_12 cpX5 wm_362 dX5_readLetter_1 rfl (Nat.lt_of_lt_of_le (Nat.le_of_ble_eq_true rfl) hn) (by decide) ?_
  refine lv_iconst (v := iI 1) hx hb dX5_readLetter_4 (by decide) ?_
  obtain ⟨hg_1, hM⟩ := gd_some hM
  refine gi_icmp_eq (tgt := 16) hx hb dX5_readLetter_5 (by decide) hg_1 (by decide) (fun c_2 => ?_) (fun c_2 => ?_)
  · replace hM := ifp hM c_2
    refine lv_aload_n hx hb dX5_readLetter_16 rfl (lv_at hl 0 rfl) ?_
    refine m_get S hG 12 12 6 rfl ec_12 cpX5 wm_361 dX5_readLetter_17 rfl (Nat.lt_of_lt_of_le (Nat.le_of_ble_eq_true rfl) hn) (by decide) ?_
    refine lv_aload_n hx hb dX5_readLetter_20 rfl (lv_at hl 0 rfl) ?_
    refine m_get S hG 12 12 8 rfl ec_12 cpX5 wm_363 dX5_readLetter_21 rfl (Nat.lt_of_lt_of_le (Nat.le_of_ble_eq_true rfl) hn) (by decide) ?_
    refine gi_sub hx hb dX5_readLetter_24 ?_
    refine lv_iconst (v := iI 1) hx hb dX5_readLetter_25 (by decide) ?_
    obtain ⟨hg_3, hM⟩ := gd_some hM
    refine gi_icmp_le (tgt := 37) hx hb dX5_readLetter_26 (by decide) hg_3 (by decide) (fun c_4 => ?_) (fun c_4 => ?_)
    · replace hM := ifp hM c_4
      refine lv_aload_n hx hb dX5_readLetter_37 rfl (lv_at hl 0 rfl) ?_
      refine m_get S hG 12 12 0 rfl ec_12 cpX5 wm_352 dX5_readLetter_38 rfl (Nat.lt_of_lt_of_le (Nat.le_of_ble_eq_true rfl) hn) (by decide) ?_
      refine m_get S hG 13 13 6 rfl ec_13 cpX2 wm_246 dX5_readLetter_41 rfl (Nat.lt_of_lt_of_le (Nat.le_of_ble_eq_true rfl) hn) (by decide) ?_
      refine lv_iload_n hx hb dX5_readLetter_44 rfl (lv_at hl 1 rfl) ?_
      refine lv_aload_n hx hb dX5_readLetter_45 rfl (lv_at hl 0 rfl) ?_
      obtain ⟨hg_5, hM⟩ := gd_some hM
      refine m_get (v := .ref (b + 1)) S hG 12 12 4 rfl ec_12 cpX5 wm_359 dX5_readLetter_46 (dyn12 hg_5) (Nat.lt_of_lt_of_le (Nat.le_of_ble_eq_true rfl) hn) (by decide) ?_
      refine lv_aload_n hx hb dX5_readLetter_49 rfl (lv_at hl 0 rfl) ?_
      refine m_get S hG 12 12 8 rfl ec_12 cpX5 wm_363 dX5_readLetter_50 rfl (Nat.lt_of_lt_of_le (Nat.le_of_ble_eq_true rfl) hn) (by decide) ?_
      obtain ⟨hg_6, hM⟩ := gd_some hM
      refine mb_ald S hG 1 1 rfl ec_1 (Nat.lt_of_lt_of_le (Nat.le_of_ble_eq_true rfl) hn) dX5_readLetter_53 hg_6 (by decide) ?_
      refine lv_bipush (v := iI 97) hx hb dX5_readLetter_54 (by decide) ?_
      refine gi_sub hx hb dX5_readLetter_56 ?_
      obtain ⟨hg_7, hM⟩ := gd_some hM
      refine mi_ast S hG 15 15 rfl ec_15 (Nat.lt_of_lt_of_le (Nat.le_of_ble_eq_true rfl) hn) dX5_readLetter_57 hg_7 (by decide) (fun H locs S_8 eS_8 hG => ?_)
      replace hM := nx_at hM eS_8
      clear eS_8
      refine lv_aload_n hx hb dX5_readLetter_58 rfl (lv_at hl 0 rfl) ?_
      obtain ⟨S_10, hc_9, hM⟩ := bd1_some hM
      refine g_vv (As := []) (rest := []) S hG hsz (vX5_advance l hn  hc_9) wV_5_65 (ec_12 _) cpX5 (Nat.lt_of_lt_of_le (Nat.le_of_ble_eq_true rfl) hn) dX5_readLetter_59 rfl hl.1 (ar := 0) (by decide +kernel) rfl ⟨Nat.le_of_ble_eq_true rfl, Nat.le_of_ble_eq_true rfl, Nat.le_of_ble_eq_true rfl, Nat.le_of_ble_eq_true rfl⟩ (Nat.le_of_ble_eq_true rfl) (fun uu H locs hp hG => ?_)
      obtain rfl := hp
      replace hG : gW D cy b n s H locs (enc b cy X S_10) := hG
      cases hM
      exact g_vret S hr hlk hG hsz dX5_readLetter_62 ⟨Nat.le_of_ble_eq_true rfl, Nat.le_of_ble_eq_true rfl⟩ rfl
    · replace hM := ifn hM c_4
      refine lv_aload_n hx hb dX5_readLetter_29 rfl (lv_at hl 0 rfl) ?_
      refine lv_iconst (v := iI 2) hx hb dX5_readLetter_30 (by decide) ?_
      obtain ⟨S_12, hc_11, hM⟩ := bd1_some hM
      refine g_vv (As := [.int (iI 2)]) (rest := []) S hG hsz (vX5_refuse l hn 2 hc_11) wV_5_149 (ec_12 _) cpX5 (Nat.lt_of_lt_of_le (Nat.le_of_ble_eq_true rfl) hn) dX5_readLetter_31 rfl hl.1 (ar := 1) (by decide +kernel) rfl ⟨Nat.le_of_ble_eq_true rfl, Nat.le_of_ble_eq_true rfl, Nat.le_of_ble_eq_true rfl, Nat.le_of_ble_eq_true rfl⟩ (Nat.le_of_ble_eq_true rfl) (fun uu H locs hp hG => ?_)
      obtain rfl := hp
      replace hG : gW D cy b n s H locs (enc b cy X S_12) := hG
      refine lv_goto (tgt := 62) hx hb dX5_readLetter_34 (by decide) ?_
      cases hM
      exact g_vret S hr hlk hG hsz dX5_readLetter_62 ⟨Nat.le_of_ble_eq_true rfl, Nat.le_of_ble_eq_true rfl⟩ rfl
  · replace hM := ifn hM c_2
    refine lv_aload_n hx hb dX5_readLetter_8 rfl (lv_at hl 0 rfl) ?_
    refine lv_iconst (v := iI 1) hx hb dX5_readLetter_9 (by decide) ?_
    obtain ⟨S_14, hc_13, hM⟩ := bd1_some hM
    refine g_vv (As := [.int (iI 1)]) (rest := []) S hG hsz (vX5_refuse l hn 1 hc_13) wV_5_149 (ec_12 _) cpX5 (Nat.lt_of_lt_of_le (Nat.le_of_ble_eq_true rfl) hn) dX5_readLetter_10 rfl hl.1 (ar := 1) (by decide +kernel) rfl ⟨Nat.le_of_ble_eq_true rfl, Nat.le_of_ble_eq_true rfl, Nat.le_of_ble_eq_true rfl, Nat.le_of_ble_eq_true rfl⟩ (Nat.le_of_ble_eq_true rfl) (fun uu H locs hp hG => ?_)
    obtain rfl := hp
    replace hG : gW D cy b n s H locs (enc b cy X S_14) := hG
    refine lv_goto (tgt := 62) hx hb dX5_readLetter_13 (by decide) ?_
    cases hM
    exact g_vret S hr hlk hG hsz dX5_readLetter_62 ⟨Nat.le_of_ble_eq_true rfl, Nat.le_of_ble_eq_true rfl⟩ rfl
def mX5_readExpr_2 (rec : Nat → Int → Int → St → Option (Int × St)) (a1 : Int) (a2 : Int) : Nat → Int → St → Option (Int × St)
  | 0, _, _ => none
  | f + 1, v_1, S_2 => gd (inI v_1) <| if 10 < v_1 then (some (2, S_2)) else (gd (inI (S_2 12 1)) <| if (S_2 12 1) = 0 then (bd1 (if v_1 = 10 then (some (1)) else (some (0))) fun z_16 => bd2 (rec 2 a2 z_16 S_2) fun r_20 S_21 => gd (inI (S_21 12 1)) <| if (S_21 12 1) = 0 then (if v_1 = 10 then (some (0, S_21)) else (gd (0 ≤ ((a1 * 10) + v_1) ∧ ((a1 * 10) + v_1) < 300) <| nx (up S_21 20 ((a1 * 10) + v_1) r_20) fun S_26 => gd (0 ≤ a1 ∧ a1 < 30) <| nx (up S_26 19 a1 (v_1 + 1)) fun S_28 => bd1 (mX5_isWord_12_s tx8 S_28) fun r_30 => gd (inI r_30) <| if r_30 = 0 then (some (1, S_28)) else (bd1 (mX5_advance S_28) fun S_34 => mX5_readExpr_2 rec a1 a2 f (v_1 + 1) S_34))) else (some (0, S_21))) else (some (2, S_2)))
def bX5_readExpr (rec : Nat → Int → Int → St → Option (Int × St)) (S0 : St) (a1 : Int) (a2 : Int) : Option (St) := bd2 (mX5_readExpr_2 rec a1 a2 FU 0 S0) fun t_3 S_4 => if t_3 = 0 then (some (S_4)) else (if t_3 = 1 then (some (S_4)) else (some (S_4)))
set_option maxHeartbeats 4000000 in
set_option maxRecDepth 100000 in
theorem spX5_readExpr (l : Launch) {D : va_G} {cy : Nat → ClassId} {b n : Nat} (hn : 102 ≤ n) {X : Nat → va_E} (rec : Nat → Int → Int → St → Option (Int × St)) (d : Nat) (hd : 6 ≤ d) (hr0 : ∀ (S0 : St) (a1 : Int) (a2 : Int) (o1 : Int) (o2 : St), rec 0 a1 a2 S0 = some (o1, o2) → gV l yX5_readExpr cX5_readExpr 5 d 0 0 D cy b n (enc b cy X S0) [.ref (b + 12), .int (iI a1), .int (iI a2)] (fun u => u = (n, enc b cy X o2))) (hr1 : ∀ (S0 : St) (a1 : Int) (a2 : Int) (o1 : Int) (o2 : St), rec 1 a1 a2 S0 = some (o1, o2) → gI l yX5_readPart cX5_readPart 7 (some .int) d 0 0 D cy b n (enc b cy X S0) [.ref (b + 12), .int (iI a1), .int (iI a2)] (fun r u => r = iI o1 ∧ u = (n, enc b cy X o2))) (hr2 : ∀ (S0 : St) (a1 : Int) (a2 : Int) (o1 : Int) (o2 : St), rec 2 a1 a2 S0 = some (o1, o2) → gI l yX5_readTerm cX5_readTerm 7 (some .int) d 0 0 D cy b n (enc b cy X S0) [.ref (b + 12), .int (iI a1), .int (iI a2)] (fun r u => r = iI o1 ∧ u = (n, enc b cy X o2))) (S0 : St) (a1 : Int) (a2 : Int) (o1 : St) (hM : bX5_readExpr rec S0 a1 a2 = some o1) : gV l yX5_readExpr cX5_readExpr 5 (d + 1) 0 0 D cy b n (enc b cy X S0) [.ref (b + 12), .int (iI a1), .int (iI a2)] (fun u => u = (n, enc b cy X o1)) := by
  refine gV_of (by decide) (Nat.le_of_ble_eq_true rfl) ?_
  intro p e s m args below meth c S hr hlk hin hsz ls hl hG
  have hx := S.1
  have hb := S.2.1
  have hl : lv_has ls 5 [(0, .ref (b + 12)), (1, .int (iI a1)), (2, .int (iI a2))] := hl
  replace hG : gW D cy b n s s.heap [] (enc b cy X S0) := hG
  obtain ⟨H, eH⟩ : ∃ H, H = s.heap := ⟨_, rfl⟩
  obtain ⟨locs, elocs⟩ : ∃ locs : List Loc, locs = [] := ⟨_, rfl⟩
  rw [← eH, ← elocs] at hG
  rw [← eH, ← elocs]
  clear eH elocs
  unfold bX5_readExpr at hM
  refine lv_iconst (v := iI 0) hx hb dX5_readExpr_0 (by decide) ?_
  refine lv_istore_n (lv' := [(3, .int (iI 0)), (0, .ref (b + 12)), (1, .int (iI a1)), (2, .int (iI a2))]) hx hb dX5_readExpr_1 rfl hl (by decide) rfl (fun ls hl => ?_)
  obtain ⟨t_3, S_4, hc_5, hM⟩ := bd2_some hM
  have hK_6 : ∀ (H : Heap) (locs : List Loc) (ls : Array Slot), t_3 = 0 → gW D cy b n s H locs (enc b cy X S_4) → lv_has ls 5 [] → W p l e (gRm (d + 1) 0 0) s m args below meth c H locs 0 0 (gQV D cy b s args below 0 0 (fun u => u = (n, enc b cy X o1))) (F0 m 46 ls []) := by
    intro H locs ls ht hG hl
    subst ht
    replace hM := ifp hM rfl
    cases hM
    exact g_vret S hr hlk hG hsz dX5_readExpr_46 ⟨Nat.le_of_ble_eq_true rfl, Nat.le_of_ble_eq_true rfl⟩ rfl
  have hK_7 : ∀ (H : Heap) (locs : List Loc) (ls : Array Slot), t_3 = 1 → gW D cy b n s H locs (enc b cy X S_4) → lv_has ls 5 [] → W p l e (gRm (d + 1) 0 0) s m args below meth c H locs 0 0 (gQV D cy b s args below 0 0 (fun u => u = (n, enc b cy X o1))) (F0 m 84 ls []) := by
    intro H locs ls ht hG hl
    subst ht
    replace hM := ifn hM (by decide)
    replace hM := ifp hM rfl
    cases hM
    exact g_vret S hr hlk hG hsz dX5_readExpr_84 ⟨Nat.le_of_ble_eq_true rfl, Nat.le_of_ble_eq_true rfl⟩ rfl
  have hK_8 : ∀ (H : Heap) (locs : List Loc) (ls : Array Slot), t_3 = 2 → gW D cy b n s H locs (enc b cy X S_4) → lv_has ls 5 [] → W p l e (gRm (d + 1) 0 0) s m args below meth c H locs 0 0 (gQV D cy b s args below 0 0 (fun u => u = (n, enc b cy X o1))) (F0 m 95 ls []) := by
    intro H locs ls ht hG hl
    subst ht
    replace hM := ifn hM (by decide)
    replace hM := ifn hM (by decide)
    cases hM
    exact g_vret S hr hlk hG hsz dX5_readExpr_95 ⟨Nat.le_of_ble_eq_true rfl, Nat.le_of_ble_eq_true rfl⟩ rfl
  have loop_9 : ∀ (f : Nat) (v_1 : Int) (S_2 : St) (H : Heap) (locs : List Loc) (ls : Array Slot), mX5_readExpr_2 rec a1 a2 f v_1 S_2 = some (t_3, S_4) → gW D cy b n s H locs (enc b cy X S_2) → lv_has ls 5 [(3, .int (iI v_1)), (0, .ref (b + 12)), (1, .int (iI a1)), (2, .int (iI a2))] → W p l e (gRm (d + 1) 0 0) s m args below meth c H locs 0 0 (gQV D cy b s args below 0 0 (fun u => u = (n, enc b cy X o1))) (F0 m 2 ls []) := by
    clear hM
    intro f
    induction f with
    | zero => intro v_1 S_2 H locs ls hM; rw [mX5_readExpr_2] at hM; cases hM
    | succ f_11 ih_10 =>
      intro v_1 S_2 H locs ls hM hG hl
      rw [mX5_readExpr_2] at hM
      refine lv_iload_n hx hb dX5_readExpr_2 rfl (lv_at hl 0 rfl) ?_
      refine lv_bipush (v := iI 10) hx hb dX5_readExpr_3 (by decide) ?_
      obtain ⟨hg_12, hM⟩ := gd_some hM
      refine gi_icmp_gt (tgt := 95) hx hb dX5_readExpr_5 (by decide) hg_12 (by decide) (fun c_13 => ?_) (fun c_13 => ?_)
      · replace hM := ifp hM c_13
        cases hM
        exact hK_8 H locs ls rfl hG (lv_sub hl [] rfl)
      · replace hM := ifn hM c_13
        refine lv_aload_n hx hb dX5_readExpr_8 rfl (lv_at hl 1 rfl) ?_
        refine m_get S hG 12 12 1 rfl ec_12 cpX5 wm_354 dX5_readExpr_9 rfl (Nat.lt_of_lt_of_le (Nat.le_of_ble_eq_true rfl) hn) (by decide) ?_
        obtain ⟨hg_14, hM⟩ := gd_some hM
        refine gi_if_ne (tgt := 95) hx hb dX5_readExpr_12 (by decide) hg_14 (fun c_15 => ?_) (fun c_15 => ?_)
        · replace hM := ifn hM c_15
          cases hM
          exact hK_8 H locs ls rfl hG (lv_sub hl [] rfl)
        · replace hM := ifp hM c_15
          refine lv_aload_n hx hb dX5_readExpr_15 rfl (lv_at hl 1 rfl) ?_
          refine lv_iload_n hx hb dX5_readExpr_16 rfl (lv_at hl 3 rfl) ?_
          refine lv_iload_n hx hb dX5_readExpr_17 rfl (lv_at hl 0 rfl) ?_
          refine lv_bipush (v := iI 10) hx hb dX5_readExpr_18 (by decide) ?_
          obtain ⟨z_16, hc_17, hM⟩ := bd1_some hM
          have hK_18 : ∀ (H : Heap) (locs : List Loc) (ls : Array Slot), gW D cy b n s H locs (enc b cy X S_2) → lv_has ls 5 [(3, .int (iI v_1)), (0, .ref (b + 12)), (1, .int (iI a1)), (2, .int (iI a2))] → W p l e (gRm (d + 1) 0 0) s m args below meth c H locs 0 0 (gQV D cy b s args below 0 0 (fun u => u = (n, enc b cy X o1))) (F0 m 28 ls [.int (iI z_16), .int (iI a2), .ref (b + 12)]) := by
            intro H locs ls hG hl
            obtain ⟨r_20, S_21, hc_19, hM⟩ := bd2_some hM
            refine g_vi (As := [.int (iI a2), .int (iI z_16)]) (rest := []) S hG hsz (hr2 _ a2 z_16 _ _ hc_19) wV_5_178 (ec_12 _) cpX5 (Nat.lt_of_lt_of_le (Nat.le_of_ble_eq_true rfl) hn) dX5_readExpr_28 rfl hl.1 (ar := 2) (by decide +kernel) rfl (by refine ⟨?_, ?_, ?_, ?_⟩ <;> first | exact Nat.le_of_ble_eq_true rfl | (simp only [gRm]; omega)) (Nat.le_of_ble_eq_true rfl) (fun rv uu H locs hp hG => ?_)
            obtain ⟨rfl, rfl⟩ := hp
            replace hG : gW D cy b n s H locs (enc b cy X S_21) := hG
            refine lv_istore (lv' := [(4, .int (iI r_20)), (3, .int (iI v_1)), (0, .ref (b + 12)), (1, .int (iI a1)), (2, .int (iI a2))]) hx hb dX5_readExpr_31 hl (by decide) rfl (fun ls hl => ?_)
            refine lv_aload_n hx hb dX5_readExpr_33 rfl (lv_at hl 2 rfl) ?_
            refine m_get S hG 12 12 1 rfl ec_12 cpX5 wm_354 dX5_readExpr_34 rfl (Nat.lt_of_lt_of_le (Nat.le_of_ble_eq_true rfl) hn) (by decide) ?_
            obtain ⟨hg_22, hM⟩ := gd_some hM
            refine gi_if_ne (tgt := 46) hx hb dX5_readExpr_37 (by decide) hg_22 (fun c_23 => ?_) (fun c_23 => ?_)
            · replace hM := ifn hM c_23
              cases hM
              exact hK_6 H locs ls rfl hG (lv_sub hl [] rfl)
            · replace hM := ifp hM c_23
              refine lv_iload_n hx hb dX5_readExpr_40 rfl (lv_at hl 1 rfl) ?_
              refine lv_bipush (v := iI 10) hx hb dX5_readExpr_41 (by decide) ?_
              refine gi_icmp_ne (tgt := 47) hx hb dX5_readExpr_43 (by decide) hg_12 (by decide) (fun c_24 => ?_) (fun c_24 => ?_)
              · replace hM := ifn hM c_24
                refine lv_aload_n hx hb dX5_readExpr_47 rfl (lv_at hl 2 rfl) ?_
                refine m_get S hG 12 12 0 rfl ec_12 cpX5 wm_352 dX5_readExpr_48 rfl (Nat.lt_of_lt_of_le (Nat.le_of_ble_eq_true rfl) hn) (by decide) ?_
                refine m_get S hG 13 13 11 rfl ec_13 cpX2 wm_270 dX5_readExpr_51 rfl (Nat.lt_of_lt_of_le (Nat.le_of_ble_eq_true rfl) hn) (by decide) ?_
                refine lv_iload_n hx hb dX5_readExpr_54 rfl (lv_at hl 3 rfl) ?_
                refine lv_bipush (v := iI 10) hx hb dX5_readExpr_55 (by decide) ?_
                refine gi_mul hx hb dX5_readExpr_57 ?_
                refine lv_iload_n hx hb dX5_readExpr_58 rfl (lv_at hl 1 rfl) ?_
                refine gi_add hx hb dX5_readExpr_59 ?_
                refine lv_iload hx hb dX5_readExpr_60 (lv_at hl 0 rfl) ?_
                obtain ⟨hg_25, hM⟩ := gd_some hM
                refine mi_ast S hG 20 20 rfl ec_20 (Nat.lt_of_lt_of_le (Nat.le_of_ble_eq_true rfl) hn) dX5_readExpr_62 hg_25 (by decide) (fun H locs S_26 eS_26 hG => ?_)
                replace hM := nx_at hM eS_26
                clear eS_26
                refine lv_aload_n hx hb dX5_readExpr_63 rfl (lv_at hl 2 rfl) ?_
                refine m_get S hG 12 12 0 rfl ec_12 cpX5 wm_352 dX5_readExpr_64 rfl (Nat.lt_of_lt_of_le (Nat.le_of_ble_eq_true rfl) hn) (by decide) ?_
                refine m_get S hG 13 13 10 rfl ec_13 cpX2 wm_268 dX5_readExpr_67 rfl (Nat.lt_of_lt_of_le (Nat.le_of_ble_eq_true rfl) hn) (by decide) ?_
                refine lv_iload_n hx hb dX5_readExpr_70 rfl (lv_at hl 3 rfl) ?_
                refine lv_iload_n hx hb dX5_readExpr_71 rfl (lv_at hl 1 rfl) ?_
                refine lv_iconst (v := iI 1) hx hb dX5_readExpr_72 (by decide) ?_
                refine gi_add hx hb dX5_readExpr_73 ?_
                obtain ⟨hg_27, hM⟩ := gd_some hM
                refine mi_ast S hG 19 19 rfl ec_19 (Nat.lt_of_lt_of_le (Nat.le_of_ble_eq_true rfl) hn) dX5_readExpr_74 hg_27 (by decide) (fun H locs S_28 eS_28 hG => ?_)
                replace hM := nx_at hM eS_28
                clear eS_28
                refine lv_aload_n hx hb dX5_readExpr_75 rfl (lv_at hl 2 rfl) ?_
                refine va_ldcS (own := "GrownKinds$Reader") (index := 141) (tx := "or") hx hb S.2.2.2.1 (hG.1.2.1.2.1 8 _ rfl).1 dX5_readExpr_76 ?_
                obtain ⟨r_30, hc_29, hM⟩ := bd1_some hM
                refine g_vi (As := [.ref (cy (10 + 8))]) (rest := []) S hG hsz (vX5_isWord_12_s l hn hs8   hc_29) wV_5_123 (ec_12 _) cpX5 (Nat.lt_of_lt_of_le (Nat.le_of_ble_eq_true rfl) hn) dX5_readExpr_78 rfl hl.1 (ar := 1) (by decide +kernel) rfl (by refine ⟨?_, ?_, ?_, ?_⟩ <;> first | exact Nat.le_of_ble_eq_true rfl | (simp only [gRm]; omega)) (Nat.le_of_ble_eq_true rfl) (fun rv uu H locs hp hG => ?_)
                obtain ⟨rfl, rfl⟩ := hp
                replace hG : gW D cy b n s H locs (enc b cy X S_28) := hG
                obtain ⟨hg_31, hM⟩ := gd_some hM
                refine gi_if_ne (tgt := 85) hx hb dX5_readExpr_81 (by decide) hg_31 (fun c_32 => ?_) (fun c_32 => ?_)
                · replace hM := ifn hM c_32
                  refine lv_aload_n hx hb dX5_readExpr_85 rfl (lv_at hl 2 rfl) ?_
                  obtain ⟨S_34, hc_33, hM⟩ := bd1_some hM
                  refine g_vv (As := []) (rest := []) S hG hsz (vX5_advance l hn  hc_33) wV_5_65 (ec_12 _) cpX5 (Nat.lt_of_lt_of_le (Nat.le_of_ble_eq_true rfl) hn) dX5_readExpr_86 rfl hl.1 (ar := 0) (by decide +kernel) rfl (by refine ⟨?_, ?_, ?_, ?_⟩ <;> first | exact Nat.le_of_ble_eq_true rfl | (simp only [gRm]; omega)) (Nat.le_of_ble_eq_true rfl) (fun uu H locs hp hG => ?_)
                  obtain rfl := hp
                  replace hG : gW D cy b n s H locs (enc b cy X S_34) := hG
                  refine lv_iinc (v := iI (v_1 + 1)) (lv' := [(3, .int (iI (v_1 + 1))), (4, .int (iI r_20)), (0, .ref (b + 12)), (1, .int (iI a1)), (2, .int (iI a2))]) hx hb dX5_readExpr_89 hl (k := 1) rfl ((iI_add v_1 (1)).trans (congrArg iI (by omega))) (by decide) rfl (fun ls hl => ?_)
                  refine lv_goto (tgt := 2) hx hb dX5_readExpr_92 (by decide) ?_
                  exact ih_10 (v_1 + 1) S_34 H locs ls hM hG (lv_sub hl [0, 2, 3, 4] rfl)
                · replace hM := ifp hM c_32
                  cases hM
                  exact hK_7 H locs ls rfl hG (lv_sub hl [] rfl)
              · replace hM := ifp hM c_24
                cases hM
                exact hK_6 H locs ls rfl hG (lv_sub hl [] rfl)
          clear hM
          replace hM := hc_17
          refine gi_icmp_ne (tgt := 27) hx hb dX5_readExpr_20 (by decide) hg_12 (by decide) (fun c_35 => ?_) (fun c_35 => ?_)
          · replace hM := ifn hM c_35
            refine lv_iconst (v := iI 0) hx hb dX5_readExpr_27 (by decide) ?_
            cases hM
            exact hK_18 H locs ls hG (lv_sub hl [0, 1, 2, 3] rfl)
          · replace hM := ifp hM c_35
            refine lv_iconst (v := iI 1) hx hb dX5_readExpr_23 (by decide) ?_
            refine lv_goto (tgt := 28) hx hb dX5_readExpr_24 (by decide) ?_
            cases hM
            exact hK_18 H locs ls hG (lv_sub hl [0, 1, 2, 3] rfl)
  exact loop_9 FU 0 S0 H locs ls hc_5 hG (lv_sub hl [0, 1, 2, 3] rfl)
def bX5_readPart (rec : Nat → Int → Int → St → Option (Int × St)) (S0 : St) (a1 : Int) (a2 : Int) : Option (Int × St) := bd1 (mX5_partBegun S0) fun r_2 => bd1 (gd (inI r_2) <| if r_2 = 2 then (bd1 (mX5_kindNamed S0) fun r_57 => some (r_57)) else (some ((-1)))) fun z_3 => bd1 (mX5_faultOfPart S0 r_2 z_3 a1 a2) fun r_7 => bd2 (gd (inI r_7) <| if r_7 = 0 then (bd2 (mX2_addPart_13 S0 r_2 (S0 12 10)) fun r_52 S_53 => some (r_52, S_53)) else (some ((-1), S0))) fun z_8 S_9 => gd (inI z_8) <| if z_8 = (-1) then (gd (inI r_7) <| if r_7 = 0 then (bd1 (mX5_refuse S_9 3) fun S_48 => some ((-1), S_48)) else (bd1 (mX5_refuse S_9 r_7) fun S_46 => some ((-1), S_46))) else (bd1 (gd (inI r_2) <| if r_2 = 2 then (gd (0 ≤ z_8 ∧ z_8 < 24) <| nx (up S_9 15 z_8 z_3) fun S_42 => some (S_42)) else (some (S_9))) fun S_14 => bd1 (mX5_advance S_14) fun S_18 => gd (inI r_2) <| if r_2 = 0 then (bd1 (mX5_readLetter S_18 z_8) fun S_38 => some (z_8, S_38)) else (if r_2 = 7 then (bd2 (rec 0 (6 + z_8) (a1 + 1) S_18) fun r_34 S_33 => bd1 (mX5_expectSign S_33 41) fun S_36 => some (z_8, S_36)) else (if r_2 < 3 then (some (z_8, S_18)) else (bd1 (mX5_readMany S_18 z_8) fun S_24 => gd (inI (S_24 12 1)) <| if (S_24 12 1) = 0 then (bd2 (rec 1 (a1 + 1) 0 S_24) fun r_28 S_29 => gd (0 ≤ z_8 ∧ z_8 < 24) <| nx (up S_29 16 z_8 r_28) fun S_31 => some (z_8, S_31)) else (some (z_8, S_24))))))
set_option maxHeartbeats 4000000 in
set_option maxRecDepth 100000 in
theorem spX5_readPart (l : Launch) {D : va_G} {cy : Nat → ClassId} {b n : Nat} (hn : 102 ≤ n) {X : Nat → va_E} (rec : Nat → Int → Int → St → Option (Int × St)) (d : Nat) (hd : 6 ≤ d) (hr0 : ∀ (S0 : St) (a1 : Int) (a2 : Int) (o1 : Int) (o2 : St), rec 0 a1 a2 S0 = some (o1, o2) → gV l yX5_readExpr cX5_readExpr 5 d 0 0 D cy b n (enc b cy X S0) [.ref (b + 12), .int (iI a1), .int (iI a2)] (fun u => u = (n, enc b cy X o2))) (hr1 : ∀ (S0 : St) (a1 : Int) (a2 : Int) (o1 : Int) (o2 : St), rec 1 a1 a2 S0 = some (o1, o2) → gI l yX5_readPart cX5_readPart 7 (some .int) d 0 0 D cy b n (enc b cy X S0) [.ref (b + 12), .int (iI a1), .int (iI a2)] (fun r u => r = iI o1 ∧ u = (n, enc b cy X o2))) (hr2 : ∀ (S0 : St) (a1 : Int) (a2 : Int) (o1 : Int) (o2 : St), rec 2 a1 a2 S0 = some (o1, o2) → gI l yX5_readTerm cX5_readTerm 7 (some .int) d 0 0 D cy b n (enc b cy X S0) [.ref (b + 12), .int (iI a1), .int (iI a2)] (fun r u => r = iI o1 ∧ u = (n, enc b cy X o2))) (S0 : St) (a1 : Int) (a2 : Int) (o1 : Int) (o2 : St) (hM : bX5_readPart rec S0 a1 a2 = some (o1, o2)) : gI l yX5_readPart cX5_readPart 7 (some .int) (d + 1) 0 0 D cy b n (enc b cy X S0) [.ref (b + 12), .int (iI a1), .int (iI a2)] (fun r u => r = iI o1 ∧ u = (n, enc b cy X o2)) := by
  refine gI_of (by decide) (Nat.le_of_ble_eq_true rfl) ?_
  intro p e s m args below meth c S hr hlk hin hsz ls hl hG
  have hx := S.1
  have hb := S.2.1
  have hl : lv_has ls 7 [(0, .ref (b + 12)), (1, .int (iI a1)), (2, .int (iI a2))] := hl
  replace hG : gW D cy b n s s.heap [] (enc b cy X S0) := hG
  obtain ⟨H, eH⟩ : ∃ H, H = s.heap := ⟨_, rfl⟩
  obtain ⟨locs, elocs⟩ : ∃ locs : List Loc, locs = [] := ⟨_, rfl⟩
  rw [← eH, ← elocs] at hG
  rw [← eH, ← elocs]
  clear eH elocs
  unfold bX5_readPart at hM
  refine lv_aload_n hx hb dX5_readPart_0 rfl (lv_at hl 0 rfl) ?_
  obtain ⟨r_2, hc_1, hM⟩ := bd1_some hM
  refine g_vi (As := []) (rest := []) S hG hsz (vX5_partBegun l hn  hc_1) wV_5_165 (ec_12 _) cpX5 (Nat.lt_of_lt_of_le (Nat.le_of_ble_eq_true rfl) hn) dX5_readPart_1 rfl hl.1 (ar := 0) (by decide +kernel) rfl (by refine ⟨?_, ?_, ?_, ?_⟩ <;> first | exact Nat.le_of_ble_eq_true rfl | (simp only [gRm]; omega)) (Nat.le_of_ble_eq_true rfl) (fun rv uu H locs hp hG => ?_)
  obtain ⟨rfl, rfl⟩ := hp
  replace hG : gW D cy b n s H locs (enc b cy X S0) := hG
  refine lv_istore_n (lv' := [(3, .int (iI r_2)), (0, .ref (b + 12)), (1, .int (iI a1)), (2, .int (iI a2))]) hx hb dX5_readPart_4 rfl hl (by decide) rfl (fun ls hl => ?_)
  refine lv_iload_n hx hb dX5_readPart_5 rfl (lv_at hl 0 rfl) ?_
  refine lv_iconst (v := iI 2) hx hb dX5_readPart_6 (by decide) ?_
  obtain ⟨z_3, hc_4, hM⟩ := bd1_some hM
  have hK_5 : ∀ (H : Heap) (locs : List Loc) (ls : Array Slot), gW D cy b n s H locs (enc b cy X S0) → lv_has ls 7 [(3, .int (iI r_2)), (0, .ref (b + 12)), (1, .int (iI a1)), (2, .int (iI a2))] → W p l e (gRm (d + 1) 0 0) s m args below meth c H locs 0 0 (gQI D cy b s args below 0 0 (fun r u => r = iI o1 ∧ u = (n, enc b cy X o2))) (F0 m 18 ls [.int (iI z_3)]) := by
    intro H locs ls hG hl
    refine lv_istore (lv' := [(4, .int (iI z_3)), (3, .int (iI r_2)), (0, .ref (b + 12)), (1, .int (iI a1)), (2, .int (iI a2))]) hx hb dX5_readPart_18 hl (by decide) rfl (fun ls hl => ?_)
    refine lv_aload_n hx hb dX5_readPart_20 rfl (lv_at hl 2 rfl) ?_
    refine lv_iload_n hx hb dX5_readPart_21 rfl (lv_at hl 1 rfl) ?_
    refine lv_iload hx hb dX5_readPart_22 (lv_at hl 0 rfl) ?_
    refine lv_iload_n hx hb dX5_readPart_24 rfl (lv_at hl 3 rfl) ?_
    refine lv_iload_n hx hb dX5_readPart_25 rfl (lv_at hl 4 rfl) ?_
    obtain ⟨r_7, hc_6, hM⟩ := bd1_some hM
    refine g_vi (As := [.int (iI r_2), .int (iI z_3), .int (iI a1), .int (iI a2)]) (rest := []) S hG hsz (vX5_faultOfPart l hn r_2 z_3 a1 a2 hc_6) wV_5_194 (ec_12 _) cpX5 (Nat.lt_of_lt_of_le (Nat.le_of_ble_eq_true rfl) hn) dX5_readPart_26 rfl hl.1 (ar := 4) (by decide +kernel) rfl (by refine ⟨?_, ?_, ?_, ?_⟩ <;> first | exact Nat.le_of_ble_eq_true rfl | (simp only [gRm]; omega)) (Nat.le_of_ble_eq_true rfl) (fun rv uu H locs hp hG => ?_)
    obtain ⟨rfl, rfl⟩ := hp
    replace hG : gW D cy b n s H locs (enc b cy X S0) := hG
    refine lv_istore (lv' := [(5, .int (iI r_7)), (4, .int (iI z_3)), (3, .int (iI r_2)), (0, .ref (b + 12)), (1, .int (iI a1)), (2, .int (iI a2))]) hx hb dX5_readPart_29 hl (by decide) rfl (fun ls hl => ?_)
    refine lv_iload hx hb dX5_readPart_31 (lv_at hl 0 rfl) ?_
    obtain ⟨z_8, S_9, hc_10, hM⟩ := bd2_some hM
    have hK_11 : ∀ (H : Heap) (locs : List Loc) (ls : Array Slot), gW D cy b n s H locs (enc b cy X S_9) → lv_has ls 7 [(5, .int (iI r_7)), (4, .int (iI z_3)), (3, .int (iI r_2)), (0, .ref (b + 12)), (1, .int (iI a1))] → W p l e (gRm (d + 1) 0 0) s m args below meth c H locs 0 0 (gQI D cy b s args below 0 0 (fun r u => r = iI o1 ∧ u = (n, enc b cy X o2))) (F0 m 52 ls [.int (iI z_8)]) := by
      intro H locs ls hG hl
      refine lv_istore (lv' := [(6, .int (iI z_8)), (5, .int (iI r_7)), (4, .int (iI z_3)), (3, .int (iI r_2)), (0, .ref (b + 12)), (1, .int (iI a1))]) hx hb dX5_readPart_52 hl (by decide) rfl (fun ls hl => ?_)
      refine lv_iload hx hb dX5_readPart_54 (lv_at hl 0 rfl) ?_
      refine lv_iconst (v := iI (-1)) hx hb dX5_readPart_56 (by decide) ?_
      obtain ⟨hg_12, hM⟩ := gd_some hM
      refine gi_icmp_ne (tgt := 77) hx hb dX5_readPart_57 (by decide) hg_12 (by decide) (fun c_13 => ?_) (fun c_13 => ?_)
      · replace hM := ifn hM c_13
        refine lv_iload_n hx hb dX5_readPart_77 rfl (lv_at hl 3 rfl) ?_
        refine lv_iconst (v := iI 2) hx hb dX5_readPart_78 (by decide) ?_
        obtain ⟨S_14, hc_15, hM⟩ := bd1_some hM
        have hK_16 : ∀ (H : Heap) (locs : List Loc) (ls : Array Slot), gW D cy b n s H locs (enc b cy X S_14) → lv_has ls 7 [(6, .int (iI z_8)), (3, .int (iI r_2)), (0, .ref (b + 12)), (1, .int (iI a1))] → W p l e (gRm (d + 1) 0 0) s m args below meth c H locs 0 0 (gQI D cy b s args below 0 0 (fun r u => r = iI o1 ∧ u = (n, enc b cy X o2))) (F0 m 94 ls []) := by
          intro H locs ls hG hl
          refine lv_aload_n hx hb dX5_readPart_94 rfl (lv_at hl 2 rfl) ?_
          obtain ⟨S_18, hc_17, hM⟩ := bd1_some hM
          refine g_vv (As := []) (rest := []) S hG hsz (vX5_advance l hn  hc_17) wV_5_65 (ec_12 _) cpX5 (Nat.lt_of_lt_of_le (Nat.le_of_ble_eq_true rfl) hn) dX5_readPart_95 rfl hl.1 (ar := 0) (by decide +kernel) rfl (by refine ⟨?_, ?_, ?_, ?_⟩ <;> first | exact Nat.le_of_ble_eq_true rfl | (simp only [gRm]; omega)) (Nat.le_of_ble_eq_true rfl) (fun uu H locs hp hG => ?_)
          obtain rfl := hp
          replace hG : gW D cy b n s H locs (enc b cy X S_18) := hG
          refine lv_iload_n hx hb dX5_readPart_98 rfl (lv_at hl 1 rfl) ?_
          obtain ⟨hg_19, hM⟩ := gd_some hM
          refine gi_if_ne (tgt := 111) hx hb dX5_readPart_99 (by decide) hg_19 (fun c_20 => ?_) (fun c_20 => ?_)
          · replace hM := ifn hM c_20
            refine lv_iload_n hx hb dX5_readPart_111 rfl (lv_at hl 1 rfl) ?_
            refine lv_bipush (v := iI 7) hx hb dX5_readPart_112 (by decide) ?_
            refine gi_icmp_ne (tgt := 138) hx hb dX5_readPart_114 (by decide) hg_19 (by decide) (fun c_21 => ?_) (fun c_21 => ?_)
            · replace hM := ifn hM c_21
              refine lv_iload_n hx hb dX5_readPart_138 rfl (lv_at hl 1 rfl) ?_
              refine lv_iconst (v := iI 3) hx hb dX5_readPart_139 (by decide) ?_
              refine gi_icmp_lt (tgt := 174) hx hb dX5_readPart_140 (by decide) hg_19 (by decide) (fun c_22 => ?_) (fun c_22 => ?_)
              · replace hM := ifp hM c_22
                refine lv_iload hx hb dX5_readPart_174 (lv_at hl 0 rfl) ?_
                cases hM
                exact g_iret S hr hlk hG hsz dX5_readPart_176 ⟨Nat.le_of_ble_eq_true rfl, Nat.le_of_ble_eq_true rfl⟩ ⟨rfl, rfl⟩
              · replace hM := ifn hM c_22
                refine lv_aload_n hx hb dX5_readPart_143 rfl (lv_at hl 2 rfl) ?_
                refine lv_iload hx hb dX5_readPart_144 (lv_at hl 0 rfl) ?_
                obtain ⟨S_24, hc_23, hM⟩ := bd1_some hM
                refine g_vv (As := [.int (iI z_8)]) (rest := []) S hG hsz (vX5_readMany l hn z_8 hc_23) wV_5_207 (ec_12 _) cpX5 (Nat.lt_of_lt_of_le (Nat.le_of_ble_eq_true rfl) hn) dX5_readPart_146 rfl hl.1 (ar := 1) (by decide +kernel) rfl (by refine ⟨?_, ?_, ?_, ?_⟩ <;> first | exact Nat.le_of_ble_eq_true rfl | (simp only [gRm]; omega)) (Nat.le_of_ble_eq_true rfl) (fun uu H locs hp hG => ?_)
                obtain rfl := hp
                replace hG : gW D cy b n s H locs (enc b cy X S_24) := hG
                refine lv_aload_n hx hb dX5_readPart_149 rfl (lv_at hl 2 rfl) ?_
                refine m_get S hG 12 12 1 rfl ec_12 cpX5 wm_354 dX5_readPart_150 rfl (Nat.lt_of_lt_of_le (Nat.le_of_ble_eq_true rfl) hn) (by decide) ?_
                obtain ⟨hg_25, hM⟩ := gd_some hM
                refine gi_if_ne (tgt := 174) hx hb dX5_readPart_153 (by decide) hg_25 (fun c_26 => ?_) (fun c_26 => ?_)
                · replace hM := ifn hM c_26
                  refine lv_iload hx hb dX5_readPart_174 (lv_at hl 0 rfl) ?_
                  cases hM
                  exact g_iret S hr hlk hG hsz dX5_readPart_176 ⟨Nat.le_of_ble_eq_true rfl, Nat.le_of_ble_eq_true rfl⟩ ⟨rfl, rfl⟩
                · replace hM := ifp hM c_26
                  refine lv_aload_n hx hb dX5_readPart_156 rfl (lv_at hl 2 rfl) ?_
                  refine m_get S hG 12 12 0 rfl ec_12 cpX5 wm_352 dX5_readPart_157 rfl (Nat.lt_of_lt_of_le (Nat.le_of_ble_eq_true rfl) hn) (by decide) ?_
                  refine m_get S hG 13 13 7 rfl ec_13 cpX2 wm_253 dX5_readPart_160 rfl (Nat.lt_of_lt_of_le (Nat.le_of_ble_eq_true rfl) hn) (by decide) ?_
                  refine lv_iload hx hb dX5_readPart_163 (lv_at hl 0 rfl) ?_
                  refine lv_aload_n hx hb dX5_readPart_165 rfl (lv_at hl 2 rfl) ?_
                  refine lv_iload_n hx hb dX5_readPart_166 rfl (lv_at hl 3 rfl) ?_
                  refine lv_iconst (v := iI 1) hx hb dX5_readPart_167 (by decide) ?_
                  refine gi_add hx hb dX5_readPart_168 ?_
                  refine lv_iconst (v := iI 0) hx hb dX5_readPart_169 (by decide) ?_
                  obtain ⟨r_28, S_29, hc_27, hM⟩ := bd2_some hM
                  refine g_vi (As := [.int (iI (a1 + 1)), .int (iI 0)]) (rest := [.int (iI z_8), .ref (b + 16)]) S hG hsz (hr1 _ (a1 + 1) 0 _ _ hc_27) wV_5_185 (ec_12 _) cpX5 (Nat.lt_of_lt_of_le (Nat.le_of_ble_eq_true rfl) hn) dX5_readPart_170 rfl hl.1 (ar := 2) (by decide +kernel) rfl (by refine ⟨?_, ?_, ?_, ?_⟩ <;> first | exact Nat.le_of_ble_eq_true rfl | (simp only [gRm]; omega)) (Nat.le_of_ble_eq_true rfl) (fun rv uu H locs hp hG => ?_)
                  obtain ⟨rfl, rfl⟩ := hp
                  replace hG : gW D cy b n s H locs (enc b cy X S_29) := hG
                  obtain ⟨hg_30, hM⟩ := gd_some hM
                  refine mi_ast S hG 16 16 rfl ec_16 (Nat.lt_of_lt_of_le (Nat.le_of_ble_eq_true rfl) hn) dX5_readPart_173 hg_30 (by decide) (fun H locs S_31 eS_31 hG => ?_)
                  replace hM := nx_at hM eS_31
                  clear eS_31
                  refine lv_iload hx hb dX5_readPart_174 (lv_at hl 0 rfl) ?_
                  cases hM
                  exact g_iret S hr hlk hG hsz dX5_readPart_176 ⟨Nat.le_of_ble_eq_true rfl, Nat.le_of_ble_eq_true rfl⟩ ⟨rfl, rfl⟩
            · replace hM := ifp hM c_21
              refine lv_aload_n hx hb dX5_readPart_117 rfl (lv_at hl 2 rfl) ?_
              refine lv_bipush (v := iI 6) hx hb dX5_readPart_118 (by decide) ?_
              refine lv_iload hx hb dX5_readPart_120 (lv_at hl 0 rfl) ?_
              refine gi_add hx hb dX5_readPart_122 ?_
              refine lv_iload_n hx hb dX5_readPart_123 rfl (lv_at hl 3 rfl) ?_
              refine lv_iconst (v := iI 1) hx hb dX5_readPart_124 (by decide) ?_
              refine gi_add hx hb dX5_readPart_125 ?_
              obtain ⟨r_34, S_33, hc_32, hM⟩ := bd2_some hM
              refine g_vv (As := [.int (iI (6 + z_8)), .int (iI (a1 + 1))]) (rest := []) S hG hsz (hr0 _ (6 + z_8) (a1 + 1) _ _ hc_32) wV_5_174 (ec_12 _) cpX5 (Nat.lt_of_lt_of_le (Nat.le_of_ble_eq_true rfl) hn) dX5_readPart_126 rfl hl.1 (ar := 2) (by decide +kernel) rfl (by refine ⟨?_, ?_, ?_, ?_⟩ <;> first | exact Nat.le_of_ble_eq_true rfl | (simp only [gRm]; omega)) (Nat.le_of_ble_eq_true rfl) (fun uu H locs hp hG => ?_)
              obtain rfl := hp
              replace hG : gW D cy b n s H locs (enc b cy X S_33) := hG
              refine lv_aload_n hx hb dX5_readPart_129 rfl (lv_at hl 2 rfl) ?_
              refine lv_bipush (v := iI 41) hx hb dX5_readPart_130 (by decide) ?_
              obtain ⟨S_36, hc_35, hM⟩ := bd1_some hM
              refine g_vv (As := [.int (iI 41)]) (rest := []) S hG hsz (vX5_expectSign l hn 41 hc_35) wV_5_162 (ec_12 _) cpX5 (Nat.lt_of_lt_of_le (Nat.le_of_ble_eq_true rfl) hn) dX5_readPart_132 rfl hl.1 (ar := 1) (by decide +kernel) rfl (by refine ⟨?_, ?_, ?_, ?_⟩ <;> first | exact Nat.le_of_ble_eq_true rfl | (simp only [gRm]; omega)) (Nat.le_of_ble_eq_true rfl) (fun uu H locs hp hG => ?_)
              obtain rfl := hp
              replace hG : gW D cy b n s H locs (enc b cy X S_36) := hG
              refine lv_goto (tgt := 174) hx hb dX5_readPart_135 (by decide) ?_
              refine lv_iload hx hb dX5_readPart_174 (lv_at hl 0 rfl) ?_
              cases hM
              exact g_iret S hr hlk hG hsz dX5_readPart_176 ⟨Nat.le_of_ble_eq_true rfl, Nat.le_of_ble_eq_true rfl⟩ ⟨rfl, rfl⟩
          · replace hM := ifp hM c_20
            refine lv_aload_n hx hb dX5_readPart_102 rfl (lv_at hl 2 rfl) ?_
            refine lv_iload hx hb dX5_readPart_103 (lv_at hl 0 rfl) ?_
            obtain ⟨S_38, hc_37, hM⟩ := bd1_some hM
            refine g_vv (As := [.int (iI z_8)]) (rest := []) S hG hsz (vX5_readLetter l hn z_8 hc_37) wV_5_204 (ec_12 _) cpX5 (Nat.lt_of_lt_of_le (Nat.le_of_ble_eq_true rfl) hn) dX5_readPart_105 rfl hl.1 (ar := 1) (by decide +kernel) rfl (by refine ⟨?_, ?_, ?_, ?_⟩ <;> first | exact Nat.le_of_ble_eq_true rfl | (simp only [gRm]; omega)) (Nat.le_of_ble_eq_true rfl) (fun uu H locs hp hG => ?_)
            obtain rfl := hp
            replace hG : gW D cy b n s H locs (enc b cy X S_38) := hG
            refine lv_goto (tgt := 174) hx hb dX5_readPart_108 (by decide) ?_
            refine lv_iload hx hb dX5_readPart_174 (lv_at hl 0 rfl) ?_
            cases hM
            exact g_iret S hr hlk hG hsz dX5_readPart_176 ⟨Nat.le_of_ble_eq_true rfl, Nat.le_of_ble_eq_true rfl⟩ ⟨rfl, rfl⟩
        clear hM
        replace hM := hc_15
        obtain ⟨hg_39, hM⟩ := gd_some hM
        refine gi_icmp_ne (tgt := 94) hx hb dX5_readPart_79 (by decide) hg_39 (by decide) (fun c_40 => ?_) (fun c_40 => ?_)
        · replace hM := ifn hM c_40
          cases hM
          exact hK_16 H locs ls hG (lv_sub hl [0, 3, 4, 5] rfl)
        · replace hM := ifp hM c_40
          refine lv_aload_n hx hb dX5_readPart_82 rfl (lv_at hl 4 rfl) ?_
          refine m_get S hG 12 12 0 rfl ec_12 cpX5 wm_352 dX5_readPart_83 rfl (Nat.lt_of_lt_of_le (Nat.le_of_ble_eq_true rfl) hn) (by decide) ?_
          refine m_get S hG 13 13 6 rfl ec_13 cpX2 wm_246 dX5_readPart_86 rfl (Nat.lt_of_lt_of_le (Nat.le_of_ble_eq_true rfl) hn) (by decide) ?_
          refine lv_iload hx hb dX5_readPart_89 (lv_at hl 0 rfl) ?_
          refine lv_iload hx hb dX5_readPart_91 (lv_at hl 2 rfl) ?_
          obtain ⟨hg_41, hM⟩ := gd_some hM
          refine mi_ast S hG 15 15 rfl ec_15 (Nat.lt_of_lt_of_le (Nat.le_of_ble_eq_true rfl) hn) dX5_readPart_93 hg_41 (by decide) (fun H locs S_42 eS_42 hG => ?_)
          replace hM := nx_at hM eS_42
          clear eS_42
          cases hM
          exact hK_16 H locs ls hG (lv_sub hl [0, 3, 4, 5] rfl)
      · replace hM := ifp hM c_13
        refine lv_aload_n hx hb dX5_readPart_60 rfl (lv_at hl 4 rfl) ?_
        refine lv_iload hx hb dX5_readPart_61 (lv_at hl 1 rfl) ?_
        obtain ⟨hg_43, hM⟩ := gd_some hM
        refine gi_if_ne (tgt := 70) hx hb dX5_readPart_63 (by decide) hg_43 (fun c_44 => ?_) (fun c_44 => ?_)
        · replace hM := ifn hM c_44
          refine lv_iload hx hb dX5_readPart_70 (lv_at hl 1 rfl) ?_
          obtain ⟨S_46, hc_45, hM⟩ := bd1_some hM
          refine g_vv (As := [.int (iI r_7)]) (rest := []) S hG hsz (vX5_refuse l hn r_7 hc_45) wV_5_149 (ec_12 _) cpX5 (Nat.lt_of_lt_of_le (Nat.le_of_ble_eq_true rfl) hn) dX5_readPart_72 rfl hl.1 (ar := 1) (by decide +kernel) rfl (by refine ⟨?_, ?_, ?_, ?_⟩ <;> first | exact Nat.le_of_ble_eq_true rfl | (simp only [gRm]; omega)) (Nat.le_of_ble_eq_true rfl) (fun uu H locs hp hG => ?_)
          obtain rfl := hp
          replace hG : gW D cy b n s H locs (enc b cy X S_46) := hG
          refine lv_iconst (v := iI (-1)) hx hb dX5_readPart_75 (by decide) ?_
          cases hM
          exact g_iret S hr hlk hG hsz dX5_readPart_76 ⟨Nat.le_of_ble_eq_true rfl, Nat.le_of_ble_eq_true rfl⟩ ⟨rfl, rfl⟩
        · replace hM := ifp hM c_44
          refine lv_iconst (v := iI 3) hx hb dX5_readPart_66 (by decide) ?_
          refine lv_goto (tgt := 72) hx hb dX5_readPart_67 (by decide) ?_
          obtain ⟨S_48, hc_47, hM⟩ := bd1_some hM
          refine g_vv (As := [.int (iI 3)]) (rest := []) S hG hsz (vX5_refuse l hn 3 hc_47) wV_5_149 (ec_12 _) cpX5 (Nat.lt_of_lt_of_le (Nat.le_of_ble_eq_true rfl) hn) dX5_readPart_72 rfl hl.1 (ar := 1) (by decide +kernel) rfl (by refine ⟨?_, ?_, ?_, ?_⟩ <;> first | exact Nat.le_of_ble_eq_true rfl | (simp only [gRm]; omega)) (Nat.le_of_ble_eq_true rfl) (fun uu H locs hp hG => ?_)
          obtain rfl := hp
          replace hG : gW D cy b n s H locs (enc b cy X S_48) := hG
          refine lv_iconst (v := iI (-1)) hx hb dX5_readPart_75 (by decide) ?_
          cases hM
          exact g_iret S hr hlk hG hsz dX5_readPart_76 ⟨Nat.le_of_ble_eq_true rfl, Nat.le_of_ble_eq_true rfl⟩ ⟨rfl, rfl⟩
    clear hM
    replace hM := hc_10
    obtain ⟨hg_49, hM⟩ := gd_some hM
    refine gi_if_ne (tgt := 51) hx hb dX5_readPart_33 (by decide) hg_49 (fun c_50 => ?_) (fun c_50 => ?_)
    · replace hM := ifn hM c_50
      refine lv_iconst (v := iI (-1)) hx hb dX5_readPart_51 (by decide) ?_
      cases hM
      exact hK_11 H locs ls hG (lv_sub hl [0, 1, 2, 3, 4] rfl)
    · replace hM := ifp hM c_50
      refine lv_aload_n hx hb dX5_readPart_36 rfl (lv_at hl 3 rfl) ?_
      refine m_get S hG 12 12 0 rfl ec_12 cpX5 wm_352 dX5_readPart_37 rfl (Nat.lt_of_lt_of_le (Nat.le_of_ble_eq_true rfl) hn) (by decide) ?_
      refine lv_iload_n hx hb dX5_readPart_40 rfl (lv_at hl 2 rfl) ?_
      refine lv_aload_n hx hb dX5_readPart_41 rfl (lv_at hl 3 rfl) ?_
      refine m_get S hG 12 12 10 rfl ec_12 cpX5 wm_365 dX5_readPart_42 rfl (Nat.lt_of_lt_of_le (Nat.le_of_ble_eq_true rfl) hn) (by decide) ?_
      obtain ⟨r_52, S_53, hc_51, hM⟩ := bd2_some hM
      refine g_vi (As := [.int (iI r_2), .int (iI (S0 12 10))]) (rest := []) S hG hsz (vX2_addPart_13 l hn r_2 (S0 12 10) hc_51) wV_5_198 (ec_13 _) cpX2 (Nat.lt_of_lt_of_le (Nat.le_of_ble_eq_true rfl) hn) dX5_readPart_45 rfl hl.1 (ar := 2) (by decide +kernel) rfl (by refine ⟨?_, ?_, ?_, ?_⟩ <;> first | exact Nat.le_of_ble_eq_true rfl | (simp only [gRm]; omega)) (Nat.le_of_ble_eq_true rfl) (fun rv uu H locs hp hG => ?_)
      obtain ⟨rfl, rfl⟩ := hp
      replace hG : gW D cy b n s H locs (enc b cy X S_53) := hG
      refine lv_goto (tgt := 52) hx hb dX5_readPart_48 (by decide) ?_
      cases hM
      exact hK_11 H locs ls hG (lv_sub hl [0, 1, 2, 3, 4] rfl)
  clear hM
  replace hM := hc_4
  obtain ⟨hg_54, hM⟩ := gd_some hM
  refine gi_icmp_ne (tgt := 17) hx hb dX5_readPart_7 (by decide) hg_54 (by decide) (fun c_55 => ?_) (fun c_55 => ?_)
  · replace hM := ifn hM c_55
    refine lv_iconst (v := iI (-1)) hx hb dX5_readPart_17 (by decide) ?_
    cases hM
    exact hK_5 H locs ls hG (lv_sub hl [0, 1, 2, 3] rfl)
  · replace hM := ifp hM c_55
    refine lv_aload_n hx hb dX5_readPart_10 rfl (lv_at hl 1 rfl) ?_
    obtain ⟨r_57, hc_56, hM⟩ := bd1_some hM
    refine g_vi (As := []) (rest := []) S hG hsz (vX5_kindNamed l hn  hc_56) wV_5_168 (ec_12 _) cpX5 (Nat.lt_of_lt_of_le (Nat.le_of_ble_eq_true rfl) hn) dX5_readPart_11 rfl hl.1 (ar := 0) (by decide +kernel) rfl (by refine ⟨?_, ?_, ?_, ?_⟩ <;> first | exact Nat.le_of_ble_eq_true rfl | (simp only [gRm]; omega)) (Nat.le_of_ble_eq_true rfl) (fun rv uu H locs hp hG => ?_)
    obtain ⟨rfl, rfl⟩ := hp
    replace hG : gW D cy b n s H locs (enc b cy X S0) := hG
    refine lv_goto (tgt := 18) hx hb dX5_readPart_14 (by decide) ?_
    cases hM
    exact hK_5 H locs ls hG (lv_sub hl [0, 1, 2, 3] rfl)
def mX5_readTerm_13 (rec : Nat → Int → Int → St → Option (Int × St)) (r_2 : Int) (a1 : Int) : Nat → Int → Int → St → Option (St)
  | 0, _, _, _ => none
  | f + 1, v_4, v_5, S_6 => gd (inI v_4) <| if 24 ≤ v_4 then (some (S_6)) else (gd (inI (S_6 12 1)) <| if (S_6 12 1) = 0 then (bd1 (mX5_isWord_12_s tx9 S_6) fun r_18 => gd (inI r_18) <| if r_18 = 0 then (some (S_6)) else (bd1 (mX5_advance S_6) fun S_22 => bd2 (rec 1 a1 0 S_22) fun r_24 S_25 => gd (inI (S_25 12 1)) <| if (S_25 12 1) = 0 then (gd (inI v_5) <| if v_5 = (-1) then (mX5_readTerm_13 rec r_2 a1 f (v_4 + 1) r_24 S_25) else (gd (0 ≤ v_5 ∧ v_5 < 24) <| nx (up S_25 17 v_5 r_24) fun S_31 => mX5_readTerm_13 rec r_2 a1 f (v_4 + 1) r_24 S_31)) else (mX5_readTerm_13 rec r_2 a1 f (v_4 + 1) r_24 S_25))) else (some (S_6)))
def bX5_readTerm (rec : Nat → Int → Int → St → Option (Int × St)) (S0 : St) (a1 : Int) (a2 : Int) : Option (Int × St) := bd2 (rec 1 a1 a2 S0) fun r_2 S_3 => bd1 (mX5_readTerm_13 rec r_2 a1 FU 0 r_2 S_3) fun S_7 => some (r_2, S_7)
set_option maxHeartbeats 4000000 in
set_option maxRecDepth 100000 in
theorem spX5_readTerm (l : Launch) {D : va_G} {cy : Nat → ClassId} {b n : Nat} (hn : 102 ≤ n) {X : Nat → va_E} (rec : Nat → Int → Int → St → Option (Int × St)) (d : Nat) (hd : 6 ≤ d) (hr0 : ∀ (S0 : St) (a1 : Int) (a2 : Int) (o1 : Int) (o2 : St), rec 0 a1 a2 S0 = some (o1, o2) → gV l yX5_readExpr cX5_readExpr 5 d 0 0 D cy b n (enc b cy X S0) [.ref (b + 12), .int (iI a1), .int (iI a2)] (fun u => u = (n, enc b cy X o2))) (hr1 : ∀ (S0 : St) (a1 : Int) (a2 : Int) (o1 : Int) (o2 : St), rec 1 a1 a2 S0 = some (o1, o2) → gI l yX5_readPart cX5_readPart 7 (some .int) d 0 0 D cy b n (enc b cy X S0) [.ref (b + 12), .int (iI a1), .int (iI a2)] (fun r u => r = iI o1 ∧ u = (n, enc b cy X o2))) (hr2 : ∀ (S0 : St) (a1 : Int) (a2 : Int) (o1 : Int) (o2 : St), rec 2 a1 a2 S0 = some (o1, o2) → gI l yX5_readTerm cX5_readTerm 7 (some .int) d 0 0 D cy b n (enc b cy X S0) [.ref (b + 12), .int (iI a1), .int (iI a2)] (fun r u => r = iI o1 ∧ u = (n, enc b cy X o2))) (S0 : St) (a1 : Int) (a2 : Int) (o1 : Int) (o2 : St) (hM : bX5_readTerm rec S0 a1 a2 = some (o1, o2)) : gI l yX5_readTerm cX5_readTerm 7 (some .int) (d + 1) 0 0 D cy b n (enc b cy X S0) [.ref (b + 12), .int (iI a1), .int (iI a2)] (fun r u => r = iI o1 ∧ u = (n, enc b cy X o2)) := by
  refine gI_of (by decide) (Nat.le_of_ble_eq_true rfl) ?_
  intro p e s m args below meth c S hr hlk hin hsz ls hl hG
  have hx := S.1
  have hb := S.2.1
  have hl : lv_has ls 7 [(0, .ref (b + 12)), (1, .int (iI a1)), (2, .int (iI a2))] := hl
  replace hG : gW D cy b n s s.heap [] (enc b cy X S0) := hG
  obtain ⟨H, eH⟩ : ∃ H, H = s.heap := ⟨_, rfl⟩
  obtain ⟨locs, elocs⟩ : ∃ locs : List Loc, locs = [] := ⟨_, rfl⟩
  rw [← eH, ← elocs] at hG
  rw [← eH, ← elocs]
  clear eH elocs
  unfold bX5_readTerm at hM
  refine lv_aload_n hx hb dX5_readTerm_0 rfl (lv_at hl 0 rfl) ?_
  refine lv_iload_n hx hb dX5_readTerm_1 rfl (lv_at hl 1 rfl) ?_
  refine lv_iload_n hx hb dX5_readTerm_2 rfl (lv_at hl 2 rfl) ?_
  obtain ⟨r_2, S_3, hc_1, hM⟩ := bd2_some hM
  refine g_vi (As := [.int (iI a1), .int (iI a2)]) (rest := []) S hG hsz (hr1 _ a1 a2 _ _ hc_1) wV_5_185 (ec_12 _) cpX5 (Nat.lt_of_lt_of_le (Nat.le_of_ble_eq_true rfl) hn) dX5_readTerm_3 rfl hl.1 (ar := 2) (by decide +kernel) rfl (by refine ⟨?_, ?_, ?_, ?_⟩ <;> first | exact Nat.le_of_ble_eq_true rfl | (simp only [gRm]; omega)) (Nat.le_of_ble_eq_true rfl) (fun rv uu H locs hp hG => ?_)
  obtain ⟨rfl, rfl⟩ := hp
  replace hG : gW D cy b n s H locs (enc b cy X S_3) := hG
  refine lv_istore_n (lv' := [(3, .int (iI r_2)), (0, .ref (b + 12)), (1, .int (iI a1)), (2, .int (iI a2))]) hx hb dX5_readTerm_6 rfl hl (by decide) rfl (fun ls hl => ?_)
  refine lv_iload_n hx hb dX5_readTerm_7 rfl (lv_at hl 0 rfl) ?_
  refine lv_istore (lv' := [(4, .int (iI r_2)), (3, .int (iI r_2)), (0, .ref (b + 12)), (1, .int (iI a1)), (2, .int (iI a2))]) hx hb dX5_readTerm_8 hl (by decide) rfl (fun ls hl => ?_)
  refine lv_iconst (v := iI 0) hx hb dX5_readTerm_10 (by decide) ?_
  refine lv_istore (lv' := [(5, .int (iI 0)), (4, .int (iI r_2)), (3, .int (iI r_2)), (0, .ref (b + 12)), (1, .int (iI a1)), (2, .int (iI a2))]) hx hb dX5_readTerm_11 hl (by decide) rfl (fun ls hl => ?_)
  obtain ⟨S_7, hc_8, hM⟩ := bd1_some hM
  have hK_9 : ∀ (H : Heap) (locs : List Loc) (ls : Array Slot), gW D cy b n s H locs (enc b cy X S_7) → lv_has ls 7 [(3, .int (iI r_2))] → W p l e (gRm (d + 1) 0 0) s m args below meth c H locs 0 0 (gQI D cy b s args below 0 0 (fun r u => r = iI o1 ∧ u = (n, enc b cy X o2))) (F0 m 83 ls []) := by
    intro H locs ls hG hl
    refine lv_iload_n hx hb dX5_readTerm_83 rfl (lv_at hl 0 rfl) ?_
    cases hM
    exact g_iret S hr hlk hG hsz dX5_readTerm_84 ⟨Nat.le_of_ble_eq_true rfl, Nat.le_of_ble_eq_true rfl⟩ ⟨rfl, rfl⟩
  have loop_10 : ∀ (f : Nat) (v_4 : Int) (v_5 : Int) (S_6 : St) (H : Heap) (locs : List Loc) (ls : Array Slot), mX5_readTerm_13 rec r_2 a1 f v_4 v_5 S_6 = some S_7 → gW D cy b n s H locs (enc b cy X S_6) → lv_has ls 7 [(5, .int (iI v_4)), (4, .int (iI v_5)), (3, .int (iI r_2)), (0, .ref (b + 12)), (1, .int (iI a1))] → W p l e (gRm (d + 1) 0 0) s m args below meth c H locs 0 0 (gQI D cy b s args below 0 0 (fun r u => r = iI o1 ∧ u = (n, enc b cy X o2))) (F0 m 13 ls []) := by
    clear hM
    intro f
    induction f with
    | zero => intro v_4 v_5 S_6 H locs ls hM; rw [mX5_readTerm_13] at hM; cases hM
    | succ f_12 ih_11 =>
      intro v_4 v_5 S_6 H locs ls hM hG hl
      rw [mX5_readTerm_13] at hM
      refine lv_iload hx hb dX5_readTerm_13 (lv_at hl 0 rfl) ?_
      refine lv_bipush (v := iI 24) hx hb dX5_readTerm_15 (by decide) ?_
      obtain ⟨hg_13, hM⟩ := gd_some hM
      refine gi_icmp_ge (tgt := 83) hx hb dX5_readTerm_17 (by decide) hg_13 (by decide) (fun c_14 => ?_) (fun c_14 => ?_)
      · replace hM := ifp hM c_14
        cases hM
        exact hK_9 H locs ls hG (lv_sub hl [2] rfl)
      · replace hM := ifn hM c_14
        refine lv_aload_n hx hb dX5_readTerm_20 rfl (lv_at hl 3 rfl) ?_
        refine m_get S hG 12 12 1 rfl ec_12 cpX5 wm_354 dX5_readTerm_21 rfl (Nat.lt_of_lt_of_le (Nat.le_of_ble_eq_true rfl) hn) (by decide) ?_
        obtain ⟨hg_15, hM⟩ := gd_some hM
        refine gi_if_ne (tgt := 83) hx hb dX5_readTerm_24 (by decide) hg_15 (fun c_16 => ?_) (fun c_16 => ?_)
        · replace hM := ifn hM c_16
          cases hM
          exact hK_9 H locs ls hG (lv_sub hl [2] rfl)
        · replace hM := ifp hM c_16
          refine lv_aload_n hx hb dX5_readTerm_27 rfl (lv_at hl 3 rfl) ?_
          refine va_ldcS (own := "GrownKinds$Reader") (index := 143) (tx := "with") hx hb S.2.2.2.1 (hG.1.2.1.2.1 9 _ rfl).1 dX5_readTerm_28 ?_
          obtain ⟨r_18, hc_17, hM⟩ := bd1_some hM
          refine g_vi (As := [.ref (cy (10 + 9))]) (rest := []) S hG hsz (vX5_isWord_12_s l hn hs9   hc_17) wV_5_123 (ec_12 _) cpX5 (Nat.lt_of_lt_of_le (Nat.le_of_ble_eq_true rfl) hn) dX5_readTerm_30 rfl hl.1 (ar := 1) (by decide +kernel) rfl (by refine ⟨?_, ?_, ?_, ?_⟩ <;> first | exact Nat.le_of_ble_eq_true rfl | (simp only [gRm]; omega)) (Nat.le_of_ble_eq_true rfl) (fun rv uu H locs hp hG => ?_)
          obtain ⟨rfl, rfl⟩ := hp
          replace hG : gW D cy b n s H locs (enc b cy X S_6) := hG
          obtain ⟨hg_19, hM⟩ := gd_some hM
          refine gi_if_eq (tgt := 83) hx hb dX5_readTerm_33 (by decide) hg_19 (fun c_20 => ?_) (fun c_20 => ?_)
          · replace hM := ifp hM c_20
            cases hM
            exact hK_9 H locs ls hG (lv_sub hl [2] rfl)
          · replace hM := ifn hM c_20
            refine lv_aload_n hx hb dX5_readTerm_36 rfl (lv_at hl 3 rfl) ?_
            obtain ⟨S_22, hc_21, hM⟩ := bd1_some hM
            refine g_vv (As := []) (rest := []) S hG hsz (vX5_advance l hn  hc_21) wV_5_65 (ec_12 _) cpX5 (Nat.lt_of_lt_of_le (Nat.le_of_ble_eq_true rfl) hn) dX5_readTerm_37 rfl hl.1 (ar := 0) (by decide +kernel) rfl (by refine ⟨?_, ?_, ?_, ?_⟩ <;> first | exact Nat.le_of_ble_eq_true rfl | (simp only [gRm]; omega)) (Nat.le_of_ble_eq_true rfl) (fun uu H locs hp hG => ?_)
            obtain rfl := hp
            replace hG : gW D cy b n s H locs (enc b cy X S_22) := hG
            refine lv_aload_n hx hb dX5_readTerm_40 rfl (lv_at hl 3 rfl) ?_
            refine lv_iload_n hx hb dX5_readTerm_41 rfl (lv_at hl 4 rfl) ?_
            refine lv_iconst (v := iI 0) hx hb dX5_readTerm_42 (by decide) ?_
            obtain ⟨r_24, S_25, hc_23, hM⟩ := bd2_some hM
            refine g_vi (As := [.int (iI a1), .int (iI 0)]) (rest := []) S hG hsz (hr1 _ a1 0 _ _ hc_23) wV_5_185 (ec_12 _) cpX5 (Nat.lt_of_lt_of_le (Nat.le_of_ble_eq_true rfl) hn) dX5_readTerm_43 rfl hl.1 (ar := 2) (by decide +kernel) rfl (by refine ⟨?_, ?_, ?_, ?_⟩ <;> first | exact Nat.le_of_ble_eq_true rfl | (simp only [gRm]; omega)) (Nat.le_of_ble_eq_true rfl) (fun rv uu H locs hp hG => ?_)
            obtain ⟨rfl, rfl⟩ := hp
            replace hG : gW D cy b n s H locs (enc b cy X S_25) := hG
            refine lv_istore (lv' := [(6, .int (iI r_24)), (5, .int (iI v_4)), (4, .int (iI v_5)), (3, .int (iI r_2)), (0, .ref (b + 12)), (1, .int (iI a1))]) hx hb dX5_readTerm_46 hl (by decide) rfl (fun ls hl => ?_)
            refine lv_aload_n hx hb dX5_readTerm_48 rfl (lv_at hl 4 rfl) ?_
            refine m_get S hG 12 12 1 rfl ec_12 cpX5 wm_354 dX5_readTerm_49 rfl (Nat.lt_of_lt_of_le (Nat.le_of_ble_eq_true rfl) hn) (by decide) ?_
            obtain ⟨hg_26, hM⟩ := gd_some hM
            refine gi_if_ne (tgt := 73) hx hb dX5_readTerm_52 (by decide) hg_26 (fun c_27 => ?_) (fun c_27 => ?_)
            · replace hM := ifn hM c_27
              refine lv_iload hx hb dX5_readTerm_73 (lv_at hl 0 rfl) ?_
              refine lv_istore (lv' := [(4, .int (iI r_24)), (6, .int (iI r_24)), (5, .int (iI v_4)), (3, .int (iI r_2)), (0, .ref (b + 12)), (1, .int (iI a1))]) hx hb dX5_readTerm_75 hl (by decide) rfl (fun ls hl => ?_)
              refine lv_iinc (v := iI (v_4 + 1)) (lv' := [(5, .int (iI (v_4 + 1))), (4, .int (iI r_24)), (6, .int (iI r_24)), (3, .int (iI r_2)), (0, .ref (b + 12)), (1, .int (iI a1))]) hx hb dX5_readTerm_77 hl (k := 2) rfl ((iI_add v_4 (1)).trans (congrArg iI (by omega))) (by decide) rfl (fun ls hl => ?_)
              refine lv_goto (tgt := 13) hx hb dX5_readTerm_80 (by decide) ?_
              exact ih_11 (v_4 + 1) r_24 S_25 H locs ls hM hG (lv_sub hl [0, 1, 3, 4, 5] rfl)
            · replace hM := ifp hM c_27
              refine lv_iload hx hb dX5_readTerm_55 (lv_at hl 2 rfl) ?_
              refine lv_iconst (v := iI (-1)) hx hb dX5_readTerm_57 (by decide) ?_
              obtain ⟨hg_28, hM⟩ := gd_some hM
              refine gi_icmp_eq (tgt := 73) hx hb dX5_readTerm_58 (by decide) hg_28 (by decide) (fun c_29 => ?_) (fun c_29 => ?_)
              · replace hM := ifp hM c_29
                refine lv_iload hx hb dX5_readTerm_73 (lv_at hl 0 rfl) ?_
                refine lv_istore (lv' := [(4, .int (iI r_24)), (6, .int (iI r_24)), (5, .int (iI v_4)), (3, .int (iI r_2)), (0, .ref (b + 12)), (1, .int (iI a1))]) hx hb dX5_readTerm_75 hl (by decide) rfl (fun ls hl => ?_)
                refine lv_iinc (v := iI (v_4 + 1)) (lv' := [(5, .int (iI (v_4 + 1))), (4, .int (iI r_24)), (6, .int (iI r_24)), (3, .int (iI r_2)), (0, .ref (b + 12)), (1, .int (iI a1))]) hx hb dX5_readTerm_77 hl (k := 2) rfl ((iI_add v_4 (1)).trans (congrArg iI (by omega))) (by decide) rfl (fun ls hl => ?_)
                refine lv_goto (tgt := 13) hx hb dX5_readTerm_80 (by decide) ?_
                exact ih_11 (v_4 + 1) r_24 S_25 H locs ls hM hG (lv_sub hl [0, 1, 3, 4, 5] rfl)
              · replace hM := ifn hM c_29
                refine lv_aload_n hx hb dX5_readTerm_61 rfl (lv_at hl 4 rfl) ?_
                refine m_get S hG 12 12 0 rfl ec_12 cpX5 wm_352 dX5_readTerm_62 rfl (Nat.lt_of_lt_of_le (Nat.le_of_ble_eq_true rfl) hn) (by decide) ?_
                refine m_get S hG 13 13 8 rfl ec_13 cpX2 wm_258 dX5_readTerm_65 rfl (Nat.lt_of_lt_of_le (Nat.le_of_ble_eq_true rfl) hn) (by decide) ?_
                refine lv_iload hx hb dX5_readTerm_68 (lv_at hl 2 rfl) ?_
                refine lv_iload hx hb dX5_readTerm_70 (lv_at hl 0 rfl) ?_
                obtain ⟨hg_30, hM⟩ := gd_some hM
                refine mi_ast S hG 17 17 rfl ec_17 (Nat.lt_of_lt_of_le (Nat.le_of_ble_eq_true rfl) hn) dX5_readTerm_72 hg_30 (by decide) (fun H locs S_31 eS_31 hG => ?_)
                replace hM := nx_at hM eS_31
                clear eS_31
                refine lv_iload hx hb dX5_readTerm_73 (lv_at hl 0 rfl) ?_
                refine lv_istore (lv' := [(4, .int (iI r_24)), (6, .int (iI r_24)), (5, .int (iI v_4)), (3, .int (iI r_2)), (0, .ref (b + 12)), (1, .int (iI a1))]) hx hb dX5_readTerm_75 hl (by decide) rfl (fun ls hl => ?_)
                refine lv_iinc (v := iI (v_4 + 1)) (lv' := [(5, .int (iI (v_4 + 1))), (4, .int (iI r_24)), (6, .int (iI r_24)), (3, .int (iI r_2)), (0, .ref (b + 12)), (1, .int (iI a1))]) hx hb dX5_readTerm_77 hl (k := 2) rfl ((iI_add v_4 (1)).trans (congrArg iI (by omega))) (by decide) rfl (fun ls hl => ?_)
                refine lv_goto (tgt := 13) hx hb dX5_readTerm_80 (by decide) ?_
                exact ih_11 (v_4 + 1) r_24 S_31 H locs ls hM hG (lv_sub hl [0, 1, 3, 4, 5] rfl)
  exact loop_10 FU 0 r_2 S_3 H locs ls hc_8 hG (lv_sub hl [0, 1, 2, 3, 4] rfl)
def RX5_readExpr : Nat → Nat → Int → Int → St → Option (Int × St)
  | 0, _, _, _, _ => none
  | f + 1, t, x1, x2, S0 => if t = 0 then (bd1 (bX5_readExpr (RX5_readExpr f) S0 x1 x2) fun S1 => some (0, S1)) else (if t = 1 then (bX5_readPart (RX5_readExpr f) S0 x1 x2) else (if t = 2 then (bX5_readTerm (RX5_readExpr f) S0 x1 x2) else (none)))
set_option maxHeartbeats 4000000 in
theorem vRX5_readExpr (l : Launch) {D : va_G} {cy : Nat → ClassId} {b n : Nat} (hn : 102 ≤ n) {X : Nat → va_E} : ∀ f : Nat, (∀ (S0 : St) (a1 : Int) (a2 : Int) (o1 : Int) (o2 : St), RX5_readExpr f 0 a1 a2 S0 = some (o1, o2) → gV l yX5_readExpr cX5_readExpr 5 (6 + f) 0 0 D cy b n (enc b cy X S0) [.ref (b + 12), .int (iI a1), .int (iI a2)] (fun u => u = (n, enc b cy X o2))) ∧ (∀ (S0 : St) (a1 : Int) (a2 : Int) (o1 : Int) (o2 : St), RX5_readExpr f 1 a1 a2 S0 = some (o1, o2) → gI l yX5_readPart cX5_readPart 7 (some .int) (6 + f) 0 0 D cy b n (enc b cy X S0) [.ref (b + 12), .int (iI a1), .int (iI a2)] (fun r u => r = iI o1 ∧ u = (n, enc b cy X o2))) ∧ (∀ (S0 : St) (a1 : Int) (a2 : Int) (o1 : Int) (o2 : St), RX5_readExpr f 2 a1 a2 S0 = some (o1, o2) → gI l yX5_readTerm cX5_readTerm 7 (some .int) (6 + f) 0 0 D cy b n (enc b cy X S0) [.ref (b + 12), .int (iI a1), .int (iI a2)] (fun r u => r = iI o1 ∧ u = (n, enc b cy X o2))) := by
  intro f
  induction f with
  | zero =>
    refine ⟨?_, ?_, ?_⟩
    all_goals
      intros; rename_i hM; rw [RX5_readExpr] at hM; cases hM
  | succ f ih =>
    obtain ⟨hr0, hr1, hr2⟩ := ih
    refine ⟨?_, ?_, ?_⟩
    · intro S0 a1 a2 o1 o2 hM
      rw [RX5_readExpr] at hM
      replace hM := ifp hM rfl
      obtain ⟨S1, hM, h3⟩ := bd1_some hM
      cases h3
      exact spX5_readExpr l hn (RX5_readExpr f) (6 + f) (Nat.le_add_right _ _) hr0 hr1 hr2 S0 a1 a2 _ hM
    · intro S0 a1 a2 o1 o2 hM
      rw [RX5_readExpr] at hM
      replace hM := ifn hM (by decide)
      replace hM := ifp hM rfl
      exact spX5_readPart l hn (RX5_readExpr f) (6 + f) (Nat.le_add_right _ _) hr0 hr1 hr2 S0 a1 a2 _ _ hM
    · intro S0 a1 a2 o1 o2 hM
      rw [RX5_readExpr] at hM
      replace hM := ifn hM (by decide)
      replace hM := ifn hM (by decide)
      replace hM := ifp hM rfl
      exact spX5_readTerm l hn (RX5_readExpr f) (6 + f) (Nat.le_add_right _ _) hr0 hr1 hr2 S0 a1 a2 _ _ hM
def mX5_readExpr (S0 : St) (a1 : Int) (a2 : Int) : Option (St) := bd2 (RX5_readExpr 40 0 a1 a2 S0) fun _ S1 => some S1
theorem vX5_readExpr (l : Launch) {D : va_G} {cy : Nat → ClassId} {b n : Nat} (hn : 102 ≤ n) {X : Nat → va_E} {S0 : St} (a1 : Int) (a2 : Int) {o1 : St} (hM : mX5_readExpr S0 a1 a2 = some o1) : gV l yX5_readExpr cX5_readExpr 5 46 0 0 D cy b n (enc b cy X S0) [.ref (b + 12), .int (iI a1), .int (iI a2)] (fun u => u = (n, enc b cy X o1)) := by
  unfold mX5_readExpr at hM
  obtain ⟨o0, S1, hM, h3⟩ := bd2_some hM
  cases h3
  exact (vRX5_readExpr l hn 40).1 S0 a1 a2 _ _ hM
def mX5_readPart (S0 : St) (a1 : Int) (a2 : Int) : Option (Int × St) := RX5_readExpr 40 1 a1 a2 S0
theorem vX5_readPart (l : Launch) {D : va_G} {cy : Nat → ClassId} {b n : Nat} (hn : 102 ≤ n) {X : Nat → va_E} {S0 : St} (a1 : Int) (a2 : Int) {o1 : Int} {o2 : St} (hM : mX5_readPart S0 a1 a2 = some (o1, o2)) : gI l yX5_readPart cX5_readPart 7 (some .int) 46 0 0 D cy b n (enc b cy X S0) [.ref (b + 12), .int (iI a1), .int (iI a2)] (fun r u => r = iI o1 ∧ u = (n, enc b cy X o2)) := by
  unfold mX5_readPart at hM
  exact (vRX5_readExpr l hn 40).2.1 S0 a1 a2 _ _ hM
def mX5_readTerm (S0 : St) (a1 : Int) (a2 : Int) : Option (Int × St) := RX5_readExpr 40 2 a1 a2 S0
theorem vX5_readTerm (l : Launch) {D : va_G} {cy : Nat → ClassId} {b n : Nat} (hn : 102 ≤ n) {X : Nat → va_E} {S0 : St} (a1 : Int) (a2 : Int) {o1 : Int} {o2 : St} (hM : mX5_readTerm S0 a1 a2 = some (o1, o2)) : gI l yX5_readTerm cX5_readTerm 7 (some .int) 46 0 0 D cy b n (enc b cy X S0) [.ref (b + 12), .int (iI a1), .int (iI a2)] (fun r u => r = iI o1 ∧ u = (n, enc b cy X o2)) := by
  unfold mX5_readTerm at hM
  exact (vRX5_readExpr l hn 40).2.2 S0 a1 a2 _ _ hM
def mX5_readLine (S0 : St)  : Option (St) := bd1 (mX5_partBegun S0) fun r_2 => gd (inI r_2) <| if r_2 = 2 then (bd1 (mX5_kindNamed S0) fun r_6 => nx (up S0 12 10 r_6) fun S_7 => gd (inI (S_7 12 10)) <| if (S_7 12 10) = (-1) then (bd1 (mX5_refuse S_7 2) fun S_11 => some (S_11)) else (gd (0 ≤ (S_7 12 10) ∧ (S_7 12 10) < 30) <| gd (inI (S_7 19 (S_7 12 10))) <| if (S_7 19 (S_7 12 10)) ≤ 0 then (bd1 (mX5_advance S_7) fun S_16 => bd1 (mX5_expectSign S_16 61) fun S_18 => bd1 (gd (inI (S_18 12 1)) <| if (S_18 12 1) = 0 then (bd1 (mX5_readExpr S_18 (S_18 12 10) 0) fun S_28 => some (S_28)) else (some (S_18))) fun S_19 => bd1 (mX5_expectSign S_19 59) fun S_23 => nx (up S_23 13 2 ((S_23 13 2) + 1)) fun S_24 => some (S_24)) else (bd1 (mX5_refuse S_7 2) fun S_30 => some (S_30)))) else (bd1 (mX5_refuse S0 1) fun S_32 => some (S_32))
set_option maxHeartbeats 4000000 in
set_option maxRecDepth 100000 in
theorem vX5_readLine (l : Launch) {D : va_G} {cy : Nat → ClassId} {b n : Nat} (hn : 102 ≤ n) {X : Nat → va_E} {S0 : St}  {o1 : St} (hM : mX5_readLine S0  = some o1) : gV l yX5_readLine cX5_readLine 1 47 0 0 D cy b n (enc b cy X S0) [.ref (b + 12)] (fun u => u = (n, enc b cy X o1)) := by
  refine gV_of (by decide) (Nat.le_of_ble_eq_true rfl) ?_
  intro p e s m args below meth c S hr hlk hin hsz ls hl hG
  have hx := S.1
  have hb := S.2.1
  have hl : lv_has ls 1 [(0, .ref (b + 12))] := hl
  replace hG : gW D cy b n s s.heap [] (enc b cy X S0) := hG
  obtain ⟨H, eH⟩ : ∃ H, H = s.heap := ⟨_, rfl⟩
  obtain ⟨locs, elocs⟩ : ∃ locs : List Loc, locs = [] := ⟨_, rfl⟩
  rw [← eH, ← elocs] at hG
  rw [← eH, ← elocs]
  clear eH elocs
  unfold mX5_readLine at hM
  refine lv_aload_n hx hb dX5_readLine_0 rfl (lv_at hl 0 rfl) ?_
  obtain ⟨r_2, hc_1, hM⟩ := bd1_some hM
  refine g_vi (As := []) (rest := []) S hG hsz (vX5_partBegun l hn  hc_1) wV_5_165 (ec_12 _) cpX5 (Nat.lt_of_lt_of_le (Nat.le_of_ble_eq_true rfl) hn) dX5_readLine_1 rfl hl.1 (ar := 0) (by decide +kernel) rfl ⟨Nat.le_of_ble_eq_true rfl, Nat.le_of_ble_eq_true rfl, Nat.le_of_ble_eq_true rfl, Nat.le_of_ble_eq_true rfl⟩ (Nat.le_of_ble_eq_true rfl) (fun rv uu H locs hp hG => ?_)
  obtain ⟨rfl, rfl⟩ := hp
  replace hG : gW D cy b n s H locs (enc b cy X S0) := hG
  refine lv_iconst (v := iI 2) hx hb dX5_readLine_4 (by decide) ?_
  obtain ⟨hg_3, hM⟩ := gd_some hM
  refine gi_icmp_eq (tgt := 14) hx hb dX5_readLine_5 (by decide) hg_3 (by decide) (fun c_4 => ?_) (fun c_4 => ?_)
  · replace hM := ifp hM c_4
    refine lv_aload_n hx hb dX5_readLine_14 rfl (lv_at hl 0 rfl) ?_
    refine lv_aload_n hx hb dX5_readLine_15 rfl (lv_at hl 0 rfl) ?_
    obtain ⟨r_6, hc_5, hM⟩ := bd1_some hM
    refine g_vi (As := []) (rest := [.ref (b + 12)]) S hG hsz (vX5_kindNamed l hn  hc_5) wV_5_168 (ec_12 _) cpX5 (Nat.lt_of_lt_of_le (Nat.le_of_ble_eq_true rfl) hn) dX5_readLine_16 rfl hl.1 (ar := 0) (by decide +kernel) rfl ⟨Nat.le_of_ble_eq_true rfl, Nat.le_of_ble_eq_true rfl, Nat.le_of_ble_eq_true rfl, Nat.le_of_ble_eq_true rfl⟩ (Nat.le_of_ble_eq_true rfl) (fun rv uu H locs hp hG => ?_)
    obtain ⟨rfl, rfl⟩ := hp
    replace hG : gW D cy b n s H locs (enc b cy X S0) := hG
    refine m_put S hG 12 12 10 rfl 10 r_6 ec_12 cpX5 wm_365 dX5_readLine_19 (pf_12_10) (Nat.lt_of_lt_of_le (Nat.le_of_ble_eq_true rfl) hn) (by decide) (Nat.le_of_ble_eq_true rfl) rfl rfl rfl (fun H locs S_7 eS_7 hG => ?_)
    replace hM := nx_at hM eS_7
    clear eS_7
    refine lv_aload_n hx hb dX5_readLine_22 rfl (lv_at hl 0 rfl) ?_
    refine m_get S hG 12 12 10 rfl ec_12 cpX5 wm_365 dX5_readLine_23 rfl (Nat.lt_of_lt_of_le (Nat.le_of_ble_eq_true rfl) hn) (by decide) ?_
    refine lv_iconst (v := iI (-1)) hx hb dX5_readLine_26 (by decide) ?_
    obtain ⟨hg_8, hM⟩ := gd_some hM
    refine gi_icmp_eq (tgt := 45) hx hb dX5_readLine_27 (by decide) hg_8 (by decide) (fun c_9 => ?_) (fun c_9 => ?_)
    · replace hM := ifp hM c_9
      refine lv_aload_n hx hb dX5_readLine_45 rfl (lv_at hl 0 rfl) ?_
      refine lv_iconst (v := iI 2) hx hb dX5_readLine_46 (by decide) ?_
      obtain ⟨S_11, hc_10, hM⟩ := bd1_some hM
      refine g_vv (As := [.int (iI 2)]) (rest := []) S hG hsz (vX5_refuse l hn 2 hc_10) wV_5_149 (ec_12 _) cpX5 (Nat.lt_of_lt_of_le (Nat.le_of_ble_eq_true rfl) hn) dX5_readLine_47 rfl hl.1 (ar := 1) (by decide +kernel) rfl ⟨Nat.le_of_ble_eq_true rfl, Nat.le_of_ble_eq_true rfl, Nat.le_of_ble_eq_true rfl, Nat.le_of_ble_eq_true rfl⟩ (Nat.le_of_ble_eq_true rfl) (fun uu H locs hp hG => ?_)
      obtain rfl := hp
      replace hG : gW D cy b n s H locs (enc b cy X S_11) := hG
      cases hM
      exact g_vret S hr hlk hG hsz dX5_readLine_50 ⟨Nat.le_of_ble_eq_true rfl, Nat.le_of_ble_eq_true rfl⟩ rfl
    · replace hM := ifn hM c_9
      refine lv_aload_n hx hb dX5_readLine_30 rfl (lv_at hl 0 rfl) ?_
      refine m_get S hG 12 12 0 rfl ec_12 cpX5 wm_352 dX5_readLine_31 rfl (Nat.lt_of_lt_of_le (Nat.le_of_ble_eq_true rfl) hn) (by decide) ?_
      refine m_get S hG 13 13 10 rfl ec_13 cpX2 wm_268 dX5_readLine_34 rfl (Nat.lt_of_lt_of_le (Nat.le_of_ble_eq_true rfl) hn) (by decide) ?_
      refine lv_aload_n hx hb dX5_readLine_37 rfl (lv_at hl 0 rfl) ?_
      refine m_get S hG 12 12 10 rfl ec_12 cpX5 wm_365 dX5_readLine_38 rfl (Nat.lt_of_lt_of_le (Nat.le_of_ble_eq_true rfl) hn) (by decide) ?_
      obtain ⟨hg_12, hM⟩ := gd_some hM
      refine mi_ald S hG 19 19 rfl ec_19 (Nat.lt_of_lt_of_le (Nat.le_of_ble_eq_true rfl) hn) dX5_readLine_41 hg_12 (by decide) ?_
      obtain ⟨hg_13, hM⟩ := gd_some hM
      refine gi_if_le (tgt := 51) hx hb dX5_readLine_42 (by decide) hg_13 (fun c_14 => ?_) (fun c_14 => ?_)
      · replace hM := ifp hM c_14
        refine lv_aload_n hx hb dX5_readLine_51 rfl (lv_at hl 0 rfl) ?_
        obtain ⟨S_16, hc_15, hM⟩ := bd1_some hM
        refine g_vv (As := []) (rest := []) S hG hsz (vX5_advance l hn  hc_15) wV_5_65 (ec_12 _) cpX5 (Nat.lt_of_lt_of_le (Nat.le_of_ble_eq_true rfl) hn) dX5_readLine_52 rfl hl.1 (ar := 0) (by decide +kernel) rfl ⟨Nat.le_of_ble_eq_true rfl, Nat.le_of_ble_eq_true rfl, Nat.le_of_ble_eq_true rfl, Nat.le_of_ble_eq_true rfl⟩ (Nat.le_of_ble_eq_true rfl) (fun uu H locs hp hG => ?_)
        obtain rfl := hp
        replace hG : gW D cy b n s H locs (enc b cy X S_16) := hG
        refine lv_aload_n hx hb dX5_readLine_55 rfl (lv_at hl 0 rfl) ?_
        refine lv_bipush (v := iI 61) hx hb dX5_readLine_56 (by decide) ?_
        obtain ⟨S_18, hc_17, hM⟩ := bd1_some hM
        refine g_vv (As := [.int (iI 61)]) (rest := []) S hG hsz (vX5_expectSign l hn 61 hc_17) wV_5_162 (ec_12 _) cpX5 (Nat.lt_of_lt_of_le (Nat.le_of_ble_eq_true rfl) hn) dX5_readLine_58 rfl hl.1 (ar := 1) (by decide +kernel) rfl ⟨Nat.le_of_ble_eq_true rfl, Nat.le_of_ble_eq_true rfl, Nat.le_of_ble_eq_true rfl, Nat.le_of_ble_eq_true rfl⟩ (Nat.le_of_ble_eq_true rfl) (fun uu H locs hp hG => ?_)
        obtain rfl := hp
        replace hG : gW D cy b n s H locs (enc b cy X S_18) := hG
        refine lv_aload_n hx hb dX5_readLine_61 rfl (lv_at hl 0 rfl) ?_
        refine m_get S hG 12 12 1 rfl ec_12 cpX5 wm_354 dX5_readLine_62 rfl (Nat.lt_of_lt_of_le (Nat.le_of_ble_eq_true rfl) hn) (by decide) ?_
        obtain ⟨S_19, hc_20, hM⟩ := bd1_some hM
        have hK_21 : ∀ (H : Heap) (locs : List Loc) (ls : Array Slot), gW D cy b n s H locs (enc b cy X S_19) → lv_has ls 1 [(0, .ref (b + 12))] → W p l e (gRm 47 0 0) s m args below meth c H locs 0 0 (gQV D cy b s args below 0 0 (fun u => u = (n, enc b cy X o1))) (F0 m 77 ls []) := by
          intro H locs ls hG hl
          refine lv_aload_n hx hb dX5_readLine_77 rfl (lv_at hl 0 rfl) ?_
          refine lv_bipush (v := iI 59) hx hb dX5_readLine_78 (by decide) ?_
          obtain ⟨S_23, hc_22, hM⟩ := bd1_some hM
          refine g_vv (As := [.int (iI 59)]) (rest := []) S hG hsz (vX5_expectSign l hn 59 hc_22) wV_5_162 (ec_12 _) cpX5 (Nat.lt_of_lt_of_le (Nat.le_of_ble_eq_true rfl) hn) dX5_readLine_80 rfl hl.1 (ar := 1) (by decide +kernel) rfl ⟨Nat.le_of_ble_eq_true rfl, Nat.le_of_ble_eq_true rfl, Nat.le_of_ble_eq_true rfl, Nat.le_of_ble_eq_true rfl⟩ (Nat.le_of_ble_eq_true rfl) (fun uu H locs hp hG => ?_)
          obtain rfl := hp
          replace hG : gW D cy b n s H locs (enc b cy X S_23) := hG
          refine lv_aload_n hx hb dX5_readLine_83 rfl (lv_at hl 0 rfl) ?_
          refine m_get S hG 12 12 0 rfl ec_12 cpX5 wm_352 dX5_readLine_84 rfl (Nat.lt_of_lt_of_le (Nat.le_of_ble_eq_true rfl) hn) (by decide) ?_
          refine lv_dup hx hb dX5_readLine_87 rfl ?_
          refine m_get S hG 13 13 2 rfl ec_13 cpX2 wm_224 dX5_readLine_88 rfl (Nat.lt_of_lt_of_le (Nat.le_of_ble_eq_true rfl) hn) (by decide) ?_
          refine lv_iconst (v := iI 1) hx hb dX5_readLine_91 (by decide) ?_
          refine gi_add hx hb dX5_readLine_92 ?_
          refine m_put S hG 13 13 2 rfl 2 ((S_23 13 2) + 1) ec_13 cpX2 wm_224 dX5_readLine_93 (pf_13_2) (Nat.lt_of_lt_of_le (Nat.le_of_ble_eq_true rfl) hn) (by decide) (Nat.le_of_ble_eq_true rfl) rfl rfl rfl (fun H locs S_24 eS_24 hG => ?_)
          replace hM := nx_at hM eS_24
          clear eS_24
          cases hM
          exact g_vret S hr hlk hG hsz dX5_readLine_96 ⟨Nat.le_of_ble_eq_true rfl, Nat.le_of_ble_eq_true rfl⟩ rfl
        clear hM
        replace hM := hc_20
        obtain ⟨hg_25, hM⟩ := gd_some hM
        refine gi_if_ne (tgt := 77) hx hb dX5_readLine_65 (by decide) hg_25 (fun c_26 => ?_) (fun c_26 => ?_)
        · replace hM := ifn hM c_26
          cases hM
          exact hK_21 H locs ls hG (lv_sub hl [0] rfl)
        · replace hM := ifp hM c_26
          refine lv_aload_n hx hb dX5_readLine_68 rfl (lv_at hl 0 rfl) ?_
          refine lv_aload_n hx hb dX5_readLine_69 rfl (lv_at hl 0 rfl) ?_
          refine m_get S hG 12 12 10 rfl ec_12 cpX5 wm_365 dX5_readLine_70 rfl (Nat.lt_of_lt_of_le (Nat.le_of_ble_eq_true rfl) hn) (by decide) ?_
          refine lv_iconst (v := iI 0) hx hb dX5_readLine_73 (by decide) ?_
          obtain ⟨S_28, hc_27, hM⟩ := bd1_some hM
          refine g_vv (As := [.int (iI (S_18 12 10)), .int (iI 0)]) (rest := []) S hG hsz (vX5_readExpr l hn (S_18 12 10) 0 hc_27) wV_5_174 (ec_12 _) cpX5 (Nat.lt_of_lt_of_le (Nat.le_of_ble_eq_true rfl) hn) dX5_readLine_74 rfl hl.1 (ar := 2) (by decide +kernel) rfl ⟨Nat.le_of_ble_eq_true rfl, Nat.le_of_ble_eq_true rfl, Nat.le_of_ble_eq_true rfl, Nat.le_of_ble_eq_true rfl⟩ (Nat.le_of_ble_eq_true rfl) (fun uu H locs hp hG => ?_)
          obtain rfl := hp
          replace hG : gW D cy b n s H locs (enc b cy X S_28) := hG
          cases hM
          exact hK_21 H locs ls hG (lv_sub hl [0] rfl)
      · replace hM := ifn hM c_14
        refine lv_aload_n hx hb dX5_readLine_45 rfl (lv_at hl 0 rfl) ?_
        refine lv_iconst (v := iI 2) hx hb dX5_readLine_46 (by decide) ?_
        obtain ⟨S_30, hc_29, hM⟩ := bd1_some hM
        refine g_vv (As := [.int (iI 2)]) (rest := []) S hG hsz (vX5_refuse l hn 2 hc_29) wV_5_149 (ec_12 _) cpX5 (Nat.lt_of_lt_of_le (Nat.le_of_ble_eq_true rfl) hn) dX5_readLine_47 rfl hl.1 (ar := 1) (by decide +kernel) rfl ⟨Nat.le_of_ble_eq_true rfl, Nat.le_of_ble_eq_true rfl, Nat.le_of_ble_eq_true rfl, Nat.le_of_ble_eq_true rfl⟩ (Nat.le_of_ble_eq_true rfl) (fun uu H locs hp hG => ?_)
        obtain rfl := hp
        replace hG : gW D cy b n s H locs (enc b cy X S_30) := hG
        cases hM
        exact g_vret S hr hlk hG hsz dX5_readLine_50 ⟨Nat.le_of_ble_eq_true rfl, Nat.le_of_ble_eq_true rfl⟩ rfl
  · replace hM := ifn hM c_4
    refine lv_aload_n hx hb dX5_readLine_8 rfl (lv_at hl 0 rfl) ?_
    refine lv_iconst (v := iI 1) hx hb dX5_readLine_9 (by decide) ?_
    obtain ⟨S_32, hc_31, hM⟩ := bd1_some hM
    refine g_vv (As := [.int (iI 1)]) (rest := []) S hG hsz (vX5_refuse l hn 1 hc_31) wV_5_149 (ec_12 _) cpX5 (Nat.lt_of_lt_of_le (Nat.le_of_ble_eq_true rfl) hn) dX5_readLine_10 rfl hl.1 (ar := 1) (by decide +kernel) rfl ⟨Nat.le_of_ble_eq_true rfl, Nat.le_of_ble_eq_true rfl, Nat.le_of_ble_eq_true rfl, Nat.le_of_ble_eq_true rfl⟩ (Nat.le_of_ble_eq_true rfl) (fun uu H locs hp hG => ?_)
    obtain rfl := hp
    replace hG : gW D cy b n s H locs (enc b cy X S_32) := hG
    cases hM
    exact g_vret S hr hlk hG hsz dX5_readLine_13 ⟨Nat.le_of_ble_eq_true rfl, Nat.le_of_ble_eq_true rfl⟩ rfl
theorem wV_5_74 : gWV "GrownKinds$Reader" 74 yX3_study cX3_study 2 none := ⟨wm_889, wm_890, wm_891, wm_180, wm_892, by decide +kernel, by decide +kernel⟩
theorem wV_3_41 : gWV "GrownKinds$Leaning" 41 yX3_findEmpty cX3_findEmpty 6 none := ⟨wm_893, wm_895, wm_18, wm_180, wm_896, by decide +kernel, by decide +kernel⟩
theorem wV_3_64 : gWV "GrownKinds$Leaning" 64 yX3_partIsEmpty cX3_partIsEmpty 3 (some .boolean) := ⟨wm_897, wm_899, wm_19, wm_180, wm_900, by decide +kernel, by decide +kernel⟩
theorem wV_3_80 : gWV "GrownKinds$Leaning" 80 yX3_isEmpty cX3_isEmpty 2 (some .boolean) := ⟨wm_917, wm_918, wm_919, wm_180, wm_920, by decide +kernel, by decide +kernel⟩
def mX3_isEmpty_26 (S0 : St) (a1 : Int) : Option (Int) := gd (inI a1) <| if a1 < 0 then (some (0)) else (gd (inI (an (shr (S0 26 1) a1) 1)) <| if (an (shr (S0 26 1) a1) 1) = 0 then (some (0)) else (some (1)))
set_option maxHeartbeats 4000000 in
set_option maxRecDepth 100000 in
theorem vX3_isEmpty_26 (l : Launch) {D : va_G} {cy : Nat → ClassId} {b n : Nat} (hn : 102 ≤ n) {X : Nat → va_E} {S0 : St} (a1 : Int) {o1 : Int} (hM : mX3_isEmpty_26 S0 a1 = some o1) : gI l yX3_isEmpty cX3_isEmpty 2 (some .boolean) 0 0 0 D cy b n (enc b cy X S0) [.ref (b + 26), .int (iI a1)] (fun r u => r = iI o1 ∧ u = (n, enc b cy X S0)) := by
  refine gI_of (by decide) (Nat.le_of_ble_eq_true rfl) ?_
  intro p e s m args below meth c S hr hlk hin hsz ls hl hG
  have hx := S.1
  have hb := S.2.1
  have hl : lv_has ls 2 [(0, .ref (b + 26)), (1, .int (iI a1))] := hl
  replace hG : gW D cy b n s s.heap [] (enc b cy X S0) := hG
  obtain ⟨H, eH⟩ : ∃ H, H = s.heap := ⟨_, rfl⟩
  obtain ⟨locs, elocs⟩ : ∃ locs : List Loc, locs = [] := ⟨_, rfl⟩
  rw [← eH, ← elocs] at hG
  rw [← eH, ← elocs]
  clear eH elocs
  unfold mX3_isEmpty_26 at hM
  refine lv_iload_n hx hb dX3_isEmpty_0 rfl (lv_at hl 1 rfl) ?_
  obtain ⟨hg_1, hM⟩ := gd_some hM
  refine gi_if_lt (tgt := 19) hx hb dX3_isEmpty_1 (by decide) hg_1 (fun c_2 => ?_) (fun c_2 => ?_)
  · replace hM := ifp hM c_2
    refine lv_iconst (v := iI 0) hx hb dX3_isEmpty_19 (by decide) ?_
    cases hM
    exact g_zret S hr hlk hG hsz dX3_isEmpty_20 ⟨Nat.le_of_ble_eq_true rfl, Nat.le_of_ble_eq_true rfl⟩ (nar_z (by decide)) ⟨rfl, rfl⟩
  · replace hM := ifn hM c_2
    refine lv_aload_n hx hb dX3_isEmpty_4 rfl (lv_at hl 0 rfl) ?_
    refine m_get S hG 26 26 1 rfl ec_26 cpX3 wm_320 dX3_isEmpty_5 rfl (Nat.lt_of_lt_of_le (Nat.le_of_ble_eq_true rfl) hn) (by decide) ?_
    refine lv_iload_n hx hb dX3_isEmpty_8 rfl (lv_at hl 1 rfl) ?_
    refine gi_shr hx hb dX3_isEmpty_9 ?_
    refine lv_iconst (v := iI 1) hx hb dX3_isEmpty_10 (by decide) ?_
    refine gi_and hx hb dX3_isEmpty_11 ?_
    obtain ⟨hg_3, hM⟩ := gd_some hM
    refine gi_if_eq (tgt := 19) hx hb dX3_isEmpty_12 (by decide) hg_3 (fun c_4 => ?_) (fun c_4 => ?_)
    · replace hM := ifp hM c_4
      refine lv_iconst (v := iI 0) hx hb dX3_isEmpty_19 (by decide) ?_
      cases hM
      exact g_zret S hr hlk hG hsz dX3_isEmpty_20 ⟨Nat.le_of_ble_eq_true rfl, Nat.le_of_ble_eq_true rfl⟩ (nar_z (by decide)) ⟨rfl, rfl⟩
    · replace hM := ifn hM c_4
      refine lv_iconst (v := iI 1) hx hb dX3_isEmpty_15 (by decide) ?_
      refine lv_goto (tgt := 20) hx hb dX3_isEmpty_16 (by decide) ?_
      cases hM
      exact g_zret S hr hlk hG hsz dX3_isEmpty_20 ⟨Nat.le_of_ble_eq_true rfl, Nat.le_of_ble_eq_true rfl⟩ (nar_z (by decide)) ⟨rfl, rfl⟩
theorem wV_3_68 : gWV "GrownKinds$Leaning" 68 yX3_exprIsEmpty cX3_exprIsEmpty 3 (some .boolean) := ⟨wm_901, wm_903, wm_20, wm_180, wm_904, by decide +kernel, by decide +kernel⟩
theorem wV_3_86 : gWV "GrownKinds$Leaning" 86 yX2_isOff cX2_isOff 3 (some .boolean) := ⟨wm_905, wm_906, wm_907, wm_178, wm_908, by decide +kernel, by decide +kernel⟩
def mX2_isOff_13 (S0 : St) (a1 : Int) (a2 : Int) : Option (Int) := gd (0 ≤ a1 ∧ a1 < 30) <| gd (inI (an (shr (S0 21 a1) a2) 1)) <| if (an (shr (S0 21 a1) a2) 1) = 0 then (some (0)) else (some (1))
set_option maxHeartbeats 4000000 in
set_option maxRecDepth 100000 in
theorem vX2_isOff_13 (l : Launch) {D : va_G} {cy : Nat → ClassId} {b n : Nat} (hn : 102 ≤ n) {X : Nat → va_E} {S0 : St} (a1 : Int) (a2 : Int) {o1 : Int} (hM : mX2_isOff_13 S0 a1 a2 = some o1) : gI l yX2_isOff cX2_isOff 3 (some .boolean) 0 0 0 D cy b n (enc b cy X S0) [.ref (b + 13), .int (iI a1), .int (iI a2)] (fun r u => r = iI o1 ∧ u = (n, enc b cy X S0)) := by
  refine gI_of (by decide) (Nat.le_of_ble_eq_true rfl) ?_
  intro p e s m args below meth c S hr hlk hin hsz ls hl hG
  have hx := S.1
  have hb := S.2.1
  have hl : lv_has ls 3 [(0, .ref (b + 13)), (1, .int (iI a1)), (2, .int (iI a2))] := hl
  replace hG : gW D cy b n s s.heap [] (enc b cy X S0) := hG
  obtain ⟨H, eH⟩ : ∃ H, H = s.heap := ⟨_, rfl⟩
  obtain ⟨locs, elocs⟩ : ∃ locs : List Loc, locs = [] := ⟨_, rfl⟩
  rw [← eH, ← elocs] at hG
  rw [← eH, ← elocs]
  clear eH elocs
  unfold mX2_isOff_13 at hM
  refine lv_aload_n hx hb dX2_isOff_0 rfl (lv_at hl 0 rfl) ?_
  refine m_get S hG 13 13 12 rfl ec_13 cpX2 wm_271 dX2_isOff_1 rfl (Nat.lt_of_lt_of_le (Nat.le_of_ble_eq_true rfl) hn) (by decide) ?_
  refine lv_iload_n hx hb dX2_isOff_4 rfl (lv_at hl 1 rfl) ?_
  obtain ⟨hg_1, hM⟩ := gd_some hM
  refine mi_ald S hG 21 21 rfl ec_21 (Nat.lt_of_lt_of_le (Nat.le_of_ble_eq_true rfl) hn) dX2_isOff_5 hg_1 (by decide) ?_
  refine lv_iload_n hx hb dX2_isOff_6 rfl (lv_at hl 2 rfl) ?_
  refine gi_shr hx hb dX2_isOff_7 ?_
  refine lv_iconst (v := iI 1) hx hb dX2_isOff_8 (by decide) ?_
  refine gi_and hx hb dX2_isOff_9 ?_
  obtain ⟨hg_2, hM⟩ := gd_some hM
  refine gi_if_eq (tgt := 17) hx hb dX2_isOff_10 (by decide) hg_2 (fun c_3 => ?_) (fun c_3 => ?_)
  · replace hM := ifp hM c_3
    refine lv_iconst (v := iI 0) hx hb dX2_isOff_17 (by decide) ?_
    cases hM
    exact g_zret S hr hlk hG hsz dX2_isOff_18 ⟨Nat.le_of_ble_eq_true rfl, Nat.le_of_ble_eq_true rfl⟩ (nar_z (by decide)) ⟨rfl, rfl⟩
  · replace hM := ifn hM c_3
    refine lv_iconst (v := iI 1) hx hb dX2_isOff_13 (by decide) ?_
    refine lv_goto (tgt := 18) hx hb dX2_isOff_14 (by decide) ?_
    cases hM
    exact g_zret S hr hlk hG hsz dX2_isOff_18 ⟨Nat.le_of_ble_eq_true rfl, Nat.le_of_ble_eq_true rfl⟩ (nar_z (by decide)) ⟨rfl, rfl⟩
theorem wV_3_90 : gWV "GrownKinds$Leaning" 90 yX2_start cX2_start 3 (some .int) := ⟨wm_909, wm_910, wm_911, wm_178, wm_912, by decide +kernel, by decide +kernel⟩
def mX2_start_13 (S0 : St) (a1 : Int) (a2 : Int) : Option (Int) := gd (0 ≤ ((a1 * 10) + a2) ∧ ((a1 * 10) + a2) < 300) <| some ((S0 20 ((a1 * 10) + a2)))
set_option maxHeartbeats 4000000 in
set_option maxRecDepth 100000 in
theorem vX2_start_13 (l : Launch) {D : va_G} {cy : Nat → ClassId} {b n : Nat} (hn : 102 ≤ n) {X : Nat → va_E} {S0 : St} (a1 : Int) (a2 : Int) {o1 : Int} (hM : mX2_start_13 S0 a1 a2 = some o1) : gI l yX2_start cX2_start 3 (some .int) 0 0 0 D cy b n (enc b cy X S0) [.ref (b + 13), .int (iI a1), .int (iI a2)] (fun r u => r = iI o1 ∧ u = (n, enc b cy X S0)) := by
  refine gI_of (by decide) (Nat.le_of_ble_eq_true rfl) ?_
  intro p e s m args below meth c S hr hlk hin hsz ls hl hG
  have hx := S.1
  have hb := S.2.1
  have hl : lv_has ls 3 [(0, .ref (b + 13)), (1, .int (iI a1)), (2, .int (iI a2))] := hl
  replace hG : gW D cy b n s s.heap [] (enc b cy X S0) := hG
  obtain ⟨H, eH⟩ : ∃ H, H = s.heap := ⟨_, rfl⟩
  obtain ⟨locs, elocs⟩ : ∃ locs : List Loc, locs = [] := ⟨_, rfl⟩
  rw [← eH, ← elocs] at hG
  rw [← eH, ← elocs]
  clear eH elocs
  unfold mX2_start_13 at hM
  refine lv_aload_n hx hb dX2_start_0 rfl (lv_at hl 0 rfl) ?_
  refine m_get S hG 13 13 11 rfl ec_13 cpX2 wm_269 dX2_start_1 rfl (Nat.lt_of_lt_of_le (Nat.le_of_ble_eq_true rfl) hn) (by decide) ?_
  refine lv_iload_n hx hb dX2_start_4 rfl (lv_at hl 1 rfl) ?_
  refine lv_bipush (v := iI 10) hx hb dX2_start_5 (by decide) ?_
  refine gi_mul hx hb dX2_start_7 ?_
  refine lv_iload_n hx hb dX2_start_8 rfl (lv_at hl 2 rfl) ?_
  refine gi_add hx hb dX2_start_9 ?_
  obtain ⟨hg_1, hM⟩ := gd_some hM
  refine mi_ald S hG 20 20 rfl ec_20 (Nat.lt_of_lt_of_le (Nat.le_of_ble_eq_true rfl) hn) dX2_start_10 hg_1 (by decide) ?_
  cases hM
  exact g_iret S hr hlk hG hsz dX2_start_11 ⟨Nat.le_of_ble_eq_true rfl, Nat.le_of_ble_eq_true rfl⟩ ⟨rfl, rfl⟩
theorem wV_3_94 : gWV "GrownKinds$Leaning" 94 yX3_allEmpty cX3_allEmpty 5 (some .boolean) := ⟨wm_913, wm_915, wm_21, wm_180, wm_916, by decide +kernel, by decide +kernel⟩
def mX3_allEmpty_26_5 (S0 : St) (a2 : Int) : Nat → Int → Int → Option (Int)
  | 0, _, _ => none
  | f + 1, v_1, v_2 => gd (inI v_1) <| if 24 ≤ v_1 then (some (1)) else (gd (inI v_2) <| if v_2 = (-1) then (some (1)) else (bd1 (gd (inI a2) <| if v_2 = a2 then (some (1)) else (bd1 (mX3_isEmpty_26 S0 v_2) fun r_23 => gd (inI r_23) <| if r_23 = 0 then (some (0)) else (some (1)))) fun t_14 => if t_14 = 0 then (some (0)) else (gd (0 ≤ v_2 ∧ v_2 < 24) <| nx (S0 17 v_2) fun x_19 => mX3_allEmpty_26_5 S0 a2 f (v_1 + 1) x_19)))
def mX3_allEmpty_26 (S0 : St) (a1 : Int) (a2 : Int) : Option (Int) := bd1 (mX3_allEmpty_26_5 S0 a2 FU 0 a1) fun t_3 => if t_3 = 0 then (some (0)) else (some (1))
set_option maxHeartbeats 4000000 in
set_option maxRecDepth 100000 in
theorem vX3_allEmpty_26 (l : Launch) {D : va_G} {cy : Nat → ClassId} {b n : Nat} (hn : 102 ≤ n) {X : Nat → va_E} {S0 : St} (a1 : Int) (a2 : Int) {o1 : Int} (hM : mX3_allEmpty_26 S0 a1 a2 = some o1) : gI l yX3_allEmpty cX3_allEmpty 5 (some .boolean) 1 0 0 D cy b n (enc b cy X S0) [.ref (b + 26), .int (iI a1), .int (iI a2)] (fun r u => r = iI o1 ∧ u = (n, enc b cy X S0)) := by
  refine gI_of (by decide) (Nat.le_of_ble_eq_true rfl) ?_
  intro p e s m args below meth c S hr hlk hin hsz ls hl hG
  have hx := S.1
  have hb := S.2.1
  have hl : lv_has ls 5 [(0, .ref (b + 26)), (1, .int (iI a1)), (2, .int (iI a2))] := hl
  replace hG : gW D cy b n s s.heap [] (enc b cy X S0) := hG
  obtain ⟨H, eH⟩ : ∃ H, H = s.heap := ⟨_, rfl⟩
  obtain ⟨locs, elocs⟩ : ∃ locs : List Loc, locs = [] := ⟨_, rfl⟩
  rw [← eH, ← elocs] at hG
  rw [← eH, ← elocs]
  clear eH elocs
  unfold mX3_allEmpty_26 at hM
  refine lv_iload_n hx hb dX3_allEmpty_0 rfl (lv_at hl 1 rfl) ?_
  refine lv_istore_n (lv' := [(3, .int (iI a1)), (0, .ref (b + 26)), (1, .int (iI a1)), (2, .int (iI a2))]) hx hb dX3_allEmpty_1 rfl hl (by decide) rfl (fun ls hl => ?_)
  refine lv_iconst (v := iI 0) hx hb dX3_allEmpty_2 (by decide) ?_
  refine lv_istore (lv' := [(4, .int (iI 0)), (3, .int (iI a1)), (0, .ref (b + 26)), (1, .int (iI a1)), (2, .int (iI a2))]) hx hb dX3_allEmpty_3 hl (by decide) rfl (fun ls hl => ?_)
  obtain ⟨t_3, hc_4, hM⟩ := bd1_some hM
  have hK_5 : ∀ (H : Heap) (locs : List Loc) (ls : Array Slot), t_3 = 0 → gW D cy b n s H locs (enc b cy X S0) → lv_has ls 5 [] → W p l e (gRm 1 0 0) s m args below meth c H locs 0 0 (gQI D cy b s args below 0 0 (fun r u => r = iI o1 ∧ u = (n, enc b cy X S0))) (F0 m 30 ls []) := by
    intro H locs ls ht hG hl
    subst ht
    replace hM := ifp hM rfl
    refine lv_iconst (v := iI 0) hx hb dX3_allEmpty_30 (by decide) ?_
    cases hM
    exact g_zret S hr hlk hG hsz dX3_allEmpty_31 ⟨Nat.le_of_ble_eq_true rfl, Nat.le_of_ble_eq_true rfl⟩ (nar_z (by decide)) ⟨rfl, rfl⟩
  have hK_6 : ∀ (H : Heap) (locs : List Loc) (ls : Array Slot), t_3 = 1 → gW D cy b n s H locs (enc b cy X S0) → lv_has ls 5 [] → W p l e (gRm 1 0 0) s m args below meth c H locs 0 0 (gQI D cy b s args below 0 0 (fun r u => r = iI o1 ∧ u = (n, enc b cy X S0))) (F0 m 48 ls []) := by
    intro H locs ls ht hG hl
    subst ht
    replace hM := ifn hM (by decide)
    refine lv_iconst (v := iI 1) hx hb dX3_allEmpty_48 (by decide) ?_
    cases hM
    exact g_zret S hr hlk hG hsz dX3_allEmpty_49 ⟨Nat.le_of_ble_eq_true rfl, Nat.le_of_ble_eq_true rfl⟩ (nar_z (by decide)) ⟨rfl, rfl⟩
  have loop_7 : ∀ (f : Nat) (v_1 : Int) (v_2 : Int) (H : Heap) (locs : List Loc) (ls : Array Slot), mX3_allEmpty_26_5 S0 a2 f v_1 v_2 = some t_3 → gW D cy b n s H locs (enc b cy X S0) → lv_has ls 5 [(4, .int (iI v_1)), (3, .int (iI v_2)), (0, .ref (b + 26)), (2, .int (iI a2))] → W p l e (gRm 1 0 0) s m args below meth c H locs 0 0 (gQI D cy b s args below 0 0 (fun r u => r = iI o1 ∧ u = (n, enc b cy X S0))) (F0 m 5 ls []) := by
    clear hM
    intro f
    induction f with
    | zero => intro v_1 v_2 H locs ls hM; rw [mX3_allEmpty_26_5] at hM; cases hM
    | succ f_9 ih_8 =>
      intro v_1 v_2 H locs ls hM hG hl
      rw [mX3_allEmpty_26_5] at hM
      refine lv_iload hx hb dX3_allEmpty_5 (lv_at hl 0 rfl) ?_
      refine lv_bipush (v := iI 24) hx hb dX3_allEmpty_7 (by decide) ?_
      obtain ⟨hg_10, hM⟩ := gd_some hM
      refine gi_icmp_ge (tgt := 48) hx hb dX3_allEmpty_9 (by decide) hg_10 (by decide) (fun c_11 => ?_) (fun c_11 => ?_)
      · replace hM := ifp hM c_11
        cases hM
        exact hK_6 H locs ls rfl hG (lv_sub hl [] rfl)
      · replace hM := ifn hM c_11
        refine lv_iload_n hx hb dX3_allEmpty_12 rfl (lv_at hl 1 rfl) ?_
        refine lv_iconst (v := iI (-1)) hx hb dX3_allEmpty_13 (by decide) ?_
        obtain ⟨hg_12, hM⟩ := gd_some hM
        refine gi_icmp_eq (tgt := 48) hx hb dX3_allEmpty_14 (by decide) hg_12 (by decide) (fun c_13 => ?_) (fun c_13 => ?_)
        · replace hM := ifp hM c_13
          cases hM
          exact hK_6 H locs ls rfl hG (lv_sub hl [] rfl)
        · replace hM := ifn hM c_13
          refine lv_iload_n hx hb dX3_allEmpty_17 rfl (lv_at hl 1 rfl) ?_
          refine lv_iload_n hx hb dX3_allEmpty_18 rfl (lv_at hl 3 rfl) ?_
          obtain ⟨t_14, hc_15, hM⟩ := bd1_some hM
          have hK_16 : ∀ (H : Heap) (locs : List Loc) (ls : Array Slot), t_14 = 0 → gW D cy b n s H locs (enc b cy X S0) → lv_has ls 5 [] → W p l e (gRm 1 0 0) s m args below meth c H locs 0 0 (gQI D cy b s args below 0 0 (fun r u => r = iI o1 ∧ u = (n, enc b cy X S0))) (F0 m 30 ls []) := by
            intro H locs ls ht hG hl
            subst ht
            replace hM := ifp hM rfl
            cases hM
            exact hK_5 H locs ls rfl hG (lv_sub hl [] rfl)
          have hK_17 : ∀ (H : Heap) (locs : List Loc) (ls : Array Slot), t_14 = 1 → gW D cy b n s H locs (enc b cy X S0) → lv_has ls 5 [(4, .int (iI v_1)), (3, .int (iI v_2)), (0, .ref (b + 26)), (2, .int (iI a2))] → W p l e (gRm 1 0 0) s m args below meth c H locs 0 0 (gQI D cy b s args below 0 0 (fun r u => r = iI o1 ∧ u = (n, enc b cy X S0))) (F0 m 32 ls []) := by
            intro H locs ls ht hG hl
            subst ht
            replace hM := ifn hM (by decide)
            refine lv_aload_n hx hb dX3_allEmpty_32 rfl (lv_at hl 2 rfl) ?_
            refine m_get S hG 26 26 0 rfl ec_26 cpX3 wm_319 dX3_allEmpty_33 rfl (Nat.lt_of_lt_of_le (Nat.le_of_ble_eq_true rfl) hn) (by decide) ?_
            refine m_get S hG 13 13 8 rfl ec_13 cpX2 wm_257 dX3_allEmpty_36 rfl (Nat.lt_of_lt_of_le (Nat.le_of_ble_eq_true rfl) hn) (by decide) ?_
            refine lv_iload_n hx hb dX3_allEmpty_39 rfl (lv_at hl 1 rfl) ?_
            obtain ⟨hg_18, hM⟩ := gd_some hM
            refine mi_ald S hG 17 17 rfl ec_17 (Nat.lt_of_lt_of_le (Nat.le_of_ble_eq_true rfl) hn) dX3_allEmpty_40 hg_18 (by decide) ?_
            refine gi_nm (fun x_19 ex_19 => ?_)
            replace hM := nx_at hM ex_19
            clear ex_19
            refine lv_istore_n (lv' := [(3, .int (iI x_19)), (4, .int (iI v_1)), (0, .ref (b + 26)), (2, .int (iI a2))]) hx hb dX3_allEmpty_41 rfl hl (by decide) rfl (fun ls hl => ?_)
            refine lv_iinc (v := iI (v_1 + 1)) (lv' := [(4, .int (iI (v_1 + 1))), (3, .int (iI x_19)), (0, .ref (b + 26)), (2, .int (iI a2))]) hx hb dX3_allEmpty_42 hl (k := 1) rfl ((iI_add v_1 (1)).trans (congrArg iI (by omega))) (by decide) rfl (fun ls hl => ?_)
            refine lv_goto (tgt := 5) hx hb dX3_allEmpty_45 (by decide) ?_
            exact ih_8 (v_1 + 1) x_19 H locs ls hM hG (lv_sub hl [0, 1, 2, 3] rfl)
          clear hM
          replace hM := hc_15
          obtain ⟨hg_20, hM⟩ := gd_some hM
          refine gi_icmp_eq (tgt := 32) hx hb dX3_allEmpty_19 (by decide) hg_12 hg_20 (fun c_21 => ?_) (fun c_21 => ?_)
          · replace hM := ifp hM c_21
            cases hM
            exact hK_17 H locs ls rfl hG (lv_sub hl [0, 1, 2, 3] rfl)
          · replace hM := ifn hM c_21
            refine lv_aload_n hx hb dX3_allEmpty_22 rfl (lv_at hl 2 rfl) ?_
            refine lv_iload_n hx hb dX3_allEmpty_23 rfl (lv_at hl 1 rfl) ?_
            obtain ⟨r_23, hc_22, hM⟩ := bd1_some hM
            refine g_vi (As := [.int (iI v_2)]) (rest := []) S hG hsz (vX3_isEmpty_26 l hn v_2 hc_22) wV_3_80 (ec_26 _) cpX3 (Nat.lt_of_lt_of_le (Nat.le_of_ble_eq_true rfl) hn) dX3_allEmpty_24 rfl hl.1 (ar := 1) (by decide +kernel) rfl ⟨Nat.le_of_ble_eq_true rfl, Nat.le_of_ble_eq_true rfl, Nat.le_of_ble_eq_true rfl, Nat.le_of_ble_eq_true rfl⟩ (Nat.le_of_ble_eq_true rfl) (fun rv uu H locs hp hG => ?_)
            obtain ⟨rfl, rfl⟩ := hp
            replace hG : gW D cy b n s H locs (enc b cy X S0) := hG
            obtain ⟨hg_24, hM⟩ := gd_some hM
            refine gi_if_ne (tgt := 32) hx hb dX3_allEmpty_27 (by decide) hg_24 (fun c_25 => ?_) (fun c_25 => ?_)
            · replace hM := ifn hM c_25
              cases hM
              exact hK_17 H locs ls rfl hG (lv_sub hl [0, 1, 2, 3] rfl)
            · replace hM := ifp hM c_25
              cases hM
              exact hK_16 H locs ls rfl hG (lv_sub hl [] rfl)
  exact loop_7 FU 0 a1 H locs ls hc_4 hG (lv_sub hl [0, 1, 2, 4] rfl)
def mX3_exprIsEmpty_26_2 (S0 : St) (a1 : Int) : Nat → Int → Option (Int)
  | 0, _ => none
  | f + 1, v_1 => gd (0 ≤ a1 ∧ a1 < 30) <| gd ((inI v_1) ∧ (inI (S0 19 a1))) <| if (S0 19 a1) ≤ v_1 then (some (1)) else (bd1 (mX2_isOff_13 S0 a1 v_1) fun r_13 => gd (inI r_13) <| if r_13 = 0 then (bd1 (mX2_start_13 S0 a1 v_1) fun r_17 => bd1 (mX3_allEmpty_26 S0 r_17 (-1)) fun r_19 => gd (inI r_19) <| if r_19 = 0 then (mX3_exprIsEmpty_26_2 S0 a1 f (v_1 + 1)) else (some (0))) else (mX3_exprIsEmpty_26_2 S0 a1 f (v_1 + 1)))
def mX3_exprIsEmpty_26 (S0 : St) (a1 : Int) : Option (Int) := bd1 (mX3_exprIsEmpty_26_2 S0 a1 FU 0) fun t_2 => if t_2 = 0 then (some (1)) else (some (0))
set_option maxHeartbeats 4000000 in
set_option maxRecDepth 100000 in
theorem vX3_exprIsEmpty_26 (l : Launch) {D : va_G} {cy : Nat → ClassId} {b n : Nat} (hn : 102 ≤ n) {X : Nat → va_E} {S0 : St} (a1 : Int) {o1 : Int} (hM : mX3_exprIsEmpty_26 S0 a1 = some o1) : gI l yX3_exprIsEmpty cX3_exprIsEmpty 3 (some .boolean) 2 0 0 D cy b n (enc b cy X S0) [.ref (b + 26), .int (iI a1)] (fun r u => r = iI o1 ∧ u = (n, enc b cy X S0)) := by
  refine gI_of (by decide) (Nat.le_of_ble_eq_true rfl) ?_
  intro p e s m args below meth c S hr hlk hin hsz ls hl hG
  have hx := S.1
  have hb := S.2.1
  have hl : lv_has ls 3 [(0, .ref (b + 26)), (1, .int (iI a1))] := hl
  replace hG : gW D cy b n s s.heap [] (enc b cy X S0) := hG
  obtain ⟨H, eH⟩ : ∃ H, H = s.heap := ⟨_, rfl⟩
  obtain ⟨locs, elocs⟩ : ∃ locs : List Loc, locs = [] := ⟨_, rfl⟩
  rw [← eH, ← elocs] at hG
  rw [← eH, ← elocs]
  clear eH elocs
  unfold mX3_exprIsEmpty_26 at hM
  refine lv_iconst (v := iI 0) hx hb dX3_exprIsEmpty_0 (by decide) ?_
  refine lv_istore_n (lv' := [(2, .int (iI 0)), (0, .ref (b + 26)), (1, .int (iI a1))]) hx hb dX3_exprIsEmpty_1 rfl hl (by decide) rfl (fun ls hl => ?_)
  obtain ⟨t_2, hc_3, hM⟩ := bd1_some hM
  have hK_4 : ∀ (H : Heap) (locs : List Loc) (ls : Array Slot), t_2 = 0 → gW D cy b n s H locs (enc b cy X S0) → lv_has ls 3 [] → W p l e (gRm 2 0 0) s m args below meth c H locs 0 0 (gQI D cy b s args below 0 0 (fun r u => r = iI o1 ∧ u = (n, enc b cy X S0))) (F0 m 44 ls []) := by
    intro H locs ls ht hG hl
    subst ht
    replace hM := ifp hM rfl
    refine lv_iconst (v := iI 1) hx hb dX3_exprIsEmpty_44 (by decide) ?_
    cases hM
    exact g_zret S hr hlk hG hsz dX3_exprIsEmpty_45 ⟨Nat.le_of_ble_eq_true rfl, Nat.le_of_ble_eq_true rfl⟩ (nar_z (by decide)) ⟨rfl, rfl⟩
  have hK_5 : ∀ (H : Heap) (locs : List Loc) (ls : Array Slot), t_2 = 1 → gW D cy b n s H locs (enc b cy X S0) → lv_has ls 3 [] → W p l e (gRm 2 0 0) s m args below meth c H locs 0 0 (gQI D cy b s args below 0 0 (fun r u => r = iI o1 ∧ u = (n, enc b cy X S0))) (F0 m 52 ls []) := by
    intro H locs ls ht hG hl
    subst ht
    replace hM := ifn hM (by decide)
    refine lv_iconst (v := iI 0) hx hb dX3_exprIsEmpty_52 (by decide) ?_
    cases hM
    exact g_zret S hr hlk hG hsz dX3_exprIsEmpty_53 ⟨Nat.le_of_ble_eq_true rfl, Nat.le_of_ble_eq_true rfl⟩ (nar_z (by decide)) ⟨rfl, rfl⟩
  have loop_6 : ∀ (f : Nat) (v_1 : Int) (H : Heap) (locs : List Loc) (ls : Array Slot), mX3_exprIsEmpty_26_2 S0 a1 f v_1 = some t_2 → gW D cy b n s H locs (enc b cy X S0) → lv_has ls 3 [(2, .int (iI v_1)), (0, .ref (b + 26)), (1, .int (iI a1))] → W p l e (gRm 2 0 0) s m args below meth c H locs 0 0 (gQI D cy b s args below 0 0 (fun r u => r = iI o1 ∧ u = (n, enc b cy X S0))) (F0 m 2 ls []) := by
    clear hM
    intro f
    induction f with
    | zero => intro v_1 H locs ls hM; rw [mX3_exprIsEmpty_26_2] at hM; cases hM
    | succ f_8 ih_7 =>
      intro v_1 H locs ls hM hG hl
      rw [mX3_exprIsEmpty_26_2] at hM
      refine lv_iload_n hx hb dX3_exprIsEmpty_2 rfl (lv_at hl 0 rfl) ?_
      refine lv_aload_n hx hb dX3_exprIsEmpty_3 rfl (lv_at hl 1 rfl) ?_
      refine m_get S hG 26 26 0 rfl ec_26 cpX3 wm_319 dX3_exprIsEmpty_4 rfl (Nat.lt_of_lt_of_le (Nat.le_of_ble_eq_true rfl) hn) (by decide) ?_
      refine m_get S hG 13 13 10 rfl ec_13 cpX2 wm_264 dX3_exprIsEmpty_7 rfl (Nat.lt_of_lt_of_le (Nat.le_of_ble_eq_true rfl) hn) (by decide) ?_
      refine lv_iload_n hx hb dX3_exprIsEmpty_10 rfl (lv_at hl 2 rfl) ?_
      obtain ⟨hg_9, hM⟩ := gd_some hM
      refine mi_ald S hG 19 19 rfl ec_19 (Nat.lt_of_lt_of_le (Nat.le_of_ble_eq_true rfl) hn) dX3_exprIsEmpty_11 hg_9 (by decide) ?_
      obtain ⟨hg_10, hM⟩ := gd_some hM
      refine gi_icmp_ge (tgt := 52) hx hb dX3_exprIsEmpty_12 (by decide) hg_10.1 hg_10.2 (fun c_11 => ?_) (fun c_11 => ?_)
      · replace hM := ifp hM c_11
        cases hM
        exact hK_5 H locs ls rfl hG (lv_sub hl [] rfl)
      · replace hM := ifn hM c_11
        refine lv_aload_n hx hb dX3_exprIsEmpty_15 rfl (lv_at hl 1 rfl) ?_
        refine m_get S hG 26 26 0 rfl ec_26 cpX3 wm_319 dX3_exprIsEmpty_16 rfl (Nat.lt_of_lt_of_le (Nat.le_of_ble_eq_true rfl) hn) (by decide) ?_
        refine lv_iload_n hx hb dX3_exprIsEmpty_19 rfl (lv_at hl 2 rfl) ?_
        refine lv_iload_n hx hb dX3_exprIsEmpty_20 rfl (lv_at hl 0 rfl) ?_
        obtain ⟨r_13, hc_12, hM⟩ := bd1_some hM
        refine g_vi (As := [.int (iI a1), .int (iI v_1)]) (rest := []) S hG hsz (vX2_isOff_13 l hn a1 v_1 hc_12) wV_3_86 (ec_13 _) cpX2 (Nat.lt_of_lt_of_le (Nat.le_of_ble_eq_true rfl) hn) dX3_exprIsEmpty_21 rfl hl.1 (ar := 2) (by decide +kernel) rfl ⟨Nat.le_of_ble_eq_true rfl, Nat.le_of_ble_eq_true rfl, Nat.le_of_ble_eq_true rfl, Nat.le_of_ble_eq_true rfl⟩ (Nat.le_of_ble_eq_true rfl) (fun rv uu H locs hp hG => ?_)
        obtain ⟨rfl, rfl⟩ := hp
        replace hG : gW D cy b n s H locs (enc b cy X S0) := hG
        obtain ⟨hg_14, hM⟩ := gd_some hM
        refine gi_if_ne (tgt := 46) hx hb dX3_exprIsEmpty_24 (by decide) hg_14 (fun c_15 => ?_) (fun c_15 => ?_)
        · replace hM := ifn hM c_15
          refine lv_iinc (v := iI (v_1 + 1)) (lv' := [(2, .int (iI (v_1 + 1))), (0, .ref (b + 26)), (1, .int (iI a1))]) hx hb dX3_exprIsEmpty_46 hl (k := 0) rfl ((iI_add v_1 (1)).trans (congrArg iI (by omega))) (by decide) rfl (fun ls hl => ?_)
          refine lv_goto (tgt := 2) hx hb dX3_exprIsEmpty_49 (by decide) ?_
          exact ih_7 (v_1 + 1) H locs ls hM hG (lv_sub hl [0, 1, 2] rfl)
        · replace hM := ifp hM c_15
          refine lv_aload_n hx hb dX3_exprIsEmpty_27 rfl (lv_at hl 1 rfl) ?_
          refine lv_aload_n hx hb dX3_exprIsEmpty_28 rfl (lv_at hl 1 rfl) ?_
          refine m_get S hG 26 26 0 rfl ec_26 cpX3 wm_319 dX3_exprIsEmpty_29 rfl (Nat.lt_of_lt_of_le (Nat.le_of_ble_eq_true rfl) hn) (by decide) ?_
          refine lv_iload_n hx hb dX3_exprIsEmpty_32 rfl (lv_at hl 2 rfl) ?_
          refine lv_iload_n hx hb dX3_exprIsEmpty_33 rfl (lv_at hl 0 rfl) ?_
          obtain ⟨r_17, hc_16, hM⟩ := bd1_some hM
          refine g_vi (As := [.int (iI a1), .int (iI v_1)]) (rest := [.ref (b + 26)]) S hG hsz (vX2_start_13 l hn a1 v_1 hc_16) wV_3_90 (ec_13 _) cpX2 (Nat.lt_of_lt_of_le (Nat.le_of_ble_eq_true rfl) hn) dX3_exprIsEmpty_34 rfl hl.1 (ar := 2) (by decide +kernel) rfl ⟨Nat.le_of_ble_eq_true rfl, Nat.le_of_ble_eq_true rfl, Nat.le_of_ble_eq_true rfl, Nat.le_of_ble_eq_true rfl⟩ (Nat.le_of_ble_eq_true rfl) (fun rv uu H locs hp hG => ?_)
          obtain ⟨rfl, rfl⟩ := hp
          replace hG : gW D cy b n s H locs (enc b cy X S0) := hG
          refine lv_iconst (v := iI (-1)) hx hb dX3_exprIsEmpty_37 (by decide) ?_
          obtain ⟨r_19, hc_18, hM⟩ := bd1_some hM
          refine g_vi (As := [.int (iI r_17), .int (iI (-1))]) (rest := []) S hG hsz (vX3_allEmpty_26 l hn r_17 (-1) hc_18) wV_3_94 (ec_26 _) cpX3 (Nat.lt_of_lt_of_le (Nat.le_of_ble_eq_true rfl) hn) dX3_exprIsEmpty_38 rfl hl.1 (ar := 2) (by decide +kernel) rfl ⟨Nat.le_of_ble_eq_true rfl, Nat.le_of_ble_eq_true rfl, Nat.le_of_ble_eq_true rfl, Nat.le_of_ble_eq_true rfl⟩ (Nat.le_of_ble_eq_true rfl) (fun rv uu H locs hp hG => ?_)
          obtain ⟨rfl, rfl⟩ := hp
          replace hG : gW D cy b n s H locs (enc b cy X S0) := hG
          obtain ⟨hg_20, hM⟩ := gd_some hM
          refine gi_if_eq (tgt := 46) hx hb dX3_exprIsEmpty_41 (by decide) hg_20 (fun c_21 => ?_) (fun c_21 => ?_)
          · replace hM := ifp hM c_21
            refine lv_iinc (v := iI (v_1 + 1)) (lv' := [(2, .int (iI (v_1 + 1))), (0, .ref (b + 26)), (1, .int (iI a1))]) hx hb dX3_exprIsEmpty_46 hl (k := 0) rfl ((iI_add v_1 (1)).trans (congrArg iI (by omega))) (by decide) rfl (fun ls hl => ?_)
            refine lv_goto (tgt := 2) hx hb dX3_exprIsEmpty_49 (by decide) ?_
            exact ih_7 (v_1 + 1) H locs ls hM hG (lv_sub hl [0, 1, 2] rfl)
          · replace hM := ifn hM c_21
            cases hM
            exact hK_4 H locs ls rfl hG (lv_sub hl [] rfl)
  exact loop_6 FU 0 H locs ls hc_3 hG (lv_sub hl [0, 1, 2] rfl)
def mX3_partIsEmpty_26 (S0 : St) (a1 : Int) : Option (Int) := gd (0 ≤ a1 ∧ a1 < 24) <| nx (S0 14 a1) fun x_2 => bd1 (gd (inI x_2) <| if x_2 = 0 then (some (0)) else (if x_2 = 1 then (some (0)) else (some (1)))) fun t_3 => if t_3 = 0 then (gd (inI x_2) <| if x_2 = 1 then (some (1)) else (some (0))) else (gd (inI x_2) <| if x_2 = 2 then (gd (inI (an (shr (S0 26 2) (S0 15 a1)) 1)) <| if (an (shr (S0 26 2) (S0 15 a1)) 1) = 0 then (some (0)) else (some (1))) else (if x_2 = 7 then (bd1 (mX3_exprIsEmpty_26 S0 (6 + a1)) fun r_24 => gd (r_24 = 0 ∨ r_24 = 1) <| some (r_24)) else (if x_2 = 6 then (bd1 (mX3_isEmpty_26 S0 (S0 16 a1)) fun r_14 => gd (inI r_14) <| if r_14 = 0 then (some (0)) else (some (1))) else (gd (inI (S0 15 a1)) <| if (S0 15 a1) = 0 then (some (1)) else (bd1 (mX3_isEmpty_26 S0 (S0 16 a1)) fun r_20 => gd (inI r_20) <| if r_20 = 0 then (some (0)) else (some (1)))))))
set_option maxHeartbeats 4000000 in
set_option maxRecDepth 100000 in
theorem vX3_partIsEmpty_26 (l : Launch) {D : va_G} {cy : Nat → ClassId} {b n : Nat} (hn : 102 ≤ n) {X : Nat → va_E} {S0 : St} (a1 : Int) {o1 : Int} (hM : mX3_partIsEmpty_26 S0 a1 = some o1) : gI l yX3_partIsEmpty cX3_partIsEmpty 3 (some .boolean) 3 0 0 D cy b n (enc b cy X S0) [.ref (b + 26), .int (iI a1)] (fun r u => r = iI o1 ∧ u = (n, enc b cy X S0)) := by
  refine gI_of (by decide) (Nat.le_of_ble_eq_true rfl) ?_
  intro p e s m args below meth c S hr hlk hin hsz ls hl hG
  have hx := S.1
  have hb := S.2.1
  have hl : lv_has ls 3 [(0, .ref (b + 26)), (1, .int (iI a1))] := hl
  replace hG : gW D cy b n s s.heap [] (enc b cy X S0) := hG
  obtain ⟨H, eH⟩ : ∃ H, H = s.heap := ⟨_, rfl⟩
  obtain ⟨locs, elocs⟩ : ∃ locs : List Loc, locs = [] := ⟨_, rfl⟩
  rw [← eH, ← elocs] at hG
  rw [← eH, ← elocs]
  clear eH elocs
  unfold mX3_partIsEmpty_26 at hM
  refine lv_aload_n hx hb dX3_partIsEmpty_0 rfl (lv_at hl 0 rfl) ?_
  refine m_get S hG 26 26 0 rfl ec_26 cpX3 wm_319 dX3_partIsEmpty_1 rfl (Nat.lt_of_lt_of_le (Nat.le_of_ble_eq_true rfl) hn) (by decide) ?_
  refine m_get S hG 13 13 5 rfl ec_13 cpX2 wm_236 dX3_partIsEmpty_4 rfl (Nat.lt_of_lt_of_le (Nat.le_of_ble_eq_true rfl) hn) (by decide) ?_
  refine lv_iload_n hx hb dX3_partIsEmpty_7 rfl (lv_at hl 1 rfl) ?_
  obtain ⟨hg_1, hM⟩ := gd_some hM
  refine mi_ald S hG 14 14 rfl ec_14 (Nat.lt_of_lt_of_le (Nat.le_of_ble_eq_true rfl) hn) dX3_partIsEmpty_8 hg_1 (by decide) ?_
  refine gi_nm (fun x_2 ex_2 => ?_)
  replace hM := nx_at hM ex_2
  clear ex_2
  refine lv_istore_n (lv' := [(2, .int (iI x_2)), (0, .ref (b + 26)), (1, .int (iI a1))]) hx hb dX3_partIsEmpty_9 rfl hl (by decide) rfl (fun ls hl => ?_)
  refine lv_iload_n hx hb dX3_partIsEmpty_10 rfl (lv_at hl 0 rfl) ?_
  obtain ⟨t_3, hc_4, hM⟩ := bd1_some hM
  have hK_5 : ∀ (H : Heap) (locs : List Loc) (ls : Array Slot), t_3 = 0 → gW D cy b n s H locs (enc b cy X S0) → lv_has ls 3 [(2, .int (iI x_2))] → W p l e (gRm 3 0 0) s m args below meth c H locs 0 0 (gQI D cy b s args below 0 0 (fun r u => r = iI o1 ∧ u = (n, enc b cy X S0))) (F0 m 19 ls []) := by
    intro H locs ls ht hG hl
    subst ht
    replace hM := ifp hM rfl
    refine lv_iload_n hx hb dX3_partIsEmpty_19 rfl (lv_at hl 0 rfl) ?_
    refine lv_iconst (v := iI 1) hx hb dX3_partIsEmpty_20 (by decide) ?_
    obtain ⟨hg_6, hM⟩ := gd_some hM
    refine gi_icmp_ne (tgt := 28) hx hb dX3_partIsEmpty_21 (by decide) hg_6 (by decide) (fun c_7 => ?_) (fun c_7 => ?_)
    · replace hM := ifn hM c_7
      refine lv_iconst (v := iI 0) hx hb dX3_partIsEmpty_28 (by decide) ?_
      cases hM
      exact g_zret S hr hlk hG hsz dX3_partIsEmpty_29 ⟨Nat.le_of_ble_eq_true rfl, Nat.le_of_ble_eq_true rfl⟩ (nar_z (by decide)) ⟨rfl, rfl⟩
    · replace hM := ifp hM c_7
      refine lv_iconst (v := iI 1) hx hb dX3_partIsEmpty_24 (by decide) ?_
      refine lv_goto (tgt := 29) hx hb dX3_partIsEmpty_25 (by decide) ?_
      cases hM
      exact g_zret S hr hlk hG hsz dX3_partIsEmpty_29 ⟨Nat.le_of_ble_eq_true rfl, Nat.le_of_ble_eq_true rfl⟩ (nar_z (by decide)) ⟨rfl, rfl⟩
  have hK_8 : ∀ (H : Heap) (locs : List Loc) (ls : Array Slot), t_3 = 1 → gW D cy b n s H locs (enc b cy X S0) → lv_has ls 3 [(2, .int (iI x_2)), (0, .ref (b + 26)), (1, .int (iI a1))] → W p l e (gRm 3 0 0) s m args below meth c H locs 0 0 (gQI D cy b s args below 0 0 (fun r u => r = iI o1 ∧ u = (n, enc b cy X S0))) (F0 m 30 ls []) := by
    intro H locs ls ht hG hl
    subst ht
    replace hM := ifn hM (by decide)
    refine lv_iload_n hx hb dX3_partIsEmpty_30 rfl (lv_at hl 0 rfl) ?_
    refine lv_iconst (v := iI 2) hx hb dX3_partIsEmpty_31 (by decide) ?_
    obtain ⟨hg_9, hM⟩ := gd_some hM
    refine gi_icmp_ne (tgt := 60) hx hb dX3_partIsEmpty_32 (by decide) hg_9 (by decide) (fun c_10 => ?_) (fun c_10 => ?_)
    · replace hM := ifn hM c_10
      refine lv_iload_n hx hb dX3_partIsEmpty_60 rfl (lv_at hl 0 rfl) ?_
      refine lv_bipush (v := iI 7) hx hb dX3_partIsEmpty_61 (by decide) ?_
      refine gi_icmp_ne (tgt := 75) hx hb dX3_partIsEmpty_63 (by decide) hg_9 (by decide) (fun c_11 => ?_) (fun c_11 => ?_)
      · replace hM := ifn hM c_11
        refine lv_iload_n hx hb dX3_partIsEmpty_75 rfl (lv_at hl 0 rfl) ?_
        refine lv_bipush (v := iI 6) hx hb dX3_partIsEmpty_76 (by decide) ?_
        refine gi_icmp_eq (tgt := 93) hx hb dX3_partIsEmpty_78 (by decide) hg_9 (by decide) (fun c_12 => ?_) (fun c_12 => ?_)
        · replace hM := ifp hM c_12
          refine lv_aload_n hx hb dX3_partIsEmpty_93 rfl (lv_at hl 1 rfl) ?_
          refine lv_aload_n hx hb dX3_partIsEmpty_94 rfl (lv_at hl 1 rfl) ?_
          refine m_get S hG 26 26 0 rfl ec_26 cpX3 wm_319 dX3_partIsEmpty_95 rfl (Nat.lt_of_lt_of_le (Nat.le_of_ble_eq_true rfl) hn) (by decide) ?_
          refine m_get S hG 13 13 7 rfl ec_13 cpX2 wm_249 dX3_partIsEmpty_98 rfl (Nat.lt_of_lt_of_le (Nat.le_of_ble_eq_true rfl) hn) (by decide) ?_
          refine lv_iload_n hx hb dX3_partIsEmpty_101 rfl (lv_at hl 2 rfl) ?_
          refine mi_ald S hG 16 16 rfl ec_16 (Nat.lt_of_lt_of_le (Nat.le_of_ble_eq_true rfl) hn) dX3_partIsEmpty_102 hg_1 (by decide) ?_
          obtain ⟨r_14, hc_13, hM⟩ := bd1_some hM
          refine g_vi (As := [.int (iI (S0 16 a1))]) (rest := []) S hG hsz (vX3_isEmpty_26 l hn (S0 16 a1) hc_13) wV_3_80 (ec_26 _) cpX3 (Nat.lt_of_lt_of_le (Nat.le_of_ble_eq_true rfl) hn) dX3_partIsEmpty_103 rfl hl.1 (ar := 1) (by decide +kernel) rfl ⟨Nat.le_of_ble_eq_true rfl, Nat.le_of_ble_eq_true rfl, Nat.le_of_ble_eq_true rfl, Nat.le_of_ble_eq_true rfl⟩ (Nat.le_of_ble_eq_true rfl) (fun rv uu H locs hp hG => ?_)
          obtain ⟨rfl, rfl⟩ := hp
          replace hG : gW D cy b n s H locs (enc b cy X S0) := hG
          obtain ⟨hg_15, hM⟩ := gd_some hM
          refine gi_if_eq (tgt := 113) hx hb dX3_partIsEmpty_106 (by decide) hg_15 (fun c_16 => ?_) (fun c_16 => ?_)
          · replace hM := ifp hM c_16
            refine lv_iconst (v := iI 0) hx hb dX3_partIsEmpty_113 (by decide) ?_
            cases hM
            exact g_zret S hr hlk hG hsz dX3_partIsEmpty_114 ⟨Nat.le_of_ble_eq_true rfl, Nat.le_of_ble_eq_true rfl⟩ (nar_z (by decide)) ⟨rfl, rfl⟩
          · replace hM := ifn hM c_16
            refine lv_iconst (v := iI 1) hx hb dX3_partIsEmpty_109 (by decide) ?_
            refine lv_goto (tgt := 114) hx hb dX3_partIsEmpty_110 (by decide) ?_
            cases hM
            exact g_zret S hr hlk hG hsz dX3_partIsEmpty_114 ⟨Nat.le_of_ble_eq_true rfl, Nat.le_of_ble_eq_true rfl⟩ (nar_z (by decide)) ⟨rfl, rfl⟩
        · replace hM := ifn hM c_12
          refine lv_aload_n hx hb dX3_partIsEmpty_81 rfl (lv_at hl 1 rfl) ?_
          refine m_get S hG 26 26 0 rfl ec_26 cpX3 wm_319 dX3_partIsEmpty_82 rfl (Nat.lt_of_lt_of_le (Nat.le_of_ble_eq_true rfl) hn) (by decide) ?_
          refine m_get S hG 13 13 6 rfl ec_13 cpX2 wm_242 dX3_partIsEmpty_85 rfl (Nat.lt_of_lt_of_le (Nat.le_of_ble_eq_true rfl) hn) (by decide) ?_
          refine lv_iload_n hx hb dX3_partIsEmpty_88 rfl (lv_at hl 2 rfl) ?_
          refine mi_ald S hG 15 15 rfl ec_15 (Nat.lt_of_lt_of_le (Nat.le_of_ble_eq_true rfl) hn) dX3_partIsEmpty_89 hg_1 (by decide) ?_
          obtain ⟨hg_17, hM⟩ := gd_some hM
          refine gi_if_eq (tgt := 109) hx hb dX3_partIsEmpty_90 (by decide) hg_17 (fun c_18 => ?_) (fun c_18 => ?_)
          · replace hM := ifp hM c_18
            refine lv_iconst (v := iI 1) hx hb dX3_partIsEmpty_109 (by decide) ?_
            refine lv_goto (tgt := 114) hx hb dX3_partIsEmpty_110 (by decide) ?_
            cases hM
            exact g_zret S hr hlk hG hsz dX3_partIsEmpty_114 ⟨Nat.le_of_ble_eq_true rfl, Nat.le_of_ble_eq_true rfl⟩ (nar_z (by decide)) ⟨rfl, rfl⟩
          · replace hM := ifn hM c_18
            refine lv_aload_n hx hb dX3_partIsEmpty_93 rfl (lv_at hl 1 rfl) ?_
            refine lv_aload_n hx hb dX3_partIsEmpty_94 rfl (lv_at hl 1 rfl) ?_
            refine m_get S hG 26 26 0 rfl ec_26 cpX3 wm_319 dX3_partIsEmpty_95 rfl (Nat.lt_of_lt_of_le (Nat.le_of_ble_eq_true rfl) hn) (by decide) ?_
            refine m_get S hG 13 13 7 rfl ec_13 cpX2 wm_249 dX3_partIsEmpty_98 rfl (Nat.lt_of_lt_of_le (Nat.le_of_ble_eq_true rfl) hn) (by decide) ?_
            refine lv_iload_n hx hb dX3_partIsEmpty_101 rfl (lv_at hl 2 rfl) ?_
            refine mi_ald S hG 16 16 rfl ec_16 (Nat.lt_of_lt_of_le (Nat.le_of_ble_eq_true rfl) hn) dX3_partIsEmpty_102 hg_1 (by decide) ?_
            obtain ⟨r_20, hc_19, hM⟩ := bd1_some hM
            refine g_vi (As := [.int (iI (S0 16 a1))]) (rest := []) S hG hsz (vX3_isEmpty_26 l hn (S0 16 a1) hc_19) wV_3_80 (ec_26 _) cpX3 (Nat.lt_of_lt_of_le (Nat.le_of_ble_eq_true rfl) hn) dX3_partIsEmpty_103 rfl hl.1 (ar := 1) (by decide +kernel) rfl ⟨Nat.le_of_ble_eq_true rfl, Nat.le_of_ble_eq_true rfl, Nat.le_of_ble_eq_true rfl, Nat.le_of_ble_eq_true rfl⟩ (Nat.le_of_ble_eq_true rfl) (fun rv uu H locs hp hG => ?_)
            obtain ⟨rfl, rfl⟩ := hp
            replace hG : gW D cy b n s H locs (enc b cy X S0) := hG
            obtain ⟨hg_21, hM⟩ := gd_some hM
            refine gi_if_eq (tgt := 113) hx hb dX3_partIsEmpty_106 (by decide) hg_21 (fun c_22 => ?_) (fun c_22 => ?_)
            · replace hM := ifp hM c_22
              refine lv_iconst (v := iI 0) hx hb dX3_partIsEmpty_113 (by decide) ?_
              cases hM
              exact g_zret S hr hlk hG hsz dX3_partIsEmpty_114 ⟨Nat.le_of_ble_eq_true rfl, Nat.le_of_ble_eq_true rfl⟩ (nar_z (by decide)) ⟨rfl, rfl⟩
            · replace hM := ifn hM c_22
              refine lv_iconst (v := iI 1) hx hb dX3_partIsEmpty_109 (by decide) ?_
              refine lv_goto (tgt := 114) hx hb dX3_partIsEmpty_110 (by decide) ?_
              cases hM
              exact g_zret S hr hlk hG hsz dX3_partIsEmpty_114 ⟨Nat.le_of_ble_eq_true rfl, Nat.le_of_ble_eq_true rfl⟩ (nar_z (by decide)) ⟨rfl, rfl⟩
      · replace hM := ifp hM c_11
        refine lv_aload_n hx hb dX3_partIsEmpty_66 rfl (lv_at hl 1 rfl) ?_
        refine lv_bipush (v := iI 6) hx hb dX3_partIsEmpty_67 (by decide) ?_
        refine lv_iload_n hx hb dX3_partIsEmpty_69 rfl (lv_at hl 2 rfl) ?_
        refine gi_add hx hb dX3_partIsEmpty_70 ?_
        obtain ⟨r_24, hc_23, hM⟩ := bd1_some hM
        refine g_vi (As := [.int (iI (6 + a1))]) (rest := []) S hG hsz (vX3_exprIsEmpty_26 l hn (6 + a1) hc_23) wV_3_68 (ec_26 _) cpX3 (Nat.lt_of_lt_of_le (Nat.le_of_ble_eq_true rfl) hn) dX3_partIsEmpty_71 rfl hl.1 (ar := 1) (by decide +kernel) rfl ⟨Nat.le_of_ble_eq_true rfl, Nat.le_of_ble_eq_true rfl, Nat.le_of_ble_eq_true rfl, Nat.le_of_ble_eq_true rfl⟩ (Nat.le_of_ble_eq_true rfl) (fun rv uu H locs hp hG => ?_)
        obtain ⟨rfl, rfl⟩ := hp
        replace hG : gW D cy b n s H locs (enc b cy X S0) := hG
        obtain ⟨hg_25, hM⟩ := gd_some hM
        cases hM
        exact g_zret S hr hlk hG hsz dX3_partIsEmpty_74 ⟨Nat.le_of_ble_eq_true rfl, Nat.le_of_ble_eq_true rfl⟩ (nar_z hg_25) ⟨rfl, rfl⟩
    · replace hM := ifp hM c_10
      refine lv_aload_n hx hb dX3_partIsEmpty_35 rfl (lv_at hl 1 rfl) ?_
      refine m_get S hG 26 26 2 rfl ec_26 cpX3 wm_321 dX3_partIsEmpty_36 rfl (Nat.lt_of_lt_of_le (Nat.le_of_ble_eq_true rfl) hn) (by decide) ?_
      refine lv_aload_n hx hb dX3_partIsEmpty_39 rfl (lv_at hl 1 rfl) ?_
      refine m_get S hG 26 26 0 rfl ec_26 cpX3 wm_319 dX3_partIsEmpty_40 rfl (Nat.lt_of_lt_of_le (Nat.le_of_ble_eq_true rfl) hn) (by decide) ?_
      refine m_get S hG 13 13 6 rfl ec_13 cpX2 wm_242 dX3_partIsEmpty_43 rfl (Nat.lt_of_lt_of_le (Nat.le_of_ble_eq_true rfl) hn) (by decide) ?_
      refine lv_iload_n hx hb dX3_partIsEmpty_46 rfl (lv_at hl 2 rfl) ?_
      refine mi_ald S hG 15 15 rfl ec_15 (Nat.lt_of_lt_of_le (Nat.le_of_ble_eq_true rfl) hn) dX3_partIsEmpty_47 hg_1 (by decide) ?_
      refine gi_shr hx hb dX3_partIsEmpty_48 ?_
      refine lv_iconst (v := iI 1) hx hb dX3_partIsEmpty_49 (by decide) ?_
      refine gi_and hx hb dX3_partIsEmpty_50 ?_
      obtain ⟨hg_26, hM⟩ := gd_some hM
      refine gi_if_eq (tgt := 58) hx hb dX3_partIsEmpty_51 (by decide) hg_26 (fun c_27 => ?_) (fun c_27 => ?_)
      · replace hM := ifp hM c_27
        refine lv_iconst (v := iI 0) hx hb dX3_partIsEmpty_58 (by decide) ?_
        cases hM
        exact g_zret S hr hlk hG hsz dX3_partIsEmpty_59 ⟨Nat.le_of_ble_eq_true rfl, Nat.le_of_ble_eq_true rfl⟩ (nar_z (by decide)) ⟨rfl, rfl⟩
      · replace hM := ifn hM c_27
        refine lv_iconst (v := iI 1) hx hb dX3_partIsEmpty_54 (by decide) ?_
        refine lv_goto (tgt := 59) hx hb dX3_partIsEmpty_55 (by decide) ?_
        cases hM
        exact g_zret S hr hlk hG hsz dX3_partIsEmpty_59 ⟨Nat.le_of_ble_eq_true rfl, Nat.le_of_ble_eq_true rfl⟩ (nar_z (by decide)) ⟨rfl, rfl⟩
  clear hM
  replace hM := hc_4
  obtain ⟨hg_28, hM⟩ := gd_some hM
  refine gi_if_eq (tgt := 19) hx hb dX3_partIsEmpty_11 (by decide) hg_28 (fun c_29 => ?_) (fun c_29 => ?_)
  · replace hM := ifp hM c_29
    cases hM
    exact hK_5 H locs ls rfl hG (lv_sub hl [0] rfl)
  · replace hM := ifn hM c_29
    refine lv_iload_n hx hb dX3_partIsEmpty_14 rfl (lv_at hl 0 rfl) ?_
    refine lv_iconst (v := iI 1) hx hb dX3_partIsEmpty_15 (by decide) ?_
    refine gi_icmp_ne (tgt := 30) hx hb dX3_partIsEmpty_16 (by decide) hg_28 (by decide) (fun c_30 => ?_) (fun c_30 => ?_)
    · replace hM := ifn hM c_30
      cases hM
      exact hK_8 H locs ls rfl hG (lv_sub hl [0, 1, 2] rfl)
    · replace hM := ifp hM c_30
      cases hM
      exact hK_5 H locs ls rfl hG (lv_sub hl [0] rfl)
def mX3_findEmpty_26_86 (x_17 : Int) (x_16 : Int) (v_3 : Int) : Nat → Int → St → Option (St)
  | 0, _, _ => none
  | f + 1, v_24, S_25 => gd ((inI v_24) ∧ (inI (S_25 13 1))) <| if (S_25 13 1) ≤ v_24 then (some (S_25)) else (bd1 (mX3_exprIsEmpty_26 S_25 v_24) fun r_39 => gd (inI r_39) <| if r_39 = 0 then (nx (up S_25 26 2 (orr (S_25 26 2) 0)) fun S_42 => mX3_findEmpty_26_86 x_17 x_16 v_3 f (v_24 + 1) S_42) else (nx (up S_25 26 2 (orr (S_25 26 2) (shl 1 v_24))) fun S_43 => mX3_findEmpty_26_86 x_17 x_16 v_3 f (v_24 + 1) S_43))
def mX3_findEmpty_26_46 (x_17 : Int) (x_16 : Int) (v_3 : Int) : Nat → Int → St → Option (St)
  | 0, _, _ => none
  | f + 1, v_19, S_20 => gd (inI v_19) <| if v_19 < 0 then (some (S_20)) else (bd1 (mX3_partIsEmpty_26 S_20 v_19) fun r_50 => gd (inI r_50) <| if r_50 = 0 then (nx (up S_20 26 1 (orr (S_20 26 1) 0)) fun S_53 => mX3_findEmpty_26_46 x_17 x_16 v_3 f (v_19 - 1) S_53) else (nx (up S_20 26 1 (orr (S_20 26 1) (shl 1 v_19))) fun S_54 => mX3_findEmpty_26_46 x_17 x_16 v_3 f (v_19 - 1) S_54))
def mX3_findEmpty_26_14  : Nat → Int → Int → St → Option (St)
  | 0, _, _, _ => none
  | f + 1, v_3, v_4, S_5 => gd (inI v_3) <| if 54 < v_3 then (some (S_5)) else (gd (inI v_4) <| if v_4 = 0 then (some (S_5)) else (nx (S_5 26 1) fun x_16 => nx (S_5 26 2) fun x_17 => nx ((S_5 13 3) - 1) fun x_18 => bd1 (mX3_findEmpty_26_46 x_17 x_16 v_3 FU x_18 S_5) fun S_21 => bd1 (mX3_findEmpty_26_86 x_17 x_16 v_3 FU 0 S_21) fun S_26 => gd ((inI x_16) ∧ (inI (S_26 26 1))) <| if x_16 = (S_26 26 1) then (gd ((inI x_17) ∧ (inI (S_26 26 2))) <| if x_17 = (S_26 26 2) then (mX3_findEmpty_26_14 f (v_3 + 1) 0 S_26) else (mX3_findEmpty_26_14 f (v_3 + 1) 1 S_26)) else (mX3_findEmpty_26_14 f (v_3 + 1) 1 S_26)))
def mX3_findEmpty_26 (S0 : St)  : Option (St) := nx (up S0 26 1 0) fun S_1 => nx (up S_1 26 2 0) fun S_2 => bd1 (mX3_findEmpty_26_14 FU 0 1 S_2) fun S_6 => some (S_6)
set_option maxHeartbeats 4000000 in
set_option maxRecDepth 100000 in
theorem vX3_findEmpty_26 (l : Launch) {D : va_G} {cy : Nat → ClassId} {b n : Nat} (hn : 102 ≤ n) {X : Nat → va_E} {S0 : St}  {o1 : St} (hM : mX3_findEmpty_26 S0  = some o1) : gV l yX3_findEmpty cX3_findEmpty 6 4 0 0 D cy b n (enc b cy X S0) [.ref (b + 26)] (fun u => u = (n, enc b cy X o1)) := by
  refine gV_of (by decide) (Nat.le_of_ble_eq_true rfl) ?_
  intro p e s m args below meth c S hr hlk hin hsz ls hl hG
  have hx := S.1
  have hb := S.2.1
  have hl : lv_has ls 6 [(0, .ref (b + 26))] := hl
  replace hG : gW D cy b n s s.heap [] (enc b cy X S0) := hG
  obtain ⟨H, eH⟩ : ∃ H, H = s.heap := ⟨_, rfl⟩
  obtain ⟨locs, elocs⟩ : ∃ locs : List Loc, locs = [] := ⟨_, rfl⟩
  rw [← eH, ← elocs] at hG
  rw [← eH, ← elocs]
  clear eH elocs
  unfold mX3_findEmpty_26 at hM
  refine lv_aload_n hx hb dX3_findEmpty_0 rfl (lv_at hl 0 rfl) ?_
  refine lv_iconst (v := iI 0) hx hb dX3_findEmpty_1 (by decide) ?_
  refine m_put S hG 26 26 1 rfl 1 0 ec_26 cpX3 wm_320 dX3_findEmpty_2 (pf_26_1) (Nat.lt_of_lt_of_le (Nat.le_of_ble_eq_true rfl) hn) (by decide) (Nat.le_of_ble_eq_true rfl) rfl rfl rfl (fun H locs S_1 eS_1 hG => ?_)
  replace hM := nx_at hM eS_1
  clear eS_1
  refine lv_aload_n hx hb dX3_findEmpty_5 rfl (lv_at hl 0 rfl) ?_
  refine lv_iconst (v := iI 0) hx hb dX3_findEmpty_6 (by decide) ?_
  refine m_put S hG 26 26 2 rfl 2 0 ec_26 cpX3 wm_321 dX3_findEmpty_7 (pf_26_2) (Nat.lt_of_lt_of_le (Nat.le_of_ble_eq_true rfl) hn) (by decide) (Nat.le_of_ble_eq_true rfl) rfl rfl rfl (fun H locs S_2 eS_2 hG => ?_)
  replace hM := nx_at hM eS_2
  clear eS_2
  refine lv_iconst (v := iI 1) hx hb dX3_findEmpty_10 (by decide) ?_
  refine lv_istore_n (lv' := [(1, .int (iI 1)), (0, .ref (b + 26))]) hx hb dX3_findEmpty_11 rfl hl (by decide) rfl (fun ls hl => ?_)
  refine lv_iconst (v := iI 0) hx hb dX3_findEmpty_12 (by decide) ?_
  refine lv_istore_n (lv' := [(2, .int (iI 0)), (1, .int (iI 1)), (0, .ref (b + 26))]) hx hb dX3_findEmpty_13 rfl hl (by decide) rfl (fun ls hl => ?_)
  obtain ⟨S_6, hc_7, hM⟩ := bd1_some hM
  have hK_8 : ∀ (H : Heap) (locs : List Loc) (ls : Array Slot), gW D cy b n s H locs (enc b cy X S_6) → lv_has ls 6 [] → W p l e (gRm 4 0 0) s m args below meth c H locs 0 0 (gQV D cy b s args below 0 0 (fun u => u = (n, enc b cy X o1))) (F0 m 159 ls []) := by
    intro H locs ls hG hl
    cases hM
    exact g_vret S hr hlk hG hsz dX3_findEmpty_159 ⟨Nat.le_of_ble_eq_true rfl, Nat.le_of_ble_eq_true rfl⟩ rfl
  have loop_9 : ∀ (f : Nat) (v_3 : Int) (v_4 : Int) (S_5 : St) (H : Heap) (locs : List Loc) (ls : Array Slot), mX3_findEmpty_26_14 f v_3 v_4 S_5 = some S_6 → gW D cy b n s H locs (enc b cy X S_5) → lv_has ls 6 [(2, .int (iI v_3)), (1, .int (iI v_4)), (0, .ref (b + 26))] → W p l e (gRm 4 0 0) s m args below meth c H locs 0 0 (gQV D cy b s args below 0 0 (fun u => u = (n, enc b cy X o1))) (F0 m 14 ls []) := by
    clear hM
    intro f
    induction f with
    | zero => intro v_3 v_4 S_5 H locs ls hM; rw [mX3_findEmpty_26_14] at hM; cases hM
    | succ f_11 ih_10 =>
      intro v_3 v_4 S_5 H locs ls hM hG hl
      rw [mX3_findEmpty_26_14] at hM
      refine lv_iload_n hx hb dX3_findEmpty_14 rfl (lv_at hl 0 rfl) ?_
      refine lv_bipush (v := iI 54) hx hb dX3_findEmpty_15 (by decide) ?_
      obtain ⟨hg_12, hM⟩ := gd_some hM
      refine gi_icmp_gt (tgt := 159) hx hb dX3_findEmpty_17 (by decide) hg_12 (by decide) (fun c_13 => ?_) (fun c_13 => ?_)
      · replace hM := ifp hM c_13
        cases hM
        exact hK_8 H locs ls hG (lv_sub hl [] rfl)
      · replace hM := ifn hM c_13
        refine lv_iload_n hx hb dX3_findEmpty_20 rfl (lv_at hl 1 rfl) ?_
        obtain ⟨hg_14, hM⟩ := gd_some hM
        refine gi_if_eq (tgt := 159) hx hb dX3_findEmpty_21 (by decide) hg_14 (fun c_15 => ?_) (fun c_15 => ?_)
        · replace hM := ifp hM c_15
          cases hM
          exact hK_8 H locs ls hG (lv_sub hl [] rfl)
        · replace hM := ifn hM c_15
          refine lv_aload_n hx hb dX3_findEmpty_24 rfl (lv_at hl 2 rfl) ?_
          refine m_get S hG 26 26 1 rfl ec_26 cpX3 wm_320 dX3_findEmpty_25 rfl (Nat.lt_of_lt_of_le (Nat.le_of_ble_eq_true rfl) hn) (by decide) ?_
          refine gi_nm (fun x_16 ex_16 => ?_)
          replace hM := nx_at hM ex_16
          clear ex_16
          refine lv_istore_n (lv' := [(3, .int (iI x_16)), (2, .int (iI v_3)), (1, .int (iI v_4)), (0, .ref (b + 26))]) hx hb dX3_findEmpty_28 rfl hl (by decide) rfl (fun ls hl => ?_)
          refine lv_aload_n hx hb dX3_findEmpty_29 rfl (lv_at hl 3 rfl) ?_
          refine m_get S hG 26 26 2 rfl ec_26 cpX3 wm_321 dX3_findEmpty_30 rfl (Nat.lt_of_lt_of_le (Nat.le_of_ble_eq_true rfl) hn) (by decide) ?_
          refine gi_nm (fun x_17 ex_17 => ?_)
          replace hM := nx_at hM ex_17
          clear ex_17
          refine lv_istore (lv' := [(4, .int (iI x_17)), (3, .int (iI x_16)), (2, .int (iI v_3)), (1, .int (iI v_4)), (0, .ref (b + 26))]) hx hb dX3_findEmpty_33 hl (by decide) rfl (fun ls hl => ?_)
          refine lv_aload_n hx hb dX3_findEmpty_35 rfl (lv_at hl 4 rfl) ?_
          refine m_get S hG 26 26 0 rfl ec_26 cpX3 wm_319 dX3_findEmpty_36 rfl (Nat.lt_of_lt_of_le (Nat.le_of_ble_eq_true rfl) hn) (by decide) ?_
          refine m_get S hG 13 13 3 rfl ec_13 cpX2 wm_227 dX3_findEmpty_39 rfl (Nat.lt_of_lt_of_le (Nat.le_of_ble_eq_true rfl) hn) (by decide) ?_
          refine lv_iconst (v := iI 1) hx hb dX3_findEmpty_42 (by decide) ?_
          refine gi_sub hx hb dX3_findEmpty_43 ?_
          refine gi_nm (fun x_18 ex_18 => ?_)
          replace hM := nx_at hM ex_18
          clear ex_18
          refine lv_istore (lv' := [(5, .int (iI x_18)), (4, .int (iI x_17)), (3, .int (iI x_16)), (2, .int (iI v_3)), (1, .int (iI v_4)), (0, .ref (b + 26))]) hx hb dX3_findEmpty_44 hl (by decide) rfl (fun ls hl => ?_)
          obtain ⟨S_21, hc_22, hM⟩ := bd1_some hM
          have hK_23 : ∀ (H : Heap) (locs : List Loc) (ls : Array Slot), gW D cy b n s H locs (enc b cy X S_21) → lv_has ls 6 [(4, .int (iI x_17)), (3, .int (iI x_16)), (2, .int (iI v_3)), (0, .ref (b + 26))] → W p l e (gRm 4 0 0) s m args below meth c H locs 0 0 (gQV D cy b s args below 0 0 (fun u => u = (n, enc b cy X o1))) (F0 m 83 ls []) := by
            intro H locs ls hG hl
            refine lv_iconst (v := iI 0) hx hb dX3_findEmpty_83 (by decide) ?_
            refine lv_istore (lv' := [(5, .int (iI 0)), (4, .int (iI x_17)), (3, .int (iI x_16)), (2, .int (iI v_3)), (0, .ref (b + 26))]) hx hb dX3_findEmpty_84 hl (by decide) rfl (fun ls hl => ?_)
            obtain ⟨S_26, hc_27, hM⟩ := bd1_some hM
            have hK_28 : ∀ (H : Heap) (locs : List Loc) (ls : Array Slot), gW D cy b n s H locs (enc b cy X S_26) → lv_has ls 6 [(4, .int (iI x_17)), (3, .int (iI x_16)), (2, .int (iI v_3)), (0, .ref (b + 26))] → W p l e (gRm 4 0 0) s m args below meth c H locs 0 0 (gQV D cy b s args below 0 0 (fun u => u = (n, enc b cy X o1))) (F0 m 130 ls []) := by
              intro H locs ls hG hl
              refine lv_iload_n hx hb dX3_findEmpty_130 rfl (lv_at hl 1 rfl) ?_
              refine lv_aload_n hx hb dX3_findEmpty_131 rfl (lv_at hl 3 rfl) ?_
              refine m_get S hG 26 26 1 rfl ec_26 cpX3 wm_320 dX3_findEmpty_132 rfl (Nat.lt_of_lt_of_le (Nat.le_of_ble_eq_true rfl) hn) (by decide) ?_
              obtain ⟨hg_29, hM⟩ := gd_some hM
              refine gi_icmp_ne (tgt := 147) hx hb dX3_findEmpty_135 (by decide) hg_29.1 hg_29.2 (fun c_30 => ?_) (fun c_30 => ?_)
              · replace hM := ifn hM c_30
                refine lv_iconst (v := iI 1) hx hb dX3_findEmpty_147 (by decide) ?_
                refine lv_goto (tgt := 152) hx hb dX3_findEmpty_148 (by decide) ?_
                refine lv_istore_n (lv' := [(1, .int (iI 1)), (4, .int (iI x_17)), (3, .int (iI x_16)), (2, .int (iI v_3)), (0, .ref (b + 26))]) hx hb dX3_findEmpty_152 rfl hl (by decide) rfl (fun ls hl => ?_)
                refine lv_iinc (v := iI (v_3 + 1)) (lv' := [(2, .int (iI (v_3 + 1))), (1, .int (iI 1)), (4, .int (iI x_17)), (3, .int (iI x_16)), (0, .ref (b + 26))]) hx hb dX3_findEmpty_153 hl (k := 3) rfl ((iI_add v_3 (1)).trans (congrArg iI (by omega))) (by decide) rfl (fun ls hl => ?_)
                refine lv_goto (tgt := 14) hx hb dX3_findEmpty_156 (by decide) ?_
                exact ih_10 (v_3 + 1) 1 S_26 H locs ls hM hG (lv_sub hl [0, 1, 4] rfl)
              · replace hM := ifp hM c_30
                refine lv_iload hx hb dX3_findEmpty_138 (lv_at hl 0 rfl) ?_
                refine lv_aload_n hx hb dX3_findEmpty_140 rfl (lv_at hl 3 rfl) ?_
                refine m_get S hG 26 26 2 rfl ec_26 cpX3 wm_321 dX3_findEmpty_141 rfl (Nat.lt_of_lt_of_le (Nat.le_of_ble_eq_true rfl) hn) (by decide) ?_
                obtain ⟨hg_31, hM⟩ := gd_some hM
                refine gi_icmp_eq (tgt := 151) hx hb dX3_findEmpty_144 (by decide) hg_31.1 hg_31.2 (fun c_32 => ?_) (fun c_32 => ?_)
                · replace hM := ifp hM c_32
                  refine lv_iconst (v := iI 0) hx hb dX3_findEmpty_151 (by decide) ?_
                  refine lv_istore_n (lv' := [(1, .int (iI 0)), (4, .int (iI x_17)), (3, .int (iI x_16)), (2, .int (iI v_3)), (0, .ref (b + 26))]) hx hb dX3_findEmpty_152 rfl hl (by decide) rfl (fun ls hl => ?_)
                  refine lv_iinc (v := iI (v_3 + 1)) (lv' := [(2, .int (iI (v_3 + 1))), (1, .int (iI 0)), (4, .int (iI x_17)), (3, .int (iI x_16)), (0, .ref (b + 26))]) hx hb dX3_findEmpty_153 hl (k := 3) rfl ((iI_add v_3 (1)).trans (congrArg iI (by omega))) (by decide) rfl (fun ls hl => ?_)
                  refine lv_goto (tgt := 14) hx hb dX3_findEmpty_156 (by decide) ?_
                  exact ih_10 (v_3 + 1) 0 S_26 H locs ls hM hG (lv_sub hl [0, 1, 4] rfl)
                · replace hM := ifn hM c_32
                  refine lv_iconst (v := iI 1) hx hb dX3_findEmpty_147 (by decide) ?_
                  refine lv_goto (tgt := 152) hx hb dX3_findEmpty_148 (by decide) ?_
                  refine lv_istore_n (lv' := [(1, .int (iI 1)), (4, .int (iI x_17)), (3, .int (iI x_16)), (2, .int (iI v_3)), (0, .ref (b + 26))]) hx hb dX3_findEmpty_152 rfl hl (by decide) rfl (fun ls hl => ?_)
                  refine lv_iinc (v := iI (v_3 + 1)) (lv' := [(2, .int (iI (v_3 + 1))), (1, .int (iI 1)), (4, .int (iI x_17)), (3, .int (iI x_16)), (0, .ref (b + 26))]) hx hb dX3_findEmpty_153 hl (k := 3) rfl ((iI_add v_3 (1)).trans (congrArg iI (by omega))) (by decide) rfl (fun ls hl => ?_)
                  refine lv_goto (tgt := 14) hx hb dX3_findEmpty_156 (by decide) ?_
                  exact ih_10 (v_3 + 1) 1 S_26 H locs ls hM hG (lv_sub hl [0, 1, 4] rfl)
            have loop_33 : ∀ (f : Nat) (v_24 : Int) (S_25 : St) (H : Heap) (locs : List Loc) (ls : Array Slot), mX3_findEmpty_26_86 x_17 x_16 v_3 f v_24 S_25 = some S_26 → gW D cy b n s H locs (enc b cy X S_25) → lv_has ls 6 [(5, .int (iI v_24)), (4, .int (iI x_17)), (3, .int (iI x_16)), (2, .int (iI v_3)), (0, .ref (b + 26))] → W p l e (gRm 4 0 0) s m args below meth c H locs 0 0 (gQV D cy b s args below 0 0 (fun u => u = (n, enc b cy X o1))) (F0 m 86 ls []) := by
              clear hM
              intro f
              induction f with
              | zero => intro v_24 S_25 H locs ls hM; rw [mX3_findEmpty_26_86] at hM; cases hM
              | succ f_35 ih_34 =>
                intro v_24 S_25 H locs ls hM hG hl
                rw [mX3_findEmpty_26_86] at hM
                refine lv_iload hx hb dX3_findEmpty_86 (lv_at hl 0 rfl) ?_
                refine lv_aload_n hx hb dX3_findEmpty_88 rfl (lv_at hl 4 rfl) ?_
                refine m_get S hG 26 26 0 rfl ec_26 cpX3 wm_319 dX3_findEmpty_89 rfl (Nat.lt_of_lt_of_le (Nat.le_of_ble_eq_true rfl) hn) (by decide) ?_
                refine m_get S hG 13 13 1 rfl ec_13 cpX2 wm_219 dX3_findEmpty_92 rfl (Nat.lt_of_lt_of_le (Nat.le_of_ble_eq_true rfl) hn) (by decide) ?_
                obtain ⟨hg_36, hM⟩ := gd_some hM
                refine gi_icmp_ge (tgt := 130) hx hb dX3_findEmpty_95 (by decide) hg_36.1 hg_36.2 (fun c_37 => ?_) (fun c_37 => ?_)
                · replace hM := ifp hM c_37
                  cases hM
                  exact hK_28 H locs ls hG (lv_sub hl [1, 2, 3, 4] rfl)
                · replace hM := ifn hM c_37
                  refine lv_aload_n hx hb dX3_findEmpty_98 rfl (lv_at hl 4 rfl) ?_
                  refine lv_dup hx hb dX3_findEmpty_99 rfl ?_
                  refine m_get S hG 26 26 2 rfl ec_26 cpX3 wm_321 dX3_findEmpty_100 rfl (Nat.lt_of_lt_of_le (Nat.le_of_ble_eq_true rfl) hn) (by decide) ?_
                  refine lv_aload_n hx hb dX3_findEmpty_103 rfl (lv_at hl 4 rfl) ?_
                  refine lv_iload hx hb dX3_findEmpty_104 (lv_at hl 0 rfl) ?_
                  obtain ⟨r_39, hc_38, hM⟩ := bd1_some hM
                  refine g_vi (As := [.int (iI v_24)]) (rest := [.int (iI (S_25 26 2)), .ref (b + 26)]) S hG hsz (vX3_exprIsEmpty_26 l hn v_24 hc_38) wV_3_68 (ec_26 _) cpX3 (Nat.lt_of_lt_of_le (Nat.le_of_ble_eq_true rfl) hn) dX3_findEmpty_106 rfl hl.1 (ar := 1) (by decide +kernel) rfl ⟨Nat.le_of_ble_eq_true rfl, Nat.le_of_ble_eq_true rfl, Nat.le_of_ble_eq_true rfl, Nat.le_of_ble_eq_true rfl⟩ (Nat.le_of_ble_eq_true rfl) (fun rv uu H locs hp hG => ?_)
                  obtain ⟨rfl, rfl⟩ := hp
                  replace hG : gW D cy b n s H locs (enc b cy X S_25) := hG
                  obtain ⟨hg_40, hM⟩ := gd_some hM
                  refine gi_if_eq (tgt := 119) hx hb dX3_findEmpty_109 (by decide) hg_40 (fun c_41 => ?_) (fun c_41 => ?_)
                  · replace hM := ifp hM c_41
                    refine lv_iconst (v := iI 0) hx hb dX3_findEmpty_119 (by decide) ?_
                    refine gi_or hx hb dX3_findEmpty_120 ?_
                    refine m_put S hG 26 26 2 rfl 2 (orr (S_25 26 2) 0) ec_26 cpX3 wm_321 dX3_findEmpty_121 (pf_26_2) (Nat.lt_of_lt_of_le (Nat.le_of_ble_eq_true rfl) hn) (by decide) (Nat.le_of_ble_eq_true rfl) rfl rfl rfl (fun H locs S_42 eS_42 hG => ?_)
                    replace hM := nx_at hM eS_42
                    clear eS_42
                    refine lv_iinc (v := iI (v_24 + 1)) (lv' := [(5, .int (iI (v_24 + 1))), (4, .int (iI x_17)), (3, .int (iI x_16)), (2, .int (iI v_3)), (0, .ref (b + 26))]) hx hb dX3_findEmpty_124 hl (k := 0) rfl ((iI_add v_24 (1)).trans (congrArg iI (by omega))) (by decide) rfl (fun ls hl => ?_)
                    refine lv_goto (tgt := 86) hx hb dX3_findEmpty_127 (by decide) ?_
                    exact ih_34 (v_24 + 1) S_42 H locs ls hM hG (lv_sub hl [0, 1, 2, 3, 4] rfl)
                  · replace hM := ifn hM c_41
                    refine lv_iconst (v := iI 1) hx hb dX3_findEmpty_112 (by decide) ?_
                    refine lv_iload hx hb dX3_findEmpty_113 (lv_at hl 0 rfl) ?_
                    refine gi_shl hx hb dX3_findEmpty_115 ?_
                    refine lv_goto (tgt := 120) hx hb dX3_findEmpty_116 (by decide) ?_
                    refine gi_or hx hb dX3_findEmpty_120 ?_
                    refine m_put S hG 26 26 2 rfl 2 (orr (S_25 26 2) (shl 1 v_24)) ec_26 cpX3 wm_321 dX3_findEmpty_121 (pf_26_2) (Nat.lt_of_lt_of_le (Nat.le_of_ble_eq_true rfl) hn) (by decide) (Nat.le_of_ble_eq_true rfl) rfl rfl rfl (fun H locs S_43 eS_43 hG => ?_)
                    replace hM := nx_at hM eS_43
                    clear eS_43
                    refine lv_iinc (v := iI (v_24 + 1)) (lv' := [(5, .int (iI (v_24 + 1))), (4, .int (iI x_17)), (3, .int (iI x_16)), (2, .int (iI v_3)), (0, .ref (b + 26))]) hx hb dX3_findEmpty_124 hl (k := 0) rfl ((iI_add v_24 (1)).trans (congrArg iI (by omega))) (by decide) rfl (fun ls hl => ?_)
                    refine lv_goto (tgt := 86) hx hb dX3_findEmpty_127 (by decide) ?_
                    exact ih_34 (v_24 + 1) S_43 H locs ls hM hG (lv_sub hl [0, 1, 2, 3, 4] rfl)
            exact loop_33 FU 0 S_21 H locs ls hc_27 hG (lv_sub hl [0, 1, 2, 3, 4] rfl)
          have loop_44 : ∀ (f : Nat) (v_19 : Int) (S_20 : St) (H : Heap) (locs : List Loc) (ls : Array Slot), mX3_findEmpty_26_46 x_17 x_16 v_3 f v_19 S_20 = some S_21 → gW D cy b n s H locs (enc b cy X S_20) → lv_has ls 6 [(5, .int (iI v_19)), (4, .int (iI x_17)), (3, .int (iI x_16)), (2, .int (iI v_3)), (0, .ref (b + 26))] → W p l e (gRm 4 0 0) s m args below meth c H locs 0 0 (gQV D cy b s args below 0 0 (fun u => u = (n, enc b cy X o1))) (F0 m 46 ls []) := by
            clear hM
            intro f
            induction f with
            | zero => intro v_19 S_20 H locs ls hM; rw [mX3_findEmpty_26_46] at hM; cases hM
            | succ f_46 ih_45 =>
              intro v_19 S_20 H locs ls hM hG hl
              rw [mX3_findEmpty_26_46] at hM
              refine lv_iload hx hb dX3_findEmpty_46 (lv_at hl 0 rfl) ?_
              obtain ⟨hg_47, hM⟩ := gd_some hM
              refine gi_if_lt (tgt := 83) hx hb dX3_findEmpty_48 (by decide) hg_47 (fun c_48 => ?_) (fun c_48 => ?_)
              · replace hM := ifp hM c_48
                cases hM
                exact hK_23 H locs ls hG (lv_sub hl [1, 2, 3, 4] rfl)
              · replace hM := ifn hM c_48
                refine lv_aload_n hx hb dX3_findEmpty_51 rfl (lv_at hl 4 rfl) ?_
                refine lv_dup hx hb dX3_findEmpty_52 rfl ?_
                refine m_get S hG 26 26 1 rfl ec_26 cpX3 wm_320 dX3_findEmpty_53 rfl (Nat.lt_of_lt_of_le (Nat.le_of_ble_eq_true rfl) hn) (by decide) ?_
                refine lv_aload_n hx hb dX3_findEmpty_56 rfl (lv_at hl 4 rfl) ?_
                refine lv_iload hx hb dX3_findEmpty_57 (lv_at hl 0 rfl) ?_
                obtain ⟨r_50, hc_49, hM⟩ := bd1_some hM
                refine g_vi (As := [.int (iI v_19)]) (rest := [.int (iI (S_20 26 1)), .ref (b + 26)]) S hG hsz (vX3_partIsEmpty_26 l hn v_19 hc_49) wV_3_64 (ec_26 _) cpX3 (Nat.lt_of_lt_of_le (Nat.le_of_ble_eq_true rfl) hn) dX3_findEmpty_59 rfl hl.1 (ar := 1) (by decide +kernel) rfl ⟨Nat.le_of_ble_eq_true rfl, Nat.le_of_ble_eq_true rfl, Nat.le_of_ble_eq_true rfl, Nat.le_of_ble_eq_true rfl⟩ (Nat.le_of_ble_eq_true rfl) (fun rv uu H locs hp hG => ?_)
                obtain ⟨rfl, rfl⟩ := hp
                replace hG : gW D cy b n s H locs (enc b cy X S_20) := hG
                obtain ⟨hg_51, hM⟩ := gd_some hM
                refine gi_if_eq (tgt := 72) hx hb dX3_findEmpty_62 (by decide) hg_51 (fun c_52 => ?_) (fun c_52 => ?_)
                · replace hM := ifp hM c_52
                  refine lv_iconst (v := iI 0) hx hb dX3_findEmpty_72 (by decide) ?_
                  refine gi_or hx hb dX3_findEmpty_73 ?_
                  refine m_put S hG 26 26 1 rfl 1 (orr (S_20 26 1) 0) ec_26 cpX3 wm_320 dX3_findEmpty_74 (pf_26_1) (Nat.lt_of_lt_of_le (Nat.le_of_ble_eq_true rfl) hn) (by decide) (Nat.le_of_ble_eq_true rfl) rfl rfl rfl (fun H locs S_53 eS_53 hG => ?_)
                  replace hM := nx_at hM eS_53
                  clear eS_53
                  refine lv_iinc (v := iI (v_19 - 1)) (lv' := [(5, .int (iI (v_19 - 1))), (4, .int (iI x_17)), (3, .int (iI x_16)), (2, .int (iI v_3)), (0, .ref (b + 26))]) hx hb dX3_findEmpty_77 hl (k := 0) rfl ((iI_add v_19 (-1)).trans (congrArg iI (by omega))) (by decide) rfl (fun ls hl => ?_)
                  refine lv_goto (tgt := 46) hx hb dX3_findEmpty_80 (by decide) ?_
                  exact ih_45 (v_19 - 1) S_53 H locs ls hM hG (lv_sub hl [0, 1, 2, 3, 4] rfl)
                · replace hM := ifn hM c_52
                  refine lv_iconst (v := iI 1) hx hb dX3_findEmpty_65 (by decide) ?_
                  refine lv_iload hx hb dX3_findEmpty_66 (lv_at hl 0 rfl) ?_
                  refine gi_shl hx hb dX3_findEmpty_68 ?_
                  refine lv_goto (tgt := 73) hx hb dX3_findEmpty_69 (by decide) ?_
                  refine gi_or hx hb dX3_findEmpty_73 ?_
                  refine m_put S hG 26 26 1 rfl 1 (orr (S_20 26 1) (shl 1 v_19)) ec_26 cpX3 wm_320 dX3_findEmpty_74 (pf_26_1) (Nat.lt_of_lt_of_le (Nat.le_of_ble_eq_true rfl) hn) (by decide) (Nat.le_of_ble_eq_true rfl) rfl rfl rfl (fun H locs S_54 eS_54 hG => ?_)
                  replace hM := nx_at hM eS_54
                  clear eS_54
                  refine lv_iinc (v := iI (v_19 - 1)) (lv' := [(5, .int (iI (v_19 - 1))), (4, .int (iI x_17)), (3, .int (iI x_16)), (2, .int (iI v_3)), (0, .ref (b + 26))]) hx hb dX3_findEmpty_77 hl (k := 0) rfl ((iI_add v_19 (-1)).trans (congrArg iI (by omega))) (by decide) rfl (fun ls hl => ?_)
                  refine lv_goto (tgt := 46) hx hb dX3_findEmpty_80 (by decide) ?_
                  exact ih_45 (v_19 - 1) S_54 H locs ls hM hG (lv_sub hl [0, 1, 2, 3, 4] rfl)
          exact loop_44 FU x_18 S_5 H locs ls hc_22 hG (lv_sub hl [0, 1, 2, 3, 5] rfl)
  exact loop_9 FU 0 1 S_2 H locs ls hc_7 hG (lv_sub hl [0, 1, 2] rfl)
theorem wV_3_49 : gWV "GrownKinds$Leaning" 49 yX3_studyPart cX3_studyPart 5 none := ⟨wm_921, wm_923, wm_22, wm_180, wm_924, by decide +kernel, by decide +kernel⟩
theorem wV_3_56 : gWV "GrownKinds$Leaning" 56 yX3_exprLeans cX3_exprLeans 7 (some .int) := ⟨wm_925, wm_927, wm_23, wm_180, wm_928, by decide +kernel, by decide +kernel⟩
def mX3_exprLeans_26_51 (S0 : St) (r_13 : Int) (v_1 : Int) (a1 : Int) : Nat → Int → Int → Int → Option (Int)
  | 0, _, _, _ => none
  | f + 1, v_19, v_20, v_21 => gd (inI v_19) <| if 24 ≤ v_19 then (some (v_21)) else (gd (inI v_20) <| if v_20 = (-1) then (some (v_21)) else (bd1 (mX3_allEmpty_26 S0 r_13 v_20) fun r_33 => bd1 (gd (inI r_33) <| if r_33 = 0 then (some (0)) else (gd (0 ≤ v_20 ∧ v_20 < 24) <| some ((S0 27 v_20)))) fun z_34 => nx (orr v_21 z_34) fun x_37 => gd (0 ≤ v_20 ∧ v_20 < 24) <| nx (S0 17 v_20) fun x_39 => mX3_exprLeans_26_51 S0 r_13 v_1 a1 f (v_19 + 1) x_39 x_37))
def mX3_exprLeans_26_4 (S0 : St) (a1 : Int) : Nat → Int → Int → Option (Int)
  | 0, _, _ => none
  | f + 1, v_1, v_2 => gd (0 ≤ a1 ∧ a1 < 30) <| gd ((inI v_1) ∧ (inI (S0 19 a1))) <| if (S0 19 a1) ≤ v_1 then (some (v_2)) else (bd1 (mX2_start_13 S0 a1 v_1) fun r_13 => bd1 (mX2_isOff_13 S0 a1 v_1) fun r_15 => bd1 (gd (inI r_15) <| if r_15 = 0 then (some (r_13)) else (some ((-1)))) fun z_16 => bd1 (mX3_exprLeans_26_51 S0 r_13 v_1 a1 FU 0 z_16 v_2) fun y_22 => mX3_exprLeans_26_4 S0 a1 f (v_1 + 1) y_22)
def mX3_exprLeans_26 (S0 : St) (a1 : Int) : Option (Int) := bd1 (mX3_exprLeans_26_4 S0 a1 FU 0 0) fun y_3 => some (y_3)
set_option maxHeartbeats 4000000 in
set_option maxRecDepth 100000 in
theorem vX3_exprLeans_26 (l : Launch) {D : va_G} {cy : Nat → ClassId} {b n : Nat} (hn : 102 ≤ n) {X : Nat → va_E} {S0 : St} (a1 : Int) {o1 : Int} (hM : mX3_exprLeans_26 S0 a1 = some o1) : gI l yX3_exprLeans cX3_exprLeans 7 (some .int) 2 0 0 D cy b n (enc b cy X S0) [.ref (b + 26), .int (iI a1)] (fun r u => r = iI o1 ∧ u = (n, enc b cy X S0)) := by
  refine gI_of (by decide) (Nat.le_of_ble_eq_true rfl) ?_
  intro p e s m args below meth c S hr hlk hin hsz ls hl hG
  have hx := S.1
  have hb := S.2.1
  have hl : lv_has ls 7 [(0, .ref (b + 26)), (1, .int (iI a1))] := hl
  replace hG : gW D cy b n s s.heap [] (enc b cy X S0) := hG
  obtain ⟨H, eH⟩ : ∃ H, H = s.heap := ⟨_, rfl⟩
  obtain ⟨locs, elocs⟩ : ∃ locs : List Loc, locs = [] := ⟨_, rfl⟩
  rw [← eH, ← elocs] at hG
  rw [← eH, ← elocs]
  clear eH elocs
  unfold mX3_exprLeans_26 at hM
  refine lv_iconst (v := iI 0) hx hb dX3_exprLeans_0 (by decide) ?_
  refine lv_istore_n (lv' := [(2, .int (iI 0)), (0, .ref (b + 26)), (1, .int (iI a1))]) hx hb dX3_exprLeans_1 rfl hl (by decide) rfl (fun ls hl => ?_)
  refine lv_iconst (v := iI 0) hx hb dX3_exprLeans_2 (by decide) ?_
  refine lv_istore_n (lv' := [(3, .int (iI 0)), (2, .int (iI 0)), (0, .ref (b + 26)), (1, .int (iI a1))]) hx hb dX3_exprLeans_3 rfl hl (by decide) rfl (fun ls hl => ?_)
  obtain ⟨y_3, hc_4, hM⟩ := bd1_some hM
  have hK_5 : ∀ (H : Heap) (locs : List Loc) (ls : Array Slot), gW D cy b n s H locs (enc b cy X S0) → lv_has ls 7 [(2, .int (iI y_3))] → W p l e (gRm 2 0 0) s m args below meth c H locs 0 0 (gQI D cy b s args below 0 0 (fun r u => r = iI o1 ∧ u = (n, enc b cy X S0))) (F0 m 113 ls []) := by
    intro H locs ls hG hl
    refine lv_iload_n hx hb dX3_exprLeans_113 rfl (lv_at hl 0 rfl) ?_
    cases hM
    exact g_iret S hr hlk hG hsz dX3_exprLeans_114 ⟨Nat.le_of_ble_eq_true rfl, Nat.le_of_ble_eq_true rfl⟩ ⟨rfl, rfl⟩
  have loop_6 : ∀ (f : Nat) (v_1 : Int) (v_2 : Int) (H : Heap) (locs : List Loc) (ls : Array Slot), mX3_exprLeans_26_4 S0 a1 f v_1 v_2 = some y_3 → gW D cy b n s H locs (enc b cy X S0) → lv_has ls 7 [(3, .int (iI v_1)), (2, .int (iI v_2)), (0, .ref (b + 26)), (1, .int (iI a1))] → W p l e (gRm 2 0 0) s m args below meth c H locs 0 0 (gQI D cy b s args below 0 0 (fun r u => r = iI o1 ∧ u = (n, enc b cy X S0))) (F0 m 4 ls []) := by
    clear hM
    intro f
    induction f with
    | zero => intro v_1 v_2 H locs ls hM; rw [mX3_exprLeans_26_4] at hM; cases hM
    | succ f_8 ih_7 =>
      intro v_1 v_2 H locs ls hM hG hl
      rw [mX3_exprLeans_26_4] at hM
      refine lv_iload_n hx hb dX3_exprLeans_4 rfl (lv_at hl 0 rfl) ?_
      refine lv_aload_n hx hb dX3_exprLeans_5 rfl (lv_at hl 2 rfl) ?_
      refine m_get S hG 26 26 0 rfl ec_26 cpX3 wm_319 dX3_exprLeans_6 rfl (Nat.lt_of_lt_of_le (Nat.le_of_ble_eq_true rfl) hn) (by decide) ?_
      refine m_get S hG 13 13 10 rfl ec_13 cpX2 wm_264 dX3_exprLeans_9 rfl (Nat.lt_of_lt_of_le (Nat.le_of_ble_eq_true rfl) hn) (by decide) ?_
      refine lv_iload_n hx hb dX3_exprLeans_12 rfl (lv_at hl 3 rfl) ?_
      obtain ⟨hg_9, hM⟩ := gd_some hM
      refine mi_ald S hG 19 19 rfl ec_19 (Nat.lt_of_lt_of_le (Nat.le_of_ble_eq_true rfl) hn) dX3_exprLeans_13 hg_9 (by decide) ?_
      obtain ⟨hg_10, hM⟩ := gd_some hM
      refine gi_icmp_ge (tgt := 113) hx hb dX3_exprLeans_14 (by decide) hg_10.1 hg_10.2 (fun c_11 => ?_) (fun c_11 => ?_)
      · replace hM := ifp hM c_11
        cases hM
        exact hK_5 H locs ls hG (lv_sub hl [1] rfl)
      · replace hM := ifn hM c_11
        refine lv_aload_n hx hb dX3_exprLeans_17 rfl (lv_at hl 2 rfl) ?_
        refine m_get S hG 26 26 0 rfl ec_26 cpX3 wm_319 dX3_exprLeans_18 rfl (Nat.lt_of_lt_of_le (Nat.le_of_ble_eq_true rfl) hn) (by decide) ?_
        refine lv_iload_n hx hb dX3_exprLeans_21 rfl (lv_at hl 3 rfl) ?_
        refine lv_iload_n hx hb dX3_exprLeans_22 rfl (lv_at hl 0 rfl) ?_
        obtain ⟨r_13, hc_12, hM⟩ := bd1_some hM
        refine g_vi (As := [.int (iI a1), .int (iI v_1)]) (rest := []) S hG hsz (vX2_start_13 l hn a1 v_1 hc_12) wV_3_90 (ec_13 _) cpX2 (Nat.lt_of_lt_of_le (Nat.le_of_ble_eq_true rfl) hn) dX3_exprLeans_23 rfl hl.1 (ar := 2) (by decide +kernel) rfl ⟨Nat.le_of_ble_eq_true rfl, Nat.le_of_ble_eq_true rfl, Nat.le_of_ble_eq_true rfl, Nat.le_of_ble_eq_true rfl⟩ (Nat.le_of_ble_eq_true rfl) (fun rv uu H locs hp hG => ?_)
        obtain ⟨rfl, rfl⟩ := hp
        replace hG : gW D cy b n s H locs (enc b cy X S0) := hG
        refine lv_istore (lv' := [(4, .int (iI r_13)), (3, .int (iI v_1)), (2, .int (iI v_2)), (0, .ref (b + 26)), (1, .int (iI a1))]) hx hb dX3_exprLeans_26 hl (by decide) rfl (fun ls hl => ?_)
        refine lv_aload_n hx hb dX3_exprLeans_28 rfl (lv_at hl 3 rfl) ?_
        refine m_get S hG 26 26 0 rfl ec_26 cpX3 wm_319 dX3_exprLeans_29 rfl (Nat.lt_of_lt_of_le (Nat.le_of_ble_eq_true rfl) hn) (by decide) ?_
        refine lv_iload_n hx hb dX3_exprLeans_32 rfl (lv_at hl 4 rfl) ?_
        refine lv_iload_n hx hb dX3_exprLeans_33 rfl (lv_at hl 1 rfl) ?_
        obtain ⟨r_15, hc_14, hM⟩ := bd1_some hM
        refine g_vi (As := [.int (iI a1), .int (iI v_1)]) (rest := []) S hG hsz (vX2_isOff_13 l hn a1 v_1 hc_14) wV_3_86 (ec_13 _) cpX2 (Nat.lt_of_lt_of_le (Nat.le_of_ble_eq_true rfl) hn) dX3_exprLeans_34 rfl hl.1 (ar := 2) (by decide +kernel) rfl ⟨Nat.le_of_ble_eq_true rfl, Nat.le_of_ble_eq_true rfl, Nat.le_of_ble_eq_true rfl, Nat.le_of_ble_eq_true rfl⟩ (Nat.le_of_ble_eq_true rfl) (fun rv uu H locs hp hG => ?_)
        obtain ⟨rfl, rfl⟩ := hp
        replace hG : gW D cy b n s H locs (enc b cy X S0) := hG
        obtain ⟨z_16, hc_17, hM⟩ := bd1_some hM
        have hK_18 : ∀ (H : Heap) (locs : List Loc) (ls : Array Slot), gW D cy b n s H locs (enc b cy X S0) → lv_has ls 7 [(4, .int (iI r_13)), (3, .int (iI v_1)), (2, .int (iI v_2)), (0, .ref (b + 26)), (1, .int (iI a1))] → W p l e (gRm 2 0 0) s m args below meth c H locs 0 0 (gQI D cy b s args below 0 0 (fun r u => r = iI o1 ∧ u = (n, enc b cy X S0))) (F0 m 46 ls [.int (iI z_16)]) := by
          intro H locs ls hG hl
          refine lv_istore (lv' := [(5, .int (iI z_16)), (4, .int (iI r_13)), (3, .int (iI v_1)), (2, .int (iI v_2)), (0, .ref (b + 26)), (1, .int (iI a1))]) hx hb dX3_exprLeans_46 hl (by decide) rfl (fun ls hl => ?_)
          refine lv_iconst (v := iI 0) hx hb dX3_exprLeans_48 (by decide) ?_
          refine lv_istore (lv' := [(6, .int (iI 0)), (5, .int (iI z_16)), (4, .int (iI r_13)), (3, .int (iI v_1)), (2, .int (iI v_2)), (0, .ref (b + 26)), (1, .int (iI a1))]) hx hb dX3_exprLeans_49 hl (by decide) rfl (fun ls hl => ?_)
          obtain ⟨y_22, hc_23, hM⟩ := bd1_some hM
          have hK_24 : ∀ (H : Heap) (locs : List Loc) (ls : Array Slot), gW D cy b n s H locs (enc b cy X S0) → lv_has ls 7 [(3, .int (iI v_1)), (0, .ref (b + 26)), (1, .int (iI a1)), (2, .int (iI y_22))] → W p l e (gRm 2 0 0) s m args below meth c H locs 0 0 (gQI D cy b s args below 0 0 (fun r u => r = iI o1 ∧ u = (n, enc b cy X S0))) (F0 m 107 ls []) := by
            intro H locs ls hG hl
            refine lv_iinc (v := iI (v_1 + 1)) (lv' := [(3, .int (iI (v_1 + 1))), (0, .ref (b + 26)), (1, .int (iI a1)), (2, .int (iI y_22))]) hx hb dX3_exprLeans_107 hl (k := 0) rfl ((iI_add v_1 (1)).trans (congrArg iI (by omega))) (by decide) rfl (fun ls hl => ?_)
            refine lv_goto (tgt := 4) hx hb dX3_exprLeans_110 (by decide) ?_
            exact ih_7 (v_1 + 1) y_22 H locs ls hM hG (lv_sub hl [0, 3, 1, 2] rfl)
          have loop_25 : ∀ (f : Nat) (v_19 : Int) (v_20 : Int) (v_21 : Int) (H : Heap) (locs : List Loc) (ls : Array Slot), mX3_exprLeans_26_51 S0 r_13 v_1 a1 f v_19 v_20 v_21 = some y_22 → gW D cy b n s H locs (enc b cy X S0) → lv_has ls 7 [(6, .int (iI v_19)), (5, .int (iI v_20)), (4, .int (iI r_13)), (3, .int (iI v_1)), (2, .int (iI v_21)), (0, .ref (b + 26)), (1, .int (iI a1))] → W p l e (gRm 2 0 0) s m args below meth c H locs 0 0 (gQI D cy b s args below 0 0 (fun r u => r = iI o1 ∧ u = (n, enc b cy X S0))) (F0 m 51 ls []) := by
            clear hM
            intro f
            induction f with
            | zero => intro v_19 v_20 v_21 H locs ls hM; rw [mX3_exprLeans_26_51] at hM; cases hM
            | succ f_27 ih_26 =>
              intro v_19 v_20 v_21 H locs ls hM hG hl
              rw [mX3_exprLeans_26_51] at hM
              refine lv_iload hx hb dX3_exprLeans_51 (lv_at hl 0 rfl) ?_
              refine lv_bipush (v := iI 24) hx hb dX3_exprLeans_53 (by decide) ?_
              obtain ⟨hg_28, hM⟩ := gd_some hM
              refine gi_icmp_ge (tgt := 107) hx hb dX3_exprLeans_55 (by decide) hg_28 (by decide) (fun c_29 => ?_) (fun c_29 => ?_)
              · replace hM := ifp hM c_29
                cases hM
                exact hK_24 H locs ls hG (lv_sub hl [3, 5, 6, 4] rfl)
              · replace hM := ifn hM c_29
                refine lv_iload hx hb dX3_exprLeans_58 (lv_at hl 1 rfl) ?_
                refine lv_iconst (v := iI (-1)) hx hb dX3_exprLeans_60 (by decide) ?_
                obtain ⟨hg_30, hM⟩ := gd_some hM
                refine gi_icmp_eq (tgt := 107) hx hb dX3_exprLeans_61 (by decide) hg_30 (by decide) (fun c_31 => ?_) (fun c_31 => ?_)
                · replace hM := ifp hM c_31
                  cases hM
                  exact hK_24 H locs ls hG (lv_sub hl [3, 5, 6, 4] rfl)
                · replace hM := ifn hM c_31
                  refine lv_iload_n hx hb dX3_exprLeans_64 rfl (lv_at hl 4 rfl) ?_
                  refine lv_aload_n hx hb dX3_exprLeans_65 rfl (lv_at hl 5 rfl) ?_
                  refine lv_iload hx hb dX3_exprLeans_66 (lv_at hl 2 rfl) ?_
                  refine lv_iload hx hb dX3_exprLeans_68 (lv_at hl 1 rfl) ?_
                  obtain ⟨r_33, hc_32, hM⟩ := bd1_some hM
                  refine g_vi (As := [.int (iI r_13), .int (iI v_20)]) (rest := [.int (iI v_21)]) S hG hsz (vX3_allEmpty_26 l hn r_13 v_20 hc_32) wV_3_94 (ec_26 _) cpX3 (Nat.lt_of_lt_of_le (Nat.le_of_ble_eq_true rfl) hn) dX3_exprLeans_70 rfl hl.1 (ar := 2) (by decide +kernel) rfl ⟨Nat.le_of_ble_eq_true rfl, Nat.le_of_ble_eq_true rfl, Nat.le_of_ble_eq_true rfl, Nat.le_of_ble_eq_true rfl⟩ (Nat.le_of_ble_eq_true rfl) (fun rv uu H locs hp hG => ?_)
                  obtain ⟨rfl, rfl⟩ := hp
                  replace hG : gW D cy b n s H locs (enc b cy X S0) := hG
                  obtain ⟨z_34, hc_35, hM⟩ := bd1_some hM
                  have hK_36 : ∀ (H : Heap) (locs : List Loc) (ls : Array Slot), gW D cy b n s H locs (enc b cy X S0) → lv_has ls 7 [(6, .int (iI v_19)), (5, .int (iI v_20)), (4, .int (iI r_13)), (3, .int (iI v_1)), (0, .ref (b + 26)), (1, .int (iI a1))] → W p l e (gRm 2 0 0) s m args below meth c H locs 0 0 (gQI D cy b s args below 0 0 (fun r u => r = iI o1 ∧ u = (n, enc b cy X S0))) (F0 m 87 ls [.int (iI z_34), .int (iI v_21)]) := by
                    intro H locs ls hG hl
                    refine gi_or hx hb dX3_exprLeans_87 ?_
                    refine gi_nm (fun x_37 ex_37 => ?_)
                    replace hM := nx_at hM ex_37
                    clear ex_37
                    refine lv_istore_n (lv' := [(2, .int (iI x_37)), (6, .int (iI v_19)), (5, .int (iI v_20)), (4, .int (iI r_13)), (3, .int (iI v_1)), (0, .ref (b + 26)), (1, .int (iI a1))]) hx hb dX3_exprLeans_88 rfl hl (by decide) rfl (fun ls hl => ?_)
                    refine lv_aload_n hx hb dX3_exprLeans_89 rfl (lv_at hl 5 rfl) ?_
                    refine m_get S hG 26 26 0 rfl ec_26 cpX3 wm_319 dX3_exprLeans_90 rfl (Nat.lt_of_lt_of_le (Nat.le_of_ble_eq_true rfl) hn) (by decide) ?_
                    refine m_get S hG 13 13 8 rfl ec_13 cpX2 wm_257 dX3_exprLeans_93 rfl (Nat.lt_of_lt_of_le (Nat.le_of_ble_eq_true rfl) hn) (by decide) ?_
                    refine lv_iload hx hb dX3_exprLeans_96 (lv_at hl 2 rfl) ?_
                    obtain ⟨hg_38, hM⟩ := gd_some hM
                    refine mi_ald S hG 17 17 rfl ec_17 (Nat.lt_of_lt_of_le (Nat.le_of_ble_eq_true rfl) hn) dX3_exprLeans_98 hg_38 (by decide) ?_
                    refine gi_nm (fun x_39 ex_39 => ?_)
                    replace hM := nx_at hM ex_39
                    clear ex_39
                    refine lv_istore (lv' := [(5, .int (iI x_39)), (2, .int (iI x_37)), (6, .int (iI v_19)), (4, .int (iI r_13)), (3, .int (iI v_1)), (0, .ref (b + 26)), (1, .int (iI a1))]) hx hb dX3_exprLeans_99 hl (by decide) rfl (fun ls hl => ?_)
                    refine lv_iinc (v := iI (v_19 + 1)) (lv' := [(6, .int (iI (v_19 + 1))), (5, .int (iI x_39)), (2, .int (iI x_37)), (4, .int (iI r_13)), (3, .int (iI v_1)), (0, .ref (b + 26)), (1, .int (iI a1))]) hx hb dX3_exprLeans_101 hl (k := 2) rfl ((iI_add v_19 (1)).trans (congrArg iI (by omega))) (by decide) rfl (fun ls hl => ?_)
                    refine lv_goto (tgt := 51) hx hb dX3_exprLeans_104 (by decide) ?_
                    exact ih_26 (v_19 + 1) x_39 x_37 H locs ls hM hG (lv_sub hl [0, 1, 3, 4, 2, 5, 6] rfl)
                  clear hM
                  replace hM := hc_35
                  obtain ⟨hg_40, hM⟩ := gd_some hM
                  refine gi_if_eq (tgt := 86) hx hb dX3_exprLeans_73 (by decide) hg_40 (fun c_41 => ?_) (fun c_41 => ?_)
                  · replace hM := ifp hM c_41
                    refine lv_iconst (v := iI 0) hx hb dX3_exprLeans_86 (by decide) ?_
                    cases hM
                    exact hK_36 H locs ls hG (lv_sub hl [0, 1, 2, 3, 5, 6] rfl)
                  · replace hM := ifn hM c_41
                    refine lv_aload_n hx hb dX3_exprLeans_76 rfl (lv_at hl 5 rfl) ?_
                    refine m_get S hG 26 26 3 rfl ec_26 cpX3 wm_323 dX3_exprLeans_77 rfl (Nat.lt_of_lt_of_le (Nat.le_of_ble_eq_true rfl) hn) (by decide) ?_
                    refine lv_iload hx hb dX3_exprLeans_80 (lv_at hl 1 rfl) ?_
                    obtain ⟨hg_42, hM⟩ := gd_some hM
                    refine mi_ald S hG 27 27 rfl ec_27 (Nat.lt_of_lt_of_le (Nat.le_of_ble_eq_true rfl) hn) dX3_exprLeans_82 hg_42 (by decide) ?_
                    refine lv_goto (tgt := 87) hx hb dX3_exprLeans_83 (by decide) ?_
                    cases hM
                    exact hK_36 H locs ls hG (lv_sub hl [0, 1, 2, 3, 5, 6] rfl)
          exact loop_25 FU 0 z_16 v_2 H locs ls hc_23 hG (lv_sub hl [0, 1, 2, 3, 4, 5, 6] rfl)
        clear hM
        replace hM := hc_17
        obtain ⟨hg_43, hM⟩ := gd_some hM
        refine gi_if_eq (tgt := 44) hx hb dX3_exprLeans_37 (by decide) hg_43 (fun c_44 => ?_) (fun c_44 => ?_)
        · replace hM := ifp hM c_44
          refine lv_iload hx hb dX3_exprLeans_44 (lv_at hl 0 rfl) ?_
          cases hM
          exact hK_18 H locs ls hG (lv_sub hl [0, 1, 2, 3, 4] rfl)
        · replace hM := ifn hM c_44
          refine lv_iconst (v := iI (-1)) hx hb dX3_exprLeans_40 (by decide) ?_
          refine lv_goto (tgt := 46) hx hb dX3_exprLeans_41 (by decide) ?_
          cases hM
          exact hK_18 H locs ls hG (lv_sub hl [0, 1, 2, 3, 4] rfl)
  exact loop_6 FU 0 0 H locs ls hc_4 hG (lv_sub hl [0, 1, 2, 3] rfl)
theorem wV_3_60 : gWV "GrownKinds$Leaning" 60 yX3_exprHas cX3_exprHas 7 (some .int) := ⟨wm_929, wm_931, wm_24, wm_180, wm_932, by decide +kernel, by decide +kernel⟩
def mX3_exprHas_26_28_51 (S0 : St) (v_1 : Int) (a1 : Int) : Nat → Int → Int → Int → Option (Int)
  | 0, _, _, _ => none
  | f + 1, v_17, v_18, v_19 => gd (inI v_17) <| if 24 ≤ v_17 then (some (v_19)) else (gd (inI v_18) <| if v_18 = (-1) then (some (v_19)) else (gd (0 ≤ v_18 ∧ v_18 < 24) <| nx (orr v_19 (S0 28 v_18)) fun x_31 => nx (S0 17 v_18) fun x_32 => mX3_exprHas_26_28_51 S0 v_1 a1 f (v_17 + 1) x_32 x_31))
def mX3_exprHas_26_28_5 (S0 : St) (a1 : Int) : Nat → Int → Int → Option (Int)
  | 0, _, _ => none
  | f + 1, v_1, v_2 => gd (0 ≤ a1 ∧ a1 < 30) <| gd ((inI v_1) ∧ (inI (S0 19 a1))) <| if (S0 19 a1) ≤ v_1 then (some (v_2)) else (bd1 (mX2_isOff_13 S0 a1 v_1) fun r_13 => bd1 (gd (inI r_13) <| if r_13 = 0 then (bd1 (mX2_start_13 S0 a1 v_1) fun r_36 => some (r_36)) else (some ((-1)))) fun z_14 => bd1 (mX3_exprHas_26_28_51 S0 v_1 a1 FU 0 z_14 v_2) fun y_20 => mX3_exprHas_26_28_5 S0 a1 f (v_1 + 1) y_20)
def mX3_exprHas_26_28 (S0 : St) (a1 : Int) : Option (Int) := bd1 (mX3_exprHas_26_28_5 S0 a1 FU 0 0) fun y_3 => some (y_3)
set_option maxHeartbeats 4000000 in
set_option maxRecDepth 100000 in
theorem vX3_exprHas_26_28 (l : Launch) {D : va_G} {cy : Nat → ClassId} {b n : Nat} (hn : 102 ≤ n) {X : Nat → va_E} {S0 : St} (a1 : Int) {o1 : Int} (hM : mX3_exprHas_26_28 S0 a1 = some o1) : gI l yX3_exprHas cX3_exprHas 7 (some .int) 1 0 0 D cy b n (enc b cy X S0) [.ref (b + 26), .int (iI a1), .ref (b + 28)] (fun r u => r = iI o1 ∧ u = (n, enc b cy X S0)) := by
  refine gI_of (by decide) (Nat.le_of_ble_eq_true rfl) ?_
  intro p e s m args below meth c S hr hlk hin hsz ls hl hG
  have hx := S.1
  have hb := S.2.1
  have hl : lv_has ls 7 [(0, .ref (b + 26)), (1, .int (iI a1)), (2, .ref (b + 28))] := hl
  replace hG : gW D cy b n s s.heap [] (enc b cy X S0) := hG
  obtain ⟨H, eH⟩ : ∃ H, H = s.heap := ⟨_, rfl⟩
  obtain ⟨locs, elocs⟩ : ∃ locs : List Loc, locs = [] := ⟨_, rfl⟩
  rw [← eH, ← elocs] at hG
  rw [← eH, ← elocs]
  clear eH elocs
  unfold mX3_exprHas_26_28 at hM
  refine lv_iconst (v := iI 0) hx hb dX3_exprHas_0 (by decide) ?_
  refine lv_istore_n (lv' := [(3, .int (iI 0)), (0, .ref (b + 26)), (1, .int (iI a1)), (2, .ref (b + 28))]) hx hb dX3_exprHas_1 rfl hl (by decide) rfl (fun ls hl => ?_)
  refine lv_iconst (v := iI 0) hx hb dX3_exprHas_2 (by decide) ?_
  refine lv_istore (lv' := [(4, .int (iI 0)), (3, .int (iI 0)), (0, .ref (b + 26)), (1, .int (iI a1)), (2, .ref (b + 28))]) hx hb dX3_exprHas_3 hl (by decide) rfl (fun ls hl => ?_)
  obtain ⟨y_3, hc_4, hM⟩ := bd1_some hM
  have hK_5 : ∀ (H : Heap) (locs : List Loc) (ls : Array Slot), gW D cy b n s H locs (enc b cy X S0) → lv_has ls 7 [(3, .int (iI y_3))] → W p l e (gRm 1 0 0) s m args below meth c H locs 0 0 (gQI D cy b s args below 0 0 (fun r u => r = iI o1 ∧ u = (n, enc b cy X S0))) (F0 m 95 ls []) := by
    intro H locs ls hG hl
    refine lv_iload_n hx hb dX3_exprHas_95 rfl (lv_at hl 0 rfl) ?_
    cases hM
    exact g_iret S hr hlk hG hsz dX3_exprHas_96 ⟨Nat.le_of_ble_eq_true rfl, Nat.le_of_ble_eq_true rfl⟩ ⟨rfl, rfl⟩
  have loop_6 : ∀ (f : Nat) (v_1 : Int) (v_2 : Int) (H : Heap) (locs : List Loc) (ls : Array Slot), mX3_exprHas_26_28_5 S0 a1 f v_1 v_2 = some y_3 → gW D cy b n s H locs (enc b cy X S0) → lv_has ls 7 [(4, .int (iI v_1)), (3, .int (iI v_2)), (0, .ref (b + 26)), (1, .int (iI a1)), (2, .ref (b + 28))] → W p l e (gRm 1 0 0) s m args below meth c H locs 0 0 (gQI D cy b s args below 0 0 (fun r u => r = iI o1 ∧ u = (n, enc b cy X S0))) (F0 m 5 ls []) := by
    clear hM
    intro f
    induction f with
    | zero => intro v_1 v_2 H locs ls hM; rw [mX3_exprHas_26_28_5] at hM; cases hM
    | succ f_8 ih_7 =>
      intro v_1 v_2 H locs ls hM hG hl
      rw [mX3_exprHas_26_28_5] at hM
      refine lv_iload hx hb dX3_exprHas_5 (lv_at hl 0 rfl) ?_
      refine lv_aload_n hx hb dX3_exprHas_7 rfl (lv_at hl 2 rfl) ?_
      refine m_get S hG 26 26 0 rfl ec_26 cpX3 wm_319 dX3_exprHas_8 rfl (Nat.lt_of_lt_of_le (Nat.le_of_ble_eq_true rfl) hn) (by decide) ?_
      refine m_get S hG 13 13 10 rfl ec_13 cpX2 wm_264 dX3_exprHas_11 rfl (Nat.lt_of_lt_of_le (Nat.le_of_ble_eq_true rfl) hn) (by decide) ?_
      refine lv_iload_n hx hb dX3_exprHas_14 rfl (lv_at hl 3 rfl) ?_
      obtain ⟨hg_9, hM⟩ := gd_some hM
      refine mi_ald S hG 19 19 rfl ec_19 (Nat.lt_of_lt_of_le (Nat.le_of_ble_eq_true rfl) hn) dX3_exprHas_15 hg_9 (by decide) ?_
      obtain ⟨hg_10, hM⟩ := gd_some hM
      refine gi_icmp_ge (tgt := 95) hx hb dX3_exprHas_16 (by decide) hg_10.1 hg_10.2 (fun c_11 => ?_) (fun c_11 => ?_)
      · replace hM := ifp hM c_11
        cases hM
        exact hK_5 H locs ls hG (lv_sub hl [1] rfl)
      · replace hM := ifn hM c_11
        refine lv_aload_n hx hb dX3_exprHas_19 rfl (lv_at hl 2 rfl) ?_
        refine m_get S hG 26 26 0 rfl ec_26 cpX3 wm_319 dX3_exprHas_20 rfl (Nat.lt_of_lt_of_le (Nat.le_of_ble_eq_true rfl) hn) (by decide) ?_
        refine lv_iload_n hx hb dX3_exprHas_23 rfl (lv_at hl 3 rfl) ?_
        refine lv_iload hx hb dX3_exprHas_24 (lv_at hl 0 rfl) ?_
        obtain ⟨r_13, hc_12, hM⟩ := bd1_some hM
        refine g_vi (As := [.int (iI a1), .int (iI v_1)]) (rest := []) S hG hsz (vX2_isOff_13 l hn a1 v_1 hc_12) wV_3_86 (ec_13 _) cpX2 (Nat.lt_of_lt_of_le (Nat.le_of_ble_eq_true rfl) hn) dX3_exprHas_26 rfl hl.1 (ar := 2) (by decide +kernel) rfl ⟨Nat.le_of_ble_eq_true rfl, Nat.le_of_ble_eq_true rfl, Nat.le_of_ble_eq_true rfl, Nat.le_of_ble_eq_true rfl⟩ (Nat.le_of_ble_eq_true rfl) (fun rv uu H locs hp hG => ?_)
        obtain ⟨rfl, rfl⟩ := hp
        replace hG : gW D cy b n s H locs (enc b cy X S0) := hG
        obtain ⟨z_14, hc_15, hM⟩ := bd1_some hM
        have hK_16 : ∀ (H : Heap) (locs : List Loc) (ls : Array Slot), gW D cy b n s H locs (enc b cy X S0) → lv_has ls 7 [(4, .int (iI v_1)), (3, .int (iI v_2)), (0, .ref (b + 26)), (1, .int (iI a1)), (2, .ref (b + 28))] → W p l e (gRm 1 0 0) s m args below meth c H locs 0 0 (gQI D cy b s args below 0 0 (fun r u => r = iI o1 ∧ u = (n, enc b cy X S0))) (F0 m 46 ls [.int (iI z_14)]) := by
          intro H locs ls hG hl
          refine lv_istore (lv' := [(5, .int (iI z_14)), (4, .int (iI v_1)), (3, .int (iI v_2)), (0, .ref (b + 26)), (1, .int (iI a1)), (2, .ref (b + 28))]) hx hb dX3_exprHas_46 hl (by decide) rfl (fun ls hl => ?_)
          refine lv_iconst (v := iI 0) hx hb dX3_exprHas_48 (by decide) ?_
          refine lv_istore (lv' := [(6, .int (iI 0)), (5, .int (iI z_14)), (4, .int (iI v_1)), (3, .int (iI v_2)), (0, .ref (b + 26)), (1, .int (iI a1)), (2, .ref (b + 28))]) hx hb dX3_exprHas_49 hl (by decide) rfl (fun ls hl => ?_)
          obtain ⟨y_20, hc_21, hM⟩ := bd1_some hM
          have hK_22 : ∀ (H : Heap) (locs : List Loc) (ls : Array Slot), gW D cy b n s H locs (enc b cy X S0) → lv_has ls 7 [(4, .int (iI v_1)), (0, .ref (b + 26)), (1, .int (iI a1)), (2, .ref (b + 28)), (3, .int (iI y_20))] → W p l e (gRm 1 0 0) s m args below meth c H locs 0 0 (gQI D cy b s args below 0 0 (fun r u => r = iI o1 ∧ u = (n, enc b cy X S0))) (F0 m 89 ls []) := by
            intro H locs ls hG hl
            refine lv_iinc (v := iI (v_1 + 1)) (lv' := [(4, .int (iI (v_1 + 1))), (0, .ref (b + 26)), (1, .int (iI a1)), (2, .ref (b + 28)), (3, .int (iI y_20))]) hx hb dX3_exprHas_89 hl (k := 0) rfl ((iI_add v_1 (1)).trans (congrArg iI (by omega))) (by decide) rfl (fun ls hl => ?_)
            refine lv_goto (tgt := 5) hx hb dX3_exprHas_92 (by decide) ?_
            exact ih_7 (v_1 + 1) y_20 H locs ls hM hG (lv_sub hl [0, 4, 1, 2, 3] rfl)
          have loop_23 : ∀ (f : Nat) (v_17 : Int) (v_18 : Int) (v_19 : Int) (H : Heap) (locs : List Loc) (ls : Array Slot), mX3_exprHas_26_28_51 S0 v_1 a1 f v_17 v_18 v_19 = some y_20 → gW D cy b n s H locs (enc b cy X S0) → lv_has ls 7 [(6, .int (iI v_17)), (5, .int (iI v_18)), (4, .int (iI v_1)), (3, .int (iI v_19)), (0, .ref (b + 26)), (1, .int (iI a1)), (2, .ref (b + 28))] → W p l e (gRm 1 0 0) s m args below meth c H locs 0 0 (gQI D cy b s args below 0 0 (fun r u => r = iI o1 ∧ u = (n, enc b cy X S0))) (F0 m 51 ls []) := by
            clear hM
            intro f
            induction f with
            | zero => intro v_17 v_18 v_19 H locs ls hM; rw [mX3_exprHas_26_28_51] at hM; cases hM
            | succ f_25 ih_24 =>
              intro v_17 v_18 v_19 H locs ls hM hG hl
              rw [mX3_exprHas_26_28_51] at hM
              refine lv_iload hx hb dX3_exprHas_51 (lv_at hl 0 rfl) ?_
              refine lv_bipush (v := iI 24) hx hb dX3_exprHas_53 (by decide) ?_
              obtain ⟨hg_26, hM⟩ := gd_some hM
              refine gi_icmp_ge (tgt := 89) hx hb dX3_exprHas_55 (by decide) hg_26 (by decide) (fun c_27 => ?_) (fun c_27 => ?_)
              · replace hM := ifp hM c_27
                cases hM
                exact hK_22 H locs ls hG (lv_sub hl [2, 4, 5, 6, 3] rfl)
              · replace hM := ifn hM c_27
                refine lv_iload hx hb dX3_exprHas_58 (lv_at hl 1 rfl) ?_
                refine lv_iconst (v := iI (-1)) hx hb dX3_exprHas_60 (by decide) ?_
                obtain ⟨hg_28, hM⟩ := gd_some hM
                refine gi_icmp_eq (tgt := 89) hx hb dX3_exprHas_61 (by decide) hg_28 (by decide) (fun c_29 => ?_) (fun c_29 => ?_)
                · replace hM := ifp hM c_29
                  cases hM
                  exact hK_22 H locs ls hG (lv_sub hl [2, 4, 5, 6, 3] rfl)
                · replace hM := ifn hM c_29
                  refine lv_iload_n hx hb dX3_exprHas_64 rfl (lv_at hl 3 rfl) ?_
                  refine lv_aload_n hx hb dX3_exprHas_65 rfl (lv_at hl 6 rfl) ?_
                  refine lv_iload hx hb dX3_exprHas_66 (lv_at hl 1 rfl) ?_
                  obtain ⟨hg_30, hM⟩ := gd_some hM
                  refine mi_ald S hG 28 28 rfl ec_28 (Nat.lt_of_lt_of_le (Nat.le_of_ble_eq_true rfl) hn) dX3_exprHas_68 hg_30 (by decide) ?_
                  refine gi_or hx hb dX3_exprHas_69 ?_
                  refine gi_nm (fun x_31 ex_31 => ?_)
                  replace hM := nx_at hM ex_31
                  clear ex_31
                  refine lv_istore_n (lv' := [(3, .int (iI x_31)), (6, .int (iI v_17)), (5, .int (iI v_18)), (4, .int (iI v_1)), (0, .ref (b + 26)), (1, .int (iI a1)), (2, .ref (b + 28))]) hx hb dX3_exprHas_70 rfl hl (by decide) rfl (fun ls hl => ?_)
                  refine lv_aload_n hx hb dX3_exprHas_71 rfl (lv_at hl 4 rfl) ?_
                  refine m_get S hG 26 26 0 rfl ec_26 cpX3 wm_319 dX3_exprHas_72 rfl (Nat.lt_of_lt_of_le (Nat.le_of_ble_eq_true rfl) hn) (by decide) ?_
                  refine m_get S hG 13 13 8 rfl ec_13 cpX2 wm_257 dX3_exprHas_75 rfl (Nat.lt_of_lt_of_le (Nat.le_of_ble_eq_true rfl) hn) (by decide) ?_
                  refine lv_iload hx hb dX3_exprHas_78 (lv_at hl 2 rfl) ?_
                  refine mi_ald S hG 17 17 rfl ec_17 (Nat.lt_of_lt_of_le (Nat.le_of_ble_eq_true rfl) hn) dX3_exprHas_80 hg_30 (by decide) ?_
                  refine gi_nm (fun x_32 ex_32 => ?_)
                  replace hM := nx_at hM ex_32
                  clear ex_32
                  refine lv_istore (lv' := [(5, .int (iI x_32)), (3, .int (iI x_31)), (6, .int (iI v_17)), (4, .int (iI v_1)), (0, .ref (b + 26)), (1, .int (iI a1)), (2, .ref (b + 28))]) hx hb dX3_exprHas_81 hl (by decide) rfl (fun ls hl => ?_)
                  refine lv_iinc (v := iI (v_17 + 1)) (lv' := [(6, .int (iI (v_17 + 1))), (5, .int (iI x_32)), (3, .int (iI x_31)), (4, .int (iI v_1)), (0, .ref (b + 26)), (1, .int (iI a1)), (2, .ref (b + 28))]) hx hb dX3_exprHas_83 hl (k := 2) rfl ((iI_add v_17 (1)).trans (congrArg iI (by omega))) (by decide) rfl (fun ls hl => ?_)
                  refine lv_goto (tgt := 51) hx hb dX3_exprHas_86 (by decide) ?_
                  exact ih_24 (v_17 + 1) x_32 x_31 H locs ls hM hG (lv_sub hl [0, 1, 3, 2, 4, 5, 6] rfl)
          exact loop_23 FU 0 z_14 v_2 H locs ls hc_21 hG (lv_sub hl [0, 1, 2, 3, 4, 5, 6] rfl)
        clear hM
        replace hM := hc_15
        obtain ⟨hg_33, hM⟩ := gd_some hM
        refine gi_if_eq (tgt := 36) hx hb dX3_exprHas_29 (by decide) hg_33 (fun c_34 => ?_) (fun c_34 => ?_)
        · replace hM := ifp hM c_34
          refine lv_aload_n hx hb dX3_exprHas_36 rfl (lv_at hl 2 rfl) ?_
          refine m_get S hG 26 26 0 rfl ec_26 cpX3 wm_319 dX3_exprHas_37 rfl (Nat.lt_of_lt_of_le (Nat.le_of_ble_eq_true rfl) hn) (by decide) ?_
          refine lv_iload_n hx hb dX3_exprHas_40 rfl (lv_at hl 3 rfl) ?_
          refine lv_iload hx hb dX3_exprHas_41 (lv_at hl 0 rfl) ?_
          obtain ⟨r_36, hc_35, hM⟩ := bd1_some hM
          refine g_vi (As := [.int (iI a1), .int (iI v_1)]) (rest := []) S hG hsz (vX2_start_13 l hn a1 v_1 hc_35) wV_3_90 (ec_13 _) cpX2 (Nat.lt_of_lt_of_le (Nat.le_of_ble_eq_true rfl) hn) dX3_exprHas_43 rfl hl.1 (ar := 2) (by decide +kernel) rfl ⟨Nat.le_of_ble_eq_true rfl, Nat.le_of_ble_eq_true rfl, Nat.le_of_ble_eq_true rfl, Nat.le_of_ble_eq_true rfl⟩ (Nat.le_of_ble_eq_true rfl) (fun rv uu H locs hp hG => ?_)
          obtain ⟨rfl, rfl⟩ := hp
          replace hG : gW D cy b n s H locs (enc b cy X S0) := hG
          cases hM
          exact hK_16 H locs ls hG (lv_sub hl [0, 1, 2, 3, 4] rfl)
        · replace hM := ifn hM c_34
          refine lv_iconst (v := iI (-1)) hx hb dX3_exprHas_32 (by decide) ?_
          refine lv_goto (tgt := 46) hx hb dX3_exprHas_33 (by decide) ?_
          cases hM
          exact hK_16 H locs ls hG (lv_sub hl [0, 1, 2, 3, 4] rfl)
  exact loop_6 FU 0 0 H locs ls hc_4 hG (lv_sub hl [0, 1, 2, 3, 4] rfl)
def mX3_exprHas_26_29_51 (S0 : St) (v_1 : Int) (a1 : Int) : Nat → Int → Int → Int → Option (Int)
  | 0, _, _, _ => none
  | f + 1, v_17, v_18, v_19 => gd (inI v_17) <| if 24 ≤ v_17 then (some (v_19)) else (gd (inI v_18) <| if v_18 = (-1) then (some (v_19)) else (gd (0 ≤ v_18 ∧ v_18 < 24) <| nx (orr v_19 (S0 29 v_18)) fun x_31 => nx (S0 17 v_18) fun x_32 => mX3_exprHas_26_29_51 S0 v_1 a1 f (v_17 + 1) x_32 x_31))
def mX3_exprHas_26_29_5 (S0 : St) (a1 : Int) : Nat → Int → Int → Option (Int)
  | 0, _, _ => none
  | f + 1, v_1, v_2 => gd (0 ≤ a1 ∧ a1 < 30) <| gd ((inI v_1) ∧ (inI (S0 19 a1))) <| if (S0 19 a1) ≤ v_1 then (some (v_2)) else (bd1 (mX2_isOff_13 S0 a1 v_1) fun r_13 => bd1 (gd (inI r_13) <| if r_13 = 0 then (bd1 (mX2_start_13 S0 a1 v_1) fun r_36 => some (r_36)) else (some ((-1)))) fun z_14 => bd1 (mX3_exprHas_26_29_51 S0 v_1 a1 FU 0 z_14 v_2) fun y_20 => mX3_exprHas_26_29_5 S0 a1 f (v_1 + 1) y_20)
def mX3_exprHas_26_29 (S0 : St) (a1 : Int) : Option (Int) := bd1 (mX3_exprHas_26_29_5 S0 a1 FU 0 0) fun y_3 => some (y_3)
set_option maxHeartbeats 4000000 in
set_option maxRecDepth 100000 in
theorem vX3_exprHas_26_29 (l : Launch) {D : va_G} {cy : Nat → ClassId} {b n : Nat} (hn : 102 ≤ n) {X : Nat → va_E} {S0 : St} (a1 : Int) {o1 : Int} (hM : mX3_exprHas_26_29 S0 a1 = some o1) : gI l yX3_exprHas cX3_exprHas 7 (some .int) 1 0 0 D cy b n (enc b cy X S0) [.ref (b + 26), .int (iI a1), .ref (b + 29)] (fun r u => r = iI o1 ∧ u = (n, enc b cy X S0)) := by
  refine gI_of (by decide) (Nat.le_of_ble_eq_true rfl) ?_
  intro p e s m args below meth c S hr hlk hin hsz ls hl hG
  have hx := S.1
  have hb := S.2.1
  have hl : lv_has ls 7 [(0, .ref (b + 26)), (1, .int (iI a1)), (2, .ref (b + 29))] := hl
  replace hG : gW D cy b n s s.heap [] (enc b cy X S0) := hG
  obtain ⟨H, eH⟩ : ∃ H, H = s.heap := ⟨_, rfl⟩
  obtain ⟨locs, elocs⟩ : ∃ locs : List Loc, locs = [] := ⟨_, rfl⟩
  rw [← eH, ← elocs] at hG
  rw [← eH, ← elocs]
  clear eH elocs
  unfold mX3_exprHas_26_29 at hM
  refine lv_iconst (v := iI 0) hx hb dX3_exprHas_0 (by decide) ?_
  refine lv_istore_n (lv' := [(3, .int (iI 0)), (0, .ref (b + 26)), (1, .int (iI a1)), (2, .ref (b + 29))]) hx hb dX3_exprHas_1 rfl hl (by decide) rfl (fun ls hl => ?_)
  refine lv_iconst (v := iI 0) hx hb dX3_exprHas_2 (by decide) ?_
  refine lv_istore (lv' := [(4, .int (iI 0)), (3, .int (iI 0)), (0, .ref (b + 26)), (1, .int (iI a1)), (2, .ref (b + 29))]) hx hb dX3_exprHas_3 hl (by decide) rfl (fun ls hl => ?_)
  obtain ⟨y_3, hc_4, hM⟩ := bd1_some hM
  have hK_5 : ∀ (H : Heap) (locs : List Loc) (ls : Array Slot), gW D cy b n s H locs (enc b cy X S0) → lv_has ls 7 [(3, .int (iI y_3))] → W p l e (gRm 1 0 0) s m args below meth c H locs 0 0 (gQI D cy b s args below 0 0 (fun r u => r = iI o1 ∧ u = (n, enc b cy X S0))) (F0 m 95 ls []) := by
    intro H locs ls hG hl
    refine lv_iload_n hx hb dX3_exprHas_95 rfl (lv_at hl 0 rfl) ?_
    cases hM
    exact g_iret S hr hlk hG hsz dX3_exprHas_96 ⟨Nat.le_of_ble_eq_true rfl, Nat.le_of_ble_eq_true rfl⟩ ⟨rfl, rfl⟩
  have loop_6 : ∀ (f : Nat) (v_1 : Int) (v_2 : Int) (H : Heap) (locs : List Loc) (ls : Array Slot), mX3_exprHas_26_29_5 S0 a1 f v_1 v_2 = some y_3 → gW D cy b n s H locs (enc b cy X S0) → lv_has ls 7 [(4, .int (iI v_1)), (3, .int (iI v_2)), (0, .ref (b + 26)), (1, .int (iI a1)), (2, .ref (b + 29))] → W p l e (gRm 1 0 0) s m args below meth c H locs 0 0 (gQI D cy b s args below 0 0 (fun r u => r = iI o1 ∧ u = (n, enc b cy X S0))) (F0 m 5 ls []) := by
    clear hM
    intro f
    induction f with
    | zero => intro v_1 v_2 H locs ls hM; rw [mX3_exprHas_26_29_5] at hM; cases hM
    | succ f_8 ih_7 =>
      intro v_1 v_2 H locs ls hM hG hl
      rw [mX3_exprHas_26_29_5] at hM
      refine lv_iload hx hb dX3_exprHas_5 (lv_at hl 0 rfl) ?_
      refine lv_aload_n hx hb dX3_exprHas_7 rfl (lv_at hl 2 rfl) ?_
      refine m_get S hG 26 26 0 rfl ec_26 cpX3 wm_319 dX3_exprHas_8 rfl (Nat.lt_of_lt_of_le (Nat.le_of_ble_eq_true rfl) hn) (by decide) ?_
      refine m_get S hG 13 13 10 rfl ec_13 cpX2 wm_264 dX3_exprHas_11 rfl (Nat.lt_of_lt_of_le (Nat.le_of_ble_eq_true rfl) hn) (by decide) ?_
      refine lv_iload_n hx hb dX3_exprHas_14 rfl (lv_at hl 3 rfl) ?_
      obtain ⟨hg_9, hM⟩ := gd_some hM
      refine mi_ald S hG 19 19 rfl ec_19 (Nat.lt_of_lt_of_le (Nat.le_of_ble_eq_true rfl) hn) dX3_exprHas_15 hg_9 (by decide) ?_
      obtain ⟨hg_10, hM⟩ := gd_some hM
      refine gi_icmp_ge (tgt := 95) hx hb dX3_exprHas_16 (by decide) hg_10.1 hg_10.2 (fun c_11 => ?_) (fun c_11 => ?_)
      · replace hM := ifp hM c_11
        cases hM
        exact hK_5 H locs ls hG (lv_sub hl [1] rfl)
      · replace hM := ifn hM c_11
        refine lv_aload_n hx hb dX3_exprHas_19 rfl (lv_at hl 2 rfl) ?_
        refine m_get S hG 26 26 0 rfl ec_26 cpX3 wm_319 dX3_exprHas_20 rfl (Nat.lt_of_lt_of_le (Nat.le_of_ble_eq_true rfl) hn) (by decide) ?_
        refine lv_iload_n hx hb dX3_exprHas_23 rfl (lv_at hl 3 rfl) ?_
        refine lv_iload hx hb dX3_exprHas_24 (lv_at hl 0 rfl) ?_
        obtain ⟨r_13, hc_12, hM⟩ := bd1_some hM
        refine g_vi (As := [.int (iI a1), .int (iI v_1)]) (rest := []) S hG hsz (vX2_isOff_13 l hn a1 v_1 hc_12) wV_3_86 (ec_13 _) cpX2 (Nat.lt_of_lt_of_le (Nat.le_of_ble_eq_true rfl) hn) dX3_exprHas_26 rfl hl.1 (ar := 2) (by decide +kernel) rfl ⟨Nat.le_of_ble_eq_true rfl, Nat.le_of_ble_eq_true rfl, Nat.le_of_ble_eq_true rfl, Nat.le_of_ble_eq_true rfl⟩ (Nat.le_of_ble_eq_true rfl) (fun rv uu H locs hp hG => ?_)
        obtain ⟨rfl, rfl⟩ := hp
        replace hG : gW D cy b n s H locs (enc b cy X S0) := hG
        obtain ⟨z_14, hc_15, hM⟩ := bd1_some hM
        have hK_16 : ∀ (H : Heap) (locs : List Loc) (ls : Array Slot), gW D cy b n s H locs (enc b cy X S0) → lv_has ls 7 [(4, .int (iI v_1)), (3, .int (iI v_2)), (0, .ref (b + 26)), (1, .int (iI a1)), (2, .ref (b + 29))] → W p l e (gRm 1 0 0) s m args below meth c H locs 0 0 (gQI D cy b s args below 0 0 (fun r u => r = iI o1 ∧ u = (n, enc b cy X S0))) (F0 m 46 ls [.int (iI z_14)]) := by
          intro H locs ls hG hl
          refine lv_istore (lv' := [(5, .int (iI z_14)), (4, .int (iI v_1)), (3, .int (iI v_2)), (0, .ref (b + 26)), (1, .int (iI a1)), (2, .ref (b + 29))]) hx hb dX3_exprHas_46 hl (by decide) rfl (fun ls hl => ?_)
          refine lv_iconst (v := iI 0) hx hb dX3_exprHas_48 (by decide) ?_
          refine lv_istore (lv' := [(6, .int (iI 0)), (5, .int (iI z_14)), (4, .int (iI v_1)), (3, .int (iI v_2)), (0, .ref (b + 26)), (1, .int (iI a1)), (2, .ref (b + 29))]) hx hb dX3_exprHas_49 hl (by decide) rfl (fun ls hl => ?_)
          obtain ⟨y_20, hc_21, hM⟩ := bd1_some hM
          have hK_22 : ∀ (H : Heap) (locs : List Loc) (ls : Array Slot), gW D cy b n s H locs (enc b cy X S0) → lv_has ls 7 [(4, .int (iI v_1)), (0, .ref (b + 26)), (1, .int (iI a1)), (2, .ref (b + 29)), (3, .int (iI y_20))] → W p l e (gRm 1 0 0) s m args below meth c H locs 0 0 (gQI D cy b s args below 0 0 (fun r u => r = iI o1 ∧ u = (n, enc b cy X S0))) (F0 m 89 ls []) := by
            intro H locs ls hG hl
            refine lv_iinc (v := iI (v_1 + 1)) (lv' := [(4, .int (iI (v_1 + 1))), (0, .ref (b + 26)), (1, .int (iI a1)), (2, .ref (b + 29)), (3, .int (iI y_20))]) hx hb dX3_exprHas_89 hl (k := 0) rfl ((iI_add v_1 (1)).trans (congrArg iI (by omega))) (by decide) rfl (fun ls hl => ?_)
            refine lv_goto (tgt := 5) hx hb dX3_exprHas_92 (by decide) ?_
            exact ih_7 (v_1 + 1) y_20 H locs ls hM hG (lv_sub hl [0, 4, 1, 2, 3] rfl)
          have loop_23 : ∀ (f : Nat) (v_17 : Int) (v_18 : Int) (v_19 : Int) (H : Heap) (locs : List Loc) (ls : Array Slot), mX3_exprHas_26_29_51 S0 v_1 a1 f v_17 v_18 v_19 = some y_20 → gW D cy b n s H locs (enc b cy X S0) → lv_has ls 7 [(6, .int (iI v_17)), (5, .int (iI v_18)), (4, .int (iI v_1)), (3, .int (iI v_19)), (0, .ref (b + 26)), (1, .int (iI a1)), (2, .ref (b + 29))] → W p l e (gRm 1 0 0) s m args below meth c H locs 0 0 (gQI D cy b s args below 0 0 (fun r u => r = iI o1 ∧ u = (n, enc b cy X S0))) (F0 m 51 ls []) := by
            clear hM
            intro f
            induction f with
            | zero => intro v_17 v_18 v_19 H locs ls hM; rw [mX3_exprHas_26_29_51] at hM; cases hM
            | succ f_25 ih_24 =>
              intro v_17 v_18 v_19 H locs ls hM hG hl
              rw [mX3_exprHas_26_29_51] at hM
              refine lv_iload hx hb dX3_exprHas_51 (lv_at hl 0 rfl) ?_
              refine lv_bipush (v := iI 24) hx hb dX3_exprHas_53 (by decide) ?_
              obtain ⟨hg_26, hM⟩ := gd_some hM
              refine gi_icmp_ge (tgt := 89) hx hb dX3_exprHas_55 (by decide) hg_26 (by decide) (fun c_27 => ?_) (fun c_27 => ?_)
              · replace hM := ifp hM c_27
                cases hM
                exact hK_22 H locs ls hG (lv_sub hl [2, 4, 5, 6, 3] rfl)
              · replace hM := ifn hM c_27
                refine lv_iload hx hb dX3_exprHas_58 (lv_at hl 1 rfl) ?_
                refine lv_iconst (v := iI (-1)) hx hb dX3_exprHas_60 (by decide) ?_
                obtain ⟨hg_28, hM⟩ := gd_some hM
                refine gi_icmp_eq (tgt := 89) hx hb dX3_exprHas_61 (by decide) hg_28 (by decide) (fun c_29 => ?_) (fun c_29 => ?_)
                · replace hM := ifp hM c_29
                  cases hM
                  exact hK_22 H locs ls hG (lv_sub hl [2, 4, 5, 6, 3] rfl)
                · replace hM := ifn hM c_29
                  refine lv_iload_n hx hb dX3_exprHas_64 rfl (lv_at hl 3 rfl) ?_
                  refine lv_aload_n hx hb dX3_exprHas_65 rfl (lv_at hl 6 rfl) ?_
                  refine lv_iload hx hb dX3_exprHas_66 (lv_at hl 1 rfl) ?_
                  obtain ⟨hg_30, hM⟩ := gd_some hM
                  refine mi_ald S hG 29 29 rfl ec_29 (Nat.lt_of_lt_of_le (Nat.le_of_ble_eq_true rfl) hn) dX3_exprHas_68 hg_30 (by decide) ?_
                  refine gi_or hx hb dX3_exprHas_69 ?_
                  refine gi_nm (fun x_31 ex_31 => ?_)
                  replace hM := nx_at hM ex_31
                  clear ex_31
                  refine lv_istore_n (lv' := [(3, .int (iI x_31)), (6, .int (iI v_17)), (5, .int (iI v_18)), (4, .int (iI v_1)), (0, .ref (b + 26)), (1, .int (iI a1)), (2, .ref (b + 29))]) hx hb dX3_exprHas_70 rfl hl (by decide) rfl (fun ls hl => ?_)
                  refine lv_aload_n hx hb dX3_exprHas_71 rfl (lv_at hl 4 rfl) ?_
                  refine m_get S hG 26 26 0 rfl ec_26 cpX3 wm_319 dX3_exprHas_72 rfl (Nat.lt_of_lt_of_le (Nat.le_of_ble_eq_true rfl) hn) (by decide) ?_
                  refine m_get S hG 13 13 8 rfl ec_13 cpX2 wm_257 dX3_exprHas_75 rfl (Nat.lt_of_lt_of_le (Nat.le_of_ble_eq_true rfl) hn) (by decide) ?_
                  refine lv_iload hx hb dX3_exprHas_78 (lv_at hl 2 rfl) ?_
                  refine mi_ald S hG 17 17 rfl ec_17 (Nat.lt_of_lt_of_le (Nat.le_of_ble_eq_true rfl) hn) dX3_exprHas_80 hg_30 (by decide) ?_
                  refine gi_nm (fun x_32 ex_32 => ?_)
                  replace hM := nx_at hM ex_32
                  clear ex_32
                  refine lv_istore (lv' := [(5, .int (iI x_32)), (3, .int (iI x_31)), (6, .int (iI v_17)), (4, .int (iI v_1)), (0, .ref (b + 26)), (1, .int (iI a1)), (2, .ref (b + 29))]) hx hb dX3_exprHas_81 hl (by decide) rfl (fun ls hl => ?_)
                  refine lv_iinc (v := iI (v_17 + 1)) (lv' := [(6, .int (iI (v_17 + 1))), (5, .int (iI x_32)), (3, .int (iI x_31)), (4, .int (iI v_1)), (0, .ref (b + 26)), (1, .int (iI a1)), (2, .ref (b + 29))]) hx hb dX3_exprHas_83 hl (k := 2) rfl ((iI_add v_17 (1)).trans (congrArg iI (by omega))) (by decide) rfl (fun ls hl => ?_)
                  refine lv_goto (tgt := 51) hx hb dX3_exprHas_86 (by decide) ?_
                  exact ih_24 (v_17 + 1) x_32 x_31 H locs ls hM hG (lv_sub hl [0, 1, 3, 2, 4, 5, 6] rfl)
          exact loop_23 FU 0 z_14 v_2 H locs ls hc_21 hG (lv_sub hl [0, 1, 2, 3, 4, 5, 6] rfl)
        clear hM
        replace hM := hc_15
        obtain ⟨hg_33, hM⟩ := gd_some hM
        refine gi_if_eq (tgt := 36) hx hb dX3_exprHas_29 (by decide) hg_33 (fun c_34 => ?_) (fun c_34 => ?_)
        · replace hM := ifp hM c_34
          refine lv_aload_n hx hb dX3_exprHas_36 rfl (lv_at hl 2 rfl) ?_
          refine m_get S hG 26 26 0 rfl ec_26 cpX3 wm_319 dX3_exprHas_37 rfl (Nat.lt_of_lt_of_le (Nat.le_of_ble_eq_true rfl) hn) (by decide) ?_
          refine lv_iload_n hx hb dX3_exprHas_40 rfl (lv_at hl 3 rfl) ?_
          refine lv_iload hx hb dX3_exprHas_41 (lv_at hl 0 rfl) ?_
          obtain ⟨r_36, hc_35, hM⟩ := bd1_some hM
          refine g_vi (As := [.int (iI a1), .int (iI v_1)]) (rest := []) S hG hsz (vX2_start_13 l hn a1 v_1 hc_35) wV_3_90 (ec_13 _) cpX2 (Nat.lt_of_lt_of_le (Nat.le_of_ble_eq_true rfl) hn) dX3_exprHas_43 rfl hl.1 (ar := 2) (by decide +kernel) rfl ⟨Nat.le_of_ble_eq_true rfl, Nat.le_of_ble_eq_true rfl, Nat.le_of_ble_eq_true rfl, Nat.le_of_ble_eq_true rfl⟩ (Nat.le_of_ble_eq_true rfl) (fun rv uu H locs hp hG => ?_)
          obtain ⟨rfl, rfl⟩ := hp
          replace hG : gW D cy b n s H locs (enc b cy X S0) := hG
          cases hM
          exact hK_16 H locs ls hG (lv_sub hl [0, 1, 2, 3, 4] rfl)
        · replace hM := ifn hM c_34
          refine lv_iconst (v := iI (-1)) hx hb dX3_exprHas_32 (by decide) ?_
          refine lv_goto (tgt := 46) hx hb dX3_exprHas_33 (by decide) ?_
          cases hM
          exact hK_16 H locs ls hG (lv_sub hl [0, 1, 2, 3, 4] rfl)
  exact loop_6 FU 0 0 H locs ls hc_4 hG (lv_sub hl [0, 1, 2, 3, 4] rfl)
def mX3_studyPart_26 (S0 : St) (a1 : Int) : Option (St) := gd (0 ≤ a1 ∧ a1 < 24) <| nx (S0 14 a1) fun x_2 => nx (S0 16 a1) fun x_3 => gd (inI x_2) <| if x_2 = 7 then (nx (6 + a1) fun x_27 => bd1 (mX3_exprLeans_26 S0 x_27) fun r_29 => nx (up S0 27 a1 r_29) fun S_30 => bd1 (mX3_exprHas_26_28 S_30 x_27) fun r_32 => nx (up S_30 28 a1 r_32) fun S_33 => bd1 (mX3_exprHas_26_29 S_33 x_27) fun r_35 => nx (up S_33 29 a1 r_35) fun S_36 => some (S_36)) else (gd (inI x_3) <| if x_3 = (-1) then (bd1 (if x_2 = 2 then (some ((shl 1 (S0 15 a1)))) else (some (0))) fun z_8 => nx (up S0 27 a1 z_8) fun S_11 => nx (up S_11 28 a1 (S_11 27 a1)) fun S_12 => if x_2 = 0 then (nx (up S_12 29 a1 (shl 1 (S_12 15 a1))) fun S_15 => some (S_15)) else (nx (up S_12 29 a1 0) fun S_14 => some (S_14))) else (bd1 (gd (inI (S0 15 a1)) <| if 1 < (S0 15 a1) then (some (0)) else (gd (0 ≤ x_3 ∧ x_3 < 24) <| some ((S0 27 x_3)))) fun z_17 => nx (up S0 27 a1 z_17) fun S_20 => gd (0 ≤ x_3 ∧ x_3 < 24) <| nx (up S_20 28 a1 (S_20 28 x_3)) fun S_22 => nx (up S_22 29 a1 (S_22 29 x_3)) fun S_23 => some (S_23)))
set_option maxHeartbeats 4000000 in
set_option maxRecDepth 100000 in
theorem vX3_studyPart_26 (l : Launch) {D : va_G} {cy : Nat → ClassId} {b n : Nat} (hn : 102 ≤ n) {X : Nat → va_E} {S0 : St} (a1 : Int) {o1 : St} (hM : mX3_studyPart_26 S0 a1 = some o1) : gV l yX3_studyPart cX3_studyPart 5 3 0 0 D cy b n (enc b cy X S0) [.ref (b + 26), .int (iI a1)] (fun u => u = (n, enc b cy X o1)) := by
  refine gV_of (by decide) (Nat.le_of_ble_eq_true rfl) ?_
  intro p e s m args below meth c S hr hlk hin hsz ls hl hG
  have hx := S.1
  have hb := S.2.1
  have hl : lv_has ls 5 [(0, .ref (b + 26)), (1, .int (iI a1))] := hl
  replace hG : gW D cy b n s s.heap [] (enc b cy X S0) := hG
  obtain ⟨H, eH⟩ : ∃ H, H = s.heap := ⟨_, rfl⟩
  obtain ⟨locs, elocs⟩ : ∃ locs : List Loc, locs = [] := ⟨_, rfl⟩
  rw [← eH, ← elocs] at hG
  rw [← eH, ← elocs]
  clear eH elocs
  unfold mX3_studyPart_26 at hM
  refine lv_aload_n hx hb dX3_studyPart_0 rfl (lv_at hl 0 rfl) ?_
  refine m_get S hG 26 26 0 rfl ec_26 cpX3 wm_319 dX3_studyPart_1 rfl (Nat.lt_of_lt_of_le (Nat.le_of_ble_eq_true rfl) hn) (by decide) ?_
  refine m_get S hG 13 13 5 rfl ec_13 cpX2 wm_236 dX3_studyPart_4 rfl (Nat.lt_of_lt_of_le (Nat.le_of_ble_eq_true rfl) hn) (by decide) ?_
  refine lv_iload_n hx hb dX3_studyPart_7 rfl (lv_at hl 1 rfl) ?_
  obtain ⟨hg_1, hM⟩ := gd_some hM
  refine mi_ald S hG 14 14 rfl ec_14 (Nat.lt_of_lt_of_le (Nat.le_of_ble_eq_true rfl) hn) dX3_studyPart_8 hg_1 (by decide) ?_
  refine gi_nm (fun x_2 ex_2 => ?_)
  replace hM := nx_at hM ex_2
  clear ex_2
  refine lv_istore_n (lv' := [(2, .int (iI x_2)), (0, .ref (b + 26)), (1, .int (iI a1))]) hx hb dX3_studyPart_9 rfl hl (by decide) rfl (fun ls hl => ?_)
  refine lv_aload_n hx hb dX3_studyPart_10 rfl (lv_at hl 1 rfl) ?_
  refine m_get S hG 26 26 0 rfl ec_26 cpX3 wm_319 dX3_studyPart_11 rfl (Nat.lt_of_lt_of_le (Nat.le_of_ble_eq_true rfl) hn) (by decide) ?_
  refine m_get S hG 13 13 7 rfl ec_13 cpX2 wm_249 dX3_studyPart_14 rfl (Nat.lt_of_lt_of_le (Nat.le_of_ble_eq_true rfl) hn) (by decide) ?_
  refine lv_iload_n hx hb dX3_studyPart_17 rfl (lv_at hl 2 rfl) ?_
  refine mi_ald S hG 16 16 rfl ec_16 (Nat.lt_of_lt_of_le (Nat.le_of_ble_eq_true rfl) hn) dX3_studyPart_18 hg_1 (by decide) ?_
  refine gi_nm (fun x_3 ex_3 => ?_)
  replace hM := nx_at hM ex_3
  clear ex_3
  refine lv_istore_n (lv' := [(3, .int (iI x_3)), (2, .int (iI x_2)), (0, .ref (b + 26)), (1, .int (iI a1))]) hx hb dX3_studyPart_19 rfl hl (by decide) rfl (fun ls hl => ?_)
  refine lv_iload_n hx hb dX3_studyPart_20 rfl (lv_at hl 1 rfl) ?_
  refine lv_bipush (v := iI 7) hx hb dX3_studyPart_21 (by decide) ?_
  obtain ⟨hg_4, hM⟩ := gd_some hM
  refine gi_icmp_ne (tgt := 79) hx hb dX3_studyPart_23 (by decide) hg_4 (by decide) (fun c_5 => ?_) (fun c_5 => ?_)
  · replace hM := ifn hM c_5
    refine lv_iload_n hx hb dX3_studyPart_79 rfl (lv_at hl 0 rfl) ?_
    refine lv_iconst (v := iI (-1)) hx hb dX3_studyPart_80 (by decide) ?_
    obtain ⟨hg_6, hM⟩ := gd_some hM
    refine gi_icmp_eq (tgt := 140) hx hb dX3_studyPart_81 (by decide) hg_6 (by decide) (fun c_7 => ?_) (fun c_7 => ?_)
    · replace hM := ifp hM c_7
      refine lv_aload_n hx hb dX3_studyPart_140 rfl (lv_at hl 2 rfl) ?_
      refine m_get S hG 26 26 3 rfl ec_26 cpX3 wm_323 dX3_studyPart_141 rfl (Nat.lt_of_lt_of_le (Nat.le_of_ble_eq_true rfl) hn) (by decide) ?_
      refine lv_iload_n hx hb dX3_studyPart_144 rfl (lv_at hl 3 rfl) ?_
      refine lv_iload_n hx hb dX3_studyPart_145 rfl (lv_at hl 1 rfl) ?_
      refine lv_iconst (v := iI 2) hx hb dX3_studyPart_146 (by decide) ?_
      obtain ⟨z_8, hc_9, hM⟩ := bd1_some hM
      have hK_10 : ∀ (H : Heap) (locs : List Loc) (ls : Array Slot), gW D cy b n s H locs (enc b cy X S0) → lv_has ls 5 [(2, .int (iI x_2)), (0, .ref (b + 26)), (1, .int (iI a1))] → W p l e (gRm 3 0 0) s m args below meth c H locs 0 0 (gQV D cy b s args below 0 0 (fun u => u = (n, enc b cy X o1))) (F0 m 165 ls [.int (iI z_8), .int (iI a1), .ref (b + 27)]) := by
        intro H locs ls hG hl
        refine mi_ast S hG 27 27 rfl ec_27 (Nat.lt_of_lt_of_le (Nat.le_of_ble_eq_true rfl) hn) dX3_studyPart_165 hg_1 (by decide) (fun H locs S_11 eS_11 hG => ?_)
        replace hM := nx_at hM eS_11
        clear eS_11
        refine lv_aload_n hx hb dX3_studyPart_166 rfl (lv_at hl 1 rfl) ?_
        refine m_get S hG 26 26 4 rfl ec_26 cpX3 wm_324 dX3_studyPart_167 rfl (Nat.lt_of_lt_of_le (Nat.le_of_ble_eq_true rfl) hn) (by decide) ?_
        refine lv_iload_n hx hb dX3_studyPart_170 rfl (lv_at hl 2 rfl) ?_
        refine lv_aload_n hx hb dX3_studyPart_171 rfl (lv_at hl 1 rfl) ?_
        refine m_get S hG 26 26 3 rfl ec_26 cpX3 wm_323 dX3_studyPart_172 rfl (Nat.lt_of_lt_of_le (Nat.le_of_ble_eq_true rfl) hn) (by decide) ?_
        refine lv_iload_n hx hb dX3_studyPart_175 rfl (lv_at hl 2 rfl) ?_
        refine mi_ald S hG 27 27 rfl ec_27 (Nat.lt_of_lt_of_le (Nat.le_of_ble_eq_true rfl) hn) dX3_studyPart_176 hg_1 (by decide) ?_
        refine mi_ast S hG 28 28 rfl ec_28 (Nat.lt_of_lt_of_le (Nat.le_of_ble_eq_true rfl) hn) dX3_studyPart_177 hg_1 (by decide) (fun H locs S_12 eS_12 hG => ?_)
        replace hM := nx_at hM eS_12
        clear eS_12
        refine lv_aload_n hx hb dX3_studyPart_178 rfl (lv_at hl 1 rfl) ?_
        refine m_get S hG 26 26 5 rfl ec_26 cpX3 wm_325 dX3_studyPart_179 rfl (Nat.lt_of_lt_of_le (Nat.le_of_ble_eq_true rfl) hn) (by decide) ?_
        refine lv_iload_n hx hb dX3_studyPart_182 rfl (lv_at hl 2 rfl) ?_
        refine lv_iload_n hx hb dX3_studyPart_183 rfl (lv_at hl 0 rfl) ?_
        refine gi_if_ne (tgt := 201) hx hb dX3_studyPart_184 (by decide) hg_4 (fun c_13 => ?_) (fun c_13 => ?_)
        · replace hM := ifn hM c_13
          refine lv_iconst (v := iI 0) hx hb dX3_studyPart_201 (by decide) ?_
          refine mi_ast S hG 29 29 rfl ec_29 (Nat.lt_of_lt_of_le (Nat.le_of_ble_eq_true rfl) hn) dX3_studyPart_202 hg_1 (by decide) (fun H locs S_14 eS_14 hG => ?_)
          replace hM := nx_at hM eS_14
          clear eS_14
          cases hM
          exact g_vret S hr hlk hG hsz dX3_studyPart_203 ⟨Nat.le_of_ble_eq_true rfl, Nat.le_of_ble_eq_true rfl⟩ rfl
        · replace hM := ifp hM c_13
          refine lv_iconst (v := iI 1) hx hb dX3_studyPart_187 (by decide) ?_
          refine lv_aload_n hx hb dX3_studyPart_188 rfl (lv_at hl 1 rfl) ?_
          refine m_get S hG 26 26 0 rfl ec_26 cpX3 wm_319 dX3_studyPart_189 rfl (Nat.lt_of_lt_of_le (Nat.le_of_ble_eq_true rfl) hn) (by decide) ?_
          refine m_get S hG 13 13 6 rfl ec_13 cpX2 wm_242 dX3_studyPart_192 rfl (Nat.lt_of_lt_of_le (Nat.le_of_ble_eq_true rfl) hn) (by decide) ?_
          refine lv_iload_n hx hb dX3_studyPart_195 rfl (lv_at hl 2 rfl) ?_
          refine mi_ald S hG 15 15 rfl ec_15 (Nat.lt_of_lt_of_le (Nat.le_of_ble_eq_true rfl) hn) dX3_studyPart_196 hg_1 (by decide) ?_
          refine gi_shl hx hb dX3_studyPart_197 ?_
          refine lv_goto (tgt := 202) hx hb dX3_studyPart_198 (by decide) ?_
          refine mi_ast S hG 29 29 rfl ec_29 (Nat.lt_of_lt_of_le (Nat.le_of_ble_eq_true rfl) hn) dX3_studyPart_202 hg_1 (by decide) (fun H locs S_15 eS_15 hG => ?_)
          replace hM := nx_at hM eS_15
          clear eS_15
          cases hM
          exact g_vret S hr hlk hG hsz dX3_studyPart_203 ⟨Nat.le_of_ble_eq_true rfl, Nat.le_of_ble_eq_true rfl⟩ rfl
      clear hM
      replace hM := hc_9
      refine gi_icmp_ne (tgt := 164) hx hb dX3_studyPart_147 (by decide) hg_4 (by decide) (fun c_16 => ?_) (fun c_16 => ?_)
      · replace hM := ifn hM c_16
        refine lv_iconst (v := iI 0) hx hb dX3_studyPart_164 (by decide) ?_
        cases hM
        exact hK_10 H locs ls hG (lv_sub hl [1, 2, 3] rfl)
      · replace hM := ifp hM c_16
        refine lv_iconst (v := iI 1) hx hb dX3_studyPart_150 (by decide) ?_
        refine lv_aload_n hx hb dX3_studyPart_151 rfl (lv_at hl 2 rfl) ?_
        refine m_get S hG 26 26 0 rfl ec_26 cpX3 wm_319 dX3_studyPart_152 rfl (Nat.lt_of_lt_of_le (Nat.le_of_ble_eq_true rfl) hn) (by decide) ?_
        refine m_get S hG 13 13 6 rfl ec_13 cpX2 wm_242 dX3_studyPart_155 rfl (Nat.lt_of_lt_of_le (Nat.le_of_ble_eq_true rfl) hn) (by decide) ?_
        refine lv_iload_n hx hb dX3_studyPart_158 rfl (lv_at hl 3 rfl) ?_
        refine mi_ald S hG 15 15 rfl ec_15 (Nat.lt_of_lt_of_le (Nat.le_of_ble_eq_true rfl) hn) dX3_studyPart_159 hg_1 (by decide) ?_
        refine gi_shl hx hb dX3_studyPart_160 ?_
        refine lv_goto (tgt := 165) hx hb dX3_studyPart_161 (by decide) ?_
        cases hM
        exact hK_10 H locs ls hG (lv_sub hl [1, 2, 3] rfl)
    · replace hM := ifn hM c_7
      refine lv_aload_n hx hb dX3_studyPart_84 rfl (lv_at hl 2 rfl) ?_
      refine m_get S hG 26 26 3 rfl ec_26 cpX3 wm_323 dX3_studyPart_85 rfl (Nat.lt_of_lt_of_le (Nat.le_of_ble_eq_true rfl) hn) (by decide) ?_
      refine lv_iload_n hx hb dX3_studyPart_88 rfl (lv_at hl 3 rfl) ?_
      refine lv_aload_n hx hb dX3_studyPart_89 rfl (lv_at hl 2 rfl) ?_
      refine m_get S hG 26 26 0 rfl ec_26 cpX3 wm_319 dX3_studyPart_90 rfl (Nat.lt_of_lt_of_le (Nat.le_of_ble_eq_true rfl) hn) (by decide) ?_
      refine m_get S hG 13 13 6 rfl ec_13 cpX2 wm_242 dX3_studyPart_93 rfl (Nat.lt_of_lt_of_le (Nat.le_of_ble_eq_true rfl) hn) (by decide) ?_
      refine lv_iload_n hx hb dX3_studyPart_96 rfl (lv_at hl 3 rfl) ?_
      refine mi_ald S hG 15 15 rfl ec_15 (Nat.lt_of_lt_of_le (Nat.le_of_ble_eq_true rfl) hn) dX3_studyPart_97 hg_1 (by decide) ?_
      refine lv_iconst (v := iI 1) hx hb dX3_studyPart_98 (by decide) ?_
      obtain ⟨z_17, hc_18, hM⟩ := bd1_some hM
      have hK_19 : ∀ (H : Heap) (locs : List Loc) (ls : Array Slot), gW D cy b n s H locs (enc b cy X S0) → lv_has ls 5 [(3, .int (iI x_3)), (0, .ref (b + 26)), (1, .int (iI a1))] → W p l e (gRm 3 0 0) s m args below meth c H locs 0 0 (gQV D cy b s args below 0 0 (fun u => u = (n, enc b cy X o1))) (F0 m 112 ls [.int (iI z_17), .int (iI a1), .ref (b + 27)]) := by
        intro H locs ls hG hl
        refine mi_ast S hG 27 27 rfl ec_27 (Nat.lt_of_lt_of_le (Nat.le_of_ble_eq_true rfl) hn) dX3_studyPart_112 hg_1 (by decide) (fun H locs S_20 eS_20 hG => ?_)
        replace hM := nx_at hM eS_20
        clear eS_20
        refine lv_aload_n hx hb dX3_studyPart_113 rfl (lv_at hl 1 rfl) ?_
        refine m_get S hG 26 26 4 rfl ec_26 cpX3 wm_324 dX3_studyPart_114 rfl (Nat.lt_of_lt_of_le (Nat.le_of_ble_eq_true rfl) hn) (by decide) ?_
        refine lv_iload_n hx hb dX3_studyPart_117 rfl (lv_at hl 2 rfl) ?_
        refine lv_aload_n hx hb dX3_studyPart_118 rfl (lv_at hl 1 rfl) ?_
        refine m_get S hG 26 26 4 rfl ec_26 cpX3 wm_324 dX3_studyPart_119 rfl (Nat.lt_of_lt_of_le (Nat.le_of_ble_eq_true rfl) hn) (by decide) ?_
        refine lv_iload_n hx hb dX3_studyPart_122 rfl (lv_at hl 0 rfl) ?_
        obtain ⟨hg_21, hM⟩ := gd_some hM
        refine mi_ald S hG 28 28 rfl ec_28 (Nat.lt_of_lt_of_le (Nat.le_of_ble_eq_true rfl) hn) dX3_studyPart_123 hg_21 (by decide) ?_
        refine mi_ast S hG 28 28 rfl ec_28 (Nat.lt_of_lt_of_le (Nat.le_of_ble_eq_true rfl) hn) dX3_studyPart_124 hg_1 (by decide) (fun H locs S_22 eS_22 hG => ?_)
        replace hM := nx_at hM eS_22
        clear eS_22
        refine lv_aload_n hx hb dX3_studyPart_125 rfl (lv_at hl 1 rfl) ?_
        refine m_get S hG 26 26 5 rfl ec_26 cpX3 wm_325 dX3_studyPart_126 rfl (Nat.lt_of_lt_of_le (Nat.le_of_ble_eq_true rfl) hn) (by decide) ?_
        refine lv_iload_n hx hb dX3_studyPart_129 rfl (lv_at hl 2 rfl) ?_
        refine lv_aload_n hx hb dX3_studyPart_130 rfl (lv_at hl 1 rfl) ?_
        refine m_get S hG 26 26 5 rfl ec_26 cpX3 wm_325 dX3_studyPart_131 rfl (Nat.lt_of_lt_of_le (Nat.le_of_ble_eq_true rfl) hn) (by decide) ?_
        refine lv_iload_n hx hb dX3_studyPart_134 rfl (lv_at hl 0 rfl) ?_
        refine mi_ald S hG 29 29 rfl ec_29 (Nat.lt_of_lt_of_le (Nat.le_of_ble_eq_true rfl) hn) dX3_studyPart_135 hg_21 (by decide) ?_
        refine mi_ast S hG 29 29 rfl ec_29 (Nat.lt_of_lt_of_le (Nat.le_of_ble_eq_true rfl) hn) dX3_studyPart_136 hg_1 (by decide) (fun H locs S_23 eS_23 hG => ?_)
        replace hM := nx_at hM eS_23
        clear eS_23
        refine lv_goto (tgt := 203) hx hb dX3_studyPart_137 (by decide) ?_
        cases hM
        exact g_vret S hr hlk hG hsz dX3_studyPart_203 ⟨Nat.le_of_ble_eq_true rfl, Nat.le_of_ble_eq_true rfl⟩ rfl
      clear hM
      replace hM := hc_18
      obtain ⟨hg_24, hM⟩ := gd_some hM
      refine gi_icmp_gt (tgt := 111) hx hb dX3_studyPart_99 (by decide) hg_24 (by decide) (fun c_25 => ?_) (fun c_25 => ?_)
      · replace hM := ifp hM c_25
        refine lv_iconst (v := iI 0) hx hb dX3_studyPart_111 (by decide) ?_
        cases hM
        exact hK_19 H locs ls hG (lv_sub hl [0, 2, 3] rfl)
      · replace hM := ifn hM c_25
        refine lv_aload_n hx hb dX3_studyPart_102 rfl (lv_at hl 2 rfl) ?_
        refine m_get S hG 26 26 3 rfl ec_26 cpX3 wm_323 dX3_studyPart_103 rfl (Nat.lt_of_lt_of_le (Nat.le_of_ble_eq_true rfl) hn) (by decide) ?_
        refine lv_iload_n hx hb dX3_studyPart_106 rfl (lv_at hl 0 rfl) ?_
        obtain ⟨hg_26, hM⟩ := gd_some hM
        refine mi_ald S hG 27 27 rfl ec_27 (Nat.lt_of_lt_of_le (Nat.le_of_ble_eq_true rfl) hn) dX3_studyPart_107 hg_26 (by decide) ?_
        refine lv_goto (tgt := 112) hx hb dX3_studyPart_108 (by decide) ?_
        cases hM
        exact hK_19 H locs ls hG (lv_sub hl [0, 2, 3] rfl)
  · replace hM := ifp hM c_5
    refine lv_bipush (v := iI 6) hx hb dX3_studyPart_26 (by decide) ?_
    refine lv_iload_n hx hb dX3_studyPart_28 rfl (lv_at hl 3 rfl) ?_
    refine gi_add hx hb dX3_studyPart_29 ?_
    refine gi_nm (fun x_27 ex_27 => ?_)
    replace hM := nx_at hM ex_27
    clear ex_27
    refine lv_istore (lv' := [(4, .int (iI x_27)), (3, .int (iI x_3)), (2, .int (iI x_2)), (0, .ref (b + 26)), (1, .int (iI a1))]) hx hb dX3_studyPart_30 hl (by decide) rfl (fun ls hl => ?_)
    refine lv_aload_n hx hb dX3_studyPart_32 rfl (lv_at hl 3 rfl) ?_
    refine m_get S hG 26 26 3 rfl ec_26 cpX3 wm_323 dX3_studyPart_33 rfl (Nat.lt_of_lt_of_le (Nat.le_of_ble_eq_true rfl) hn) (by decide) ?_
    refine lv_iload_n hx hb dX3_studyPart_36 rfl (lv_at hl 4 rfl) ?_
    refine lv_aload_n hx hb dX3_studyPart_37 rfl (lv_at hl 3 rfl) ?_
    refine lv_iload hx hb dX3_studyPart_38 (lv_at hl 0 rfl) ?_
    obtain ⟨r_29, hc_28, hM⟩ := bd1_some hM
    refine g_vi (As := [.int (iI x_27)]) (rest := [.int (iI a1), .ref (b + 27)]) S hG hsz (vX3_exprLeans_26 l hn x_27 hc_28) wV_3_56 (ec_26 _) cpX3 (Nat.lt_of_lt_of_le (Nat.le_of_ble_eq_true rfl) hn) dX3_studyPart_40 rfl hl.1 (ar := 1) (by decide +kernel) rfl ⟨Nat.le_of_ble_eq_true rfl, Nat.le_of_ble_eq_true rfl, Nat.le_of_ble_eq_true rfl, Nat.le_of_ble_eq_true rfl⟩ (Nat.le_of_ble_eq_true rfl) (fun rv uu H locs hp hG => ?_)
    obtain ⟨rfl, rfl⟩ := hp
    replace hG : gW D cy b n s H locs (enc b cy X S0) := hG
    refine mi_ast S hG 27 27 rfl ec_27 (Nat.lt_of_lt_of_le (Nat.le_of_ble_eq_true rfl) hn) dX3_studyPart_43 hg_1 (by decide) (fun H locs S_30 eS_30 hG => ?_)
    replace hM := nx_at hM eS_30
    clear eS_30
    refine lv_aload_n hx hb dX3_studyPart_44 rfl (lv_at hl 3 rfl) ?_
    refine m_get S hG 26 26 4 rfl ec_26 cpX3 wm_324 dX3_studyPart_45 rfl (Nat.lt_of_lt_of_le (Nat.le_of_ble_eq_true rfl) hn) (by decide) ?_
    refine lv_iload_n hx hb dX3_studyPart_48 rfl (lv_at hl 4 rfl) ?_
    refine lv_aload_n hx hb dX3_studyPart_49 rfl (lv_at hl 3 rfl) ?_
    refine lv_iload hx hb dX3_studyPart_50 (lv_at hl 0 rfl) ?_
    refine lv_aload_n hx hb dX3_studyPart_52 rfl (lv_at hl 3 rfl) ?_
    refine m_get S hG 26 26 4 rfl ec_26 cpX3 wm_324 dX3_studyPart_53 rfl (Nat.lt_of_lt_of_le (Nat.le_of_ble_eq_true rfl) hn) (by decide) ?_
    obtain ⟨r_32, hc_31, hM⟩ := bd1_some hM
    refine g_vi (As := [.int (iI x_27), .ref (b + 28)]) (rest := [.int (iI a1), .ref (b + 28)]) S hG hsz (vX3_exprHas_26_28 l hn x_27 hc_31) wV_3_60 (ec_26 _) cpX3 (Nat.lt_of_lt_of_le (Nat.le_of_ble_eq_true rfl) hn) dX3_studyPart_56 rfl hl.1 (ar := 2) (by decide +kernel) rfl ⟨Nat.le_of_ble_eq_true rfl, Nat.le_of_ble_eq_true rfl, Nat.le_of_ble_eq_true rfl, Nat.le_of_ble_eq_true rfl⟩ (Nat.le_of_ble_eq_true rfl) (fun rv uu H locs hp hG => ?_)
    obtain ⟨rfl, rfl⟩ := hp
    replace hG : gW D cy b n s H locs (enc b cy X S_30) := hG
    refine mi_ast S hG 28 28 rfl ec_28 (Nat.lt_of_lt_of_le (Nat.le_of_ble_eq_true rfl) hn) dX3_studyPart_59 hg_1 (by decide) (fun H locs S_33 eS_33 hG => ?_)
    replace hM := nx_at hM eS_33
    clear eS_33
    refine lv_aload_n hx hb dX3_studyPart_60 rfl (lv_at hl 3 rfl) ?_
    refine m_get S hG 26 26 5 rfl ec_26 cpX3 wm_325 dX3_studyPart_61 rfl (Nat.lt_of_lt_of_le (Nat.le_of_ble_eq_true rfl) hn) (by decide) ?_
    refine lv_iload_n hx hb dX3_studyPart_64 rfl (lv_at hl 4 rfl) ?_
    refine lv_aload_n hx hb dX3_studyPart_65 rfl (lv_at hl 3 rfl) ?_
    refine lv_iload hx hb dX3_studyPart_66 (lv_at hl 0 rfl) ?_
    refine lv_aload_n hx hb dX3_studyPart_68 rfl (lv_at hl 3 rfl) ?_
    refine m_get S hG 26 26 5 rfl ec_26 cpX3 wm_325 dX3_studyPart_69 rfl (Nat.lt_of_lt_of_le (Nat.le_of_ble_eq_true rfl) hn) (by decide) ?_
    obtain ⟨r_35, hc_34, hM⟩ := bd1_some hM
    refine g_vi (As := [.int (iI x_27), .ref (b + 29)]) (rest := [.int (iI a1), .ref (b + 29)]) S hG hsz (vX3_exprHas_26_29 l hn x_27 hc_34) wV_3_60 (ec_26 _) cpX3 (Nat.lt_of_lt_of_le (Nat.le_of_ble_eq_true rfl) hn) dX3_studyPart_72 rfl hl.1 (ar := 2) (by decide +kernel) rfl ⟨Nat.le_of_ble_eq_true rfl, Nat.le_of_ble_eq_true rfl, Nat.le_of_ble_eq_true rfl, Nat.le_of_ble_eq_true rfl⟩ (Nat.le_of_ble_eq_true rfl) (fun rv uu H locs hp hG => ?_)
    obtain ⟨rfl, rfl⟩ := hp
    replace hG : gW D cy b n s H locs (enc b cy X S_33) := hG
    refine mi_ast S hG 29 29 rfl ec_29 (Nat.lt_of_lt_of_le (Nat.le_of_ble_eq_true rfl) hn) dX3_studyPart_75 hg_1 (by decide) (fun H locs S_36 eS_36 hG => ?_)
    replace hM := nx_at hM eS_36
    clear eS_36
    refine lv_goto (tgt := 203) hx hb dX3_studyPart_76 (by decide) ?_
    cases hM
    exact g_vret S hr hlk hG hsz dX3_studyPart_203 ⟨Nat.le_of_ble_eq_true rfl, Nat.le_of_ble_eq_true rfl⟩ rfl
def mX3_study_26_31  : Nat → Int → St → Option (St)
  | 0, _, _ => none
  | f + 1, v_9, S_10 => gd ((inI v_9) ∧ (inI (S_10 13 1))) <| if (S_10 13 1) ≤ v_9 then (some (S_10)) else (bd1 (mX3_exprLeans_26 S_10 v_9) fun r_20 => gd (0 ≤ v_9 ∧ v_9 < 6) <| nx (up S_10 30 v_9 r_20) fun S_22 => bd1 (mX3_exprHas_26_28 S_22 v_9) fun r_24 => nx (up S_22 31 v_9 r_24) fun S_25 => bd1 (mX3_exprHas_26_29 S_25 v_9) fun r_27 => nx (up S_25 32 v_9 r_27) fun S_28 => mX3_study_26_31 f (v_9 + 1) S_28)
def mX3_study_26_14  : Nat → Int → St → Option (St)
  | 0, _, _ => none
  | f + 1, v_4, S_5 => gd (inI v_4) <| if v_4 < 0 then (some (S_5)) else (bd1 (mX3_studyPart_26 S_5 v_4) fun S_35 => mX3_study_26_14 f (v_4 - 1) S_35)
def mX3_study_26 (S0 : St)  : Option (St) := bd1 (mX3_findEmpty_26 S0) fun S_2 => nx ((S_2 13 3) - 1) fun x_3 => bd1 (mX3_study_26_14 FU x_3 S_2) fun S_6 => bd1 (mX3_study_26_31 FU 0 S_6) fun S_11 => some (S_11)
set_option maxHeartbeats 4000000 in
set_option maxRecDepth 100000 in
theorem vX3_study_26 (l : Launch) {D : va_G} {cy : Nat → ClassId} {b n : Nat} (hn : 102 ≤ n) {X : Nat → va_E} {S0 : St}  {o1 : St} (hM : mX3_study_26 S0  = some o1) : gV l yX3_study cX3_study 2 5 0 0 D cy b n (enc b cy X S0) [.ref (b + 26)] (fun u => u = (n, enc b cy X o1)) := by
  refine gV_of (by decide) (Nat.le_of_ble_eq_true rfl) ?_
  intro p e s m args below meth c S hr hlk hin hsz ls hl hG
  have hx := S.1
  have hb := S.2.1
  have hl : lv_has ls 2 [(0, .ref (b + 26))] := hl
  replace hG : gW D cy b n s s.heap [] (enc b cy X S0) := hG
  obtain ⟨H, eH⟩ : ∃ H, H = s.heap := ⟨_, rfl⟩
  obtain ⟨locs, elocs⟩ : ∃ locs : List Loc, locs = [] := ⟨_, rfl⟩
  rw [← eH, ← elocs] at hG
  rw [← eH, ← elocs]
  clear eH elocs
  unfold mX3_study_26 at hM
  refine lv_aload_n hx hb dX3_study_0 rfl (lv_at hl 0 rfl) ?_
  obtain ⟨S_2, hc_1, hM⟩ := bd1_some hM
  refine g_vv (As := []) (rest := []) S hG hsz (vX3_findEmpty_26 l hn  hc_1) wV_3_41 (ec_26 _) cpX3 (Nat.lt_of_lt_of_le (Nat.le_of_ble_eq_true rfl) hn) dX3_study_1 rfl hl.1 (ar := 0) (by decide +kernel) rfl ⟨Nat.le_of_ble_eq_true rfl, Nat.le_of_ble_eq_true rfl, Nat.le_of_ble_eq_true rfl, Nat.le_of_ble_eq_true rfl⟩ (Nat.le_of_ble_eq_true rfl) (fun uu H locs hp hG => ?_)
  obtain rfl := hp
  replace hG : gW D cy b n s H locs (enc b cy X S_2) := hG
  refine lv_aload_n hx hb dX3_study_4 rfl (lv_at hl 0 rfl) ?_
  refine m_get S hG 26 26 0 rfl ec_26 cpX3 wm_319 dX3_study_5 rfl (Nat.lt_of_lt_of_le (Nat.le_of_ble_eq_true rfl) hn) (by decide) ?_
  refine m_get S hG 13 13 3 rfl ec_13 cpX2 wm_227 dX3_study_8 rfl (Nat.lt_of_lt_of_le (Nat.le_of_ble_eq_true rfl) hn) (by decide) ?_
  refine lv_iconst (v := iI 1) hx hb dX3_study_11 (by decide) ?_
  refine gi_sub hx hb dX3_study_12 ?_
  refine gi_nm (fun x_3 ex_3 => ?_)
  replace hM := nx_at hM ex_3
  clear ex_3
  refine lv_istore_n (lv' := [(1, .int (iI x_3)), (0, .ref (b + 26))]) hx hb dX3_study_13 rfl hl (by decide) rfl (fun ls hl => ?_)
  obtain ⟨S_6, hc_7, hM⟩ := bd1_some hM
  have hK_8 : ∀ (H : Heap) (locs : List Loc) (ls : Array Slot), gW D cy b n s H locs (enc b cy X S_6) → lv_has ls 2 [(0, .ref (b + 26))] → W p l e (gRm 5 0 0) s m args below meth c H locs 0 0 (gQV D cy b s args below 0 0 (fun u => u = (n, enc b cy X o1))) (F0 m 29 ls []) := by
    intro H locs ls hG hl
    refine lv_iconst (v := iI 0) hx hb dX3_study_29 (by decide) ?_
    refine lv_istore_n (lv' := [(1, .int (iI 0)), (0, .ref (b + 26))]) hx hb dX3_study_30 rfl hl (by decide) rfl (fun ls hl => ?_)
    obtain ⟨S_11, hc_12, hM⟩ := bd1_some hM
    have hK_13 : ∀ (H : Heap) (locs : List Loc) (ls : Array Slot), gW D cy b n s H locs (enc b cy X S_11) → lv_has ls 2 [] → W p l e (gRm 5 0 0) s m args below meth c H locs 0 0 (gQV D cy b s args below 0 0 (fun u => u = (n, enc b cy X o1))) (F0 m 89 ls []) := by
      intro H locs ls hG hl
      cases hM
      exact g_vret S hr hlk hG hsz dX3_study_89 ⟨Nat.le_of_ble_eq_true rfl, Nat.le_of_ble_eq_true rfl⟩ rfl
    have loop_14 : ∀ (f : Nat) (v_9 : Int) (S_10 : St) (H : Heap) (locs : List Loc) (ls : Array Slot), mX3_study_26_31 f v_9 S_10 = some S_11 → gW D cy b n s H locs (enc b cy X S_10) → lv_has ls 2 [(1, .int (iI v_9)), (0, .ref (b + 26))] → W p l e (gRm 5 0 0) s m args below meth c H locs 0 0 (gQV D cy b s args below 0 0 (fun u => u = (n, enc b cy X o1))) (F0 m 31 ls []) := by
      clear hM
      intro f
      induction f with
      | zero => intro v_9 S_10 H locs ls hM; rw [mX3_study_26_31] at hM; cases hM
      | succ f_16 ih_15 =>
        intro v_9 S_10 H locs ls hM hG hl
        rw [mX3_study_26_31] at hM
        refine lv_iload_n hx hb dX3_study_31 rfl (lv_at hl 0 rfl) ?_
        refine lv_aload_n hx hb dX3_study_32 rfl (lv_at hl 1 rfl) ?_
        refine m_get S hG 26 26 0 rfl ec_26 cpX3 wm_319 dX3_study_33 rfl (Nat.lt_of_lt_of_le (Nat.le_of_ble_eq_true rfl) hn) (by decide) ?_
        refine m_get S hG 13 13 1 rfl ec_13 cpX2 wm_219 dX3_study_36 rfl (Nat.lt_of_lt_of_le (Nat.le_of_ble_eq_true rfl) hn) (by decide) ?_
        obtain ⟨hg_17, hM⟩ := gd_some hM
        refine gi_icmp_ge (tgt := 89) hx hb dX3_study_39 (by decide) hg_17.1 hg_17.2 (fun c_18 => ?_) (fun c_18 => ?_)
        · replace hM := ifp hM c_18
          cases hM
          exact hK_13 H locs ls hG (lv_sub hl [] rfl)
        · replace hM := ifn hM c_18
          refine lv_aload_n hx hb dX3_study_42 rfl (lv_at hl 1 rfl) ?_
          refine m_get S hG 26 26 6 rfl ec_26 cpX3 wm_326 dX3_study_43 rfl (Nat.lt_of_lt_of_le (Nat.le_of_ble_eq_true rfl) hn) (by decide) ?_
          refine lv_iload_n hx hb dX3_study_46 rfl (lv_at hl 0 rfl) ?_
          refine lv_aload_n hx hb dX3_study_47 rfl (lv_at hl 1 rfl) ?_
          refine lv_iload_n hx hb dX3_study_48 rfl (lv_at hl 0 rfl) ?_
          obtain ⟨r_20, hc_19, hM⟩ := bd1_some hM
          refine g_vi (As := [.int (iI v_9)]) (rest := [.int (iI v_9), .ref (b + 30)]) S hG hsz (vX3_exprLeans_26 l hn v_9 hc_19) wV_3_56 (ec_26 _) cpX3 (Nat.lt_of_lt_of_le (Nat.le_of_ble_eq_true rfl) hn) dX3_study_49 rfl hl.1 (ar := 1) (by decide +kernel) rfl ⟨Nat.le_of_ble_eq_true rfl, Nat.le_of_ble_eq_true rfl, Nat.le_of_ble_eq_true rfl, Nat.le_of_ble_eq_true rfl⟩ (Nat.le_of_ble_eq_true rfl) (fun rv uu H locs hp hG => ?_)
          obtain ⟨rfl, rfl⟩ := hp
          replace hG : gW D cy b n s H locs (enc b cy X S_10) := hG
          obtain ⟨hg_21, hM⟩ := gd_some hM
          refine mi_ast S hG 30 30 rfl ec_30 (Nat.lt_of_lt_of_le (Nat.le_of_ble_eq_true rfl) hn) dX3_study_52 hg_21 (by decide) (fun H locs S_22 eS_22 hG => ?_)
          replace hM := nx_at hM eS_22
          clear eS_22
          refine lv_aload_n hx hb dX3_study_53 rfl (lv_at hl 1 rfl) ?_
          refine m_get S hG 26 26 7 rfl ec_26 cpX3 wm_329 dX3_study_54 rfl (Nat.lt_of_lt_of_le (Nat.le_of_ble_eq_true rfl) hn) (by decide) ?_
          refine lv_iload_n hx hb dX3_study_57 rfl (lv_at hl 0 rfl) ?_
          refine lv_aload_n hx hb dX3_study_58 rfl (lv_at hl 1 rfl) ?_
          refine lv_iload_n hx hb dX3_study_59 rfl (lv_at hl 0 rfl) ?_
          refine lv_aload_n hx hb dX3_study_60 rfl (lv_at hl 1 rfl) ?_
          refine m_get S hG 26 26 4 rfl ec_26 cpX3 wm_324 dX3_study_61 rfl (Nat.lt_of_lt_of_le (Nat.le_of_ble_eq_true rfl) hn) (by decide) ?_
          obtain ⟨r_24, hc_23, hM⟩ := bd1_some hM
          refine g_vi (As := [.int (iI v_9), .ref (b + 28)]) (rest := [.int (iI v_9), .ref (b + 31)]) S hG hsz (vX3_exprHas_26_28 l hn v_9 hc_23) wV_3_60 (ec_26 _) cpX3 (Nat.lt_of_lt_of_le (Nat.le_of_ble_eq_true rfl) hn) dX3_study_64 rfl hl.1 (ar := 2) (by decide +kernel) rfl ⟨Nat.le_of_ble_eq_true rfl, Nat.le_of_ble_eq_true rfl, Nat.le_of_ble_eq_true rfl, Nat.le_of_ble_eq_true rfl⟩ (Nat.le_of_ble_eq_true rfl) (fun rv uu H locs hp hG => ?_)
          obtain ⟨rfl, rfl⟩ := hp
          replace hG : gW D cy b n s H locs (enc b cy X S_22) := hG
          refine mi_ast S hG 31 31 rfl ec_31 (Nat.lt_of_lt_of_le (Nat.le_of_ble_eq_true rfl) hn) dX3_study_67 hg_21 (by decide) (fun H locs S_25 eS_25 hG => ?_)
          replace hM := nx_at hM eS_25
          clear eS_25
          refine lv_aload_n hx hb dX3_study_68 rfl (lv_at hl 1 rfl) ?_
          refine m_get S hG 26 26 8 rfl ec_26 cpX3 wm_331 dX3_study_69 rfl (Nat.lt_of_lt_of_le (Nat.le_of_ble_eq_true rfl) hn) (by decide) ?_
          refine lv_iload_n hx hb dX3_study_72 rfl (lv_at hl 0 rfl) ?_
          refine lv_aload_n hx hb dX3_study_73 rfl (lv_at hl 1 rfl) ?_
          refine lv_iload_n hx hb dX3_study_74 rfl (lv_at hl 0 rfl) ?_
          refine lv_aload_n hx hb dX3_study_75 rfl (lv_at hl 1 rfl) ?_
          refine m_get S hG 26 26 5 rfl ec_26 cpX3 wm_325 dX3_study_76 rfl (Nat.lt_of_lt_of_le (Nat.le_of_ble_eq_true rfl) hn) (by decide) ?_
          obtain ⟨r_27, hc_26, hM⟩ := bd1_some hM
          refine g_vi (As := [.int (iI v_9), .ref (b + 29)]) (rest := [.int (iI v_9), .ref (b + 32)]) S hG hsz (vX3_exprHas_26_29 l hn v_9 hc_26) wV_3_60 (ec_26 _) cpX3 (Nat.lt_of_lt_of_le (Nat.le_of_ble_eq_true rfl) hn) dX3_study_79 rfl hl.1 (ar := 2) (by decide +kernel) rfl ⟨Nat.le_of_ble_eq_true rfl, Nat.le_of_ble_eq_true rfl, Nat.le_of_ble_eq_true rfl, Nat.le_of_ble_eq_true rfl⟩ (Nat.le_of_ble_eq_true rfl) (fun rv uu H locs hp hG => ?_)
          obtain ⟨rfl, rfl⟩ := hp
          replace hG : gW D cy b n s H locs (enc b cy X S_25) := hG
          refine mi_ast S hG 32 32 rfl ec_32 (Nat.lt_of_lt_of_le (Nat.le_of_ble_eq_true rfl) hn) dX3_study_82 hg_21 (by decide) (fun H locs S_28 eS_28 hG => ?_)
          replace hM := nx_at hM eS_28
          clear eS_28
          refine lv_iinc (v := iI (v_9 + 1)) (lv' := [(1, .int (iI (v_9 + 1))), (0, .ref (b + 26))]) hx hb dX3_study_83 hl (k := 0) rfl ((iI_add v_9 (1)).trans (congrArg iI (by omega))) (by decide) rfl (fun ls hl => ?_)
          refine lv_goto (tgt := 31) hx hb dX3_study_86 (by decide) ?_
          exact ih_15 (v_9 + 1) S_28 H locs ls hM hG (lv_sub hl [0, 1] rfl)
    exact loop_14 FU 0 S_6 H locs ls hc_12 hG (lv_sub hl [0, 1] rfl)
  have loop_29 : ∀ (f : Nat) (v_4 : Int) (S_5 : St) (H : Heap) (locs : List Loc) (ls : Array Slot), mX3_study_26_14 f v_4 S_5 = some S_6 → gW D cy b n s H locs (enc b cy X S_5) → lv_has ls 2 [(1, .int (iI v_4)), (0, .ref (b + 26))] → W p l e (gRm 5 0 0) s m args below meth c H locs 0 0 (gQV D cy b s args below 0 0 (fun u => u = (n, enc b cy X o1))) (F0 m 14 ls []) := by
    clear hM
    intro f
    induction f with
    | zero => intro v_4 S_5 H locs ls hM; rw [mX3_study_26_14] at hM; cases hM
    | succ f_31 ih_30 =>
      intro v_4 S_5 H locs ls hM hG hl
      rw [mX3_study_26_14] at hM
      refine lv_iload_n hx hb dX3_study_14 rfl (lv_at hl 0 rfl) ?_
      obtain ⟨hg_32, hM⟩ := gd_some hM
      refine gi_if_lt (tgt := 29) hx hb dX3_study_15 (by decide) hg_32 (fun c_33 => ?_) (fun c_33 => ?_)
      · replace hM := ifp hM c_33
        cases hM
        exact hK_8 H locs ls hG (lv_sub hl [1] rfl)
      · replace hM := ifn hM c_33
        refine lv_aload_n hx hb dX3_study_18 rfl (lv_at hl 1 rfl) ?_
        refine lv_iload_n hx hb dX3_study_19 rfl (lv_at hl 0 rfl) ?_
        obtain ⟨S_35, hc_34, hM⟩ := bd1_some hM
        refine g_vv (As := [.int (iI v_4)]) (rest := []) S hG hsz (vX3_studyPart_26 l hn v_4 hc_34) wV_3_49 (ec_26 _) cpX3 (Nat.lt_of_lt_of_le (Nat.le_of_ble_eq_true rfl) hn) dX3_study_20 rfl hl.1 (ar := 1) (by decide +kernel) rfl ⟨Nat.le_of_ble_eq_true rfl, Nat.le_of_ble_eq_true rfl, Nat.le_of_ble_eq_true rfl, Nat.le_of_ble_eq_true rfl⟩ (Nat.le_of_ble_eq_true rfl) (fun uu H locs hp hG => ?_)
        obtain rfl := hp
        replace hG : gW D cy b n s H locs (enc b cy X S_35) := hG
        refine lv_iinc (v := iI (v_4 - 1)) (lv' := [(1, .int (iI (v_4 - 1))), (0, .ref (b + 26))]) hx hb dX3_study_23 hl (k := 0) rfl ((iI_add v_4 (-1)).trans (congrArg iI (by omega))) (by decide) rfl (fun ls hl => ?_)
        refine lv_goto (tgt := 14) hx hb dX3_study_26 (by decide) ?_
        exact ih_30 (v_4 - 1) S_35 H locs ls hM hG (lv_sub hl [0, 1] rfl)
  exact loop_29 FU x_3 S_2 H locs ls hc_7 hG (lv_sub hl [0, 1] rfl)
theorem wV_5_77 : gWV "GrownKinds$Reader" 77 yX5_refuseMeaningless cX5_refuseMeaningless 2 none := ⟨wm_933, wm_935, wm_25, wm_179, wm_936, by decide +kernel, by decide +kernel⟩
theorem wS_5_92 : gWS "GrownKinds$Reader" 92 yX3_closure cX3_closure 5 (some .int) := ⟨wm_937, wm_938, wm_180, wm_939, by decide +kernel, by decide +kernel⟩
def mX3_closure_30_15 (S0 : St) (v_3 : Int) : Nat → Int → Int → Option (Int)
  | 0, _, _ => none
  | f + 1, v_13, v_14 => gd (inI v_13) <| if 6 ≤ v_13 then (some (v_14)) else (gd (inI (an (shr v_14 v_13) 1)) <| if (an (shr v_14 v_13) 1) = 0 then (mX3_closure_30_15 S0 v_3 f (v_13 + 1) v_14) else (gd (0 ≤ v_13 ∧ v_13 < 6) <| nx (orr v_14 (S0 30 v_13)) fun x_26 => mX3_closure_30_15 S0 v_3 f (v_13 + 1) x_26))
def mX3_closure_30_6 (S0 : St)  : Nat → Int → Int → Option (Int)
  | 0, _, _ => none
  | f + 1, v_3, v_4 => gd (inI v_3) <| if 6 ≤ v_3 then (some (v_4)) else (bd1 (mX3_closure_30_15 S0 v_3 FU 0 v_4) fun y_15 => mX3_closure_30_6 S0 f (v_3 + 1) y_15)
def mX3_closure_30 (S0 : St) (a2 : Int) : Option (Int) := gd (0 ≤ a2 ∧ a2 < 6) <| nx (S0 30 a2) fun x_2 => bd1 (mX3_closure_30_6 S0 FU 0 x_2) fun y_5 => some (y_5)
set_option maxHeartbeats 4000000 in
set_option maxRecDepth 100000 in
theorem vX3_closure_30 (l : Launch) {D : va_G} {cy : Nat → ClassId} {b n : Nat} (hn : 102 ≤ n) {X : Nat → va_E} {S0 : St} (a2 : Int) {o1 : Int} (hM : mX3_closure_30 S0 a2 = some o1) : gI l yX3_closure cX3_closure 5 (some .int) 0 0 0 D cy b n (enc b cy X S0) [.ref (b + 30), .int (iI a2)] (fun r u => r = iI o1 ∧ u = (n, enc b cy X S0)) := by
  refine gI_of (by decide) (Nat.le_of_ble_eq_true rfl) ?_
  intro p e s m args below meth c S hr hlk hin hsz ls hl hG
  have hx := S.1
  have hb := S.2.1
  have hl : lv_has ls 5 [(0, .ref (b + 30)), (1, .int (iI a2))] := hl
  replace hG : gW D cy b n s s.heap [] (enc b cy X S0) := hG
  obtain ⟨H, eH⟩ : ∃ H, H = s.heap := ⟨_, rfl⟩
  obtain ⟨locs, elocs⟩ : ∃ locs : List Loc, locs = [] := ⟨_, rfl⟩
  rw [← eH, ← elocs] at hG
  rw [← eH, ← elocs]
  clear eH elocs
  unfold mX3_closure_30 at hM
  refine lv_aload_n hx hb dX3_closure_0 rfl (lv_at hl 0 rfl) ?_
  refine lv_iload_n hx hb dX3_closure_1 rfl (lv_at hl 1 rfl) ?_
  obtain ⟨hg_1, hM⟩ := gd_some hM
  refine mi_ald S hG 30 30 rfl ec_30 (Nat.lt_of_lt_of_le (Nat.le_of_ble_eq_true rfl) hn) dX3_closure_2 hg_1 (by decide) ?_
  refine gi_nm (fun x_2 ex_2 => ?_)
  replace hM := nx_at hM ex_2
  clear ex_2
  refine lv_istore_n (lv' := [(2, .int (iI x_2)), (0, .ref (b + 30)), (1, .int (iI a2))]) hx hb dX3_closure_3 rfl hl (by decide) rfl (fun ls hl => ?_)
  refine lv_iconst (v := iI 0) hx hb dX3_closure_4 (by decide) ?_
  refine lv_istore_n (lv' := [(3, .int (iI 0)), (2, .int (iI x_2)), (0, .ref (b + 30)), (1, .int (iI a2))]) hx hb dX3_closure_5 rfl hl (by decide) rfl (fun ls hl => ?_)
  obtain ⟨y_5, hc_6, hM⟩ := bd1_some hM
  have hK_7 : ∀ (H : Heap) (locs : List Loc) (ls : Array Slot), gW D cy b n s H locs (enc b cy X S0) → lv_has ls 5 [(2, .int (iI y_5))] → W p l e (gRm 0 0 0) s m args below meth c H locs 0 0 (gQI D cy b s args below 0 0 (fun r u => r = iI o1 ∧ u = (n, enc b cy X S0))) (F0 m 50 ls []) := by
    intro H locs ls hG hl
    refine lv_iload_n hx hb dX3_closure_50 rfl (lv_at hl 0 rfl) ?_
    cases hM
    exact g_iret S hr hlk hG hsz dX3_closure_51 ⟨Nat.le_of_ble_eq_true rfl, Nat.le_of_ble_eq_true rfl⟩ ⟨rfl, rfl⟩
  have loop_8 : ∀ (f : Nat) (v_3 : Int) (v_4 : Int) (H : Heap) (locs : List Loc) (ls : Array Slot), mX3_closure_30_6 S0 f v_3 v_4 = some y_5 → gW D cy b n s H locs (enc b cy X S0) → lv_has ls 5 [(3, .int (iI v_3)), (2, .int (iI v_4)), (0, .ref (b + 30))] → W p l e (gRm 0 0 0) s m args below meth c H locs 0 0 (gQI D cy b s args below 0 0 (fun r u => r = iI o1 ∧ u = (n, enc b cy X S0))) (F0 m 6 ls []) := by
    clear hM
    intro f
    induction f with
    | zero => intro v_3 v_4 H locs ls hM; rw [mX3_closure_30_6] at hM; cases hM
    | succ f_10 ih_9 =>
      intro v_3 v_4 H locs ls hM hG hl
      rw [mX3_closure_30_6] at hM
      refine lv_iload_n hx hb dX3_closure_6 rfl (lv_at hl 0 rfl) ?_
      refine lv_bipush (v := iI 6) hx hb dX3_closure_7 (by decide) ?_
      obtain ⟨hg_11, hM⟩ := gd_some hM
      refine gi_icmp_ge (tgt := 50) hx hb dX3_closure_9 (by decide) hg_11 (by decide) (fun c_12 => ?_) (fun c_12 => ?_)
      · replace hM := ifp hM c_12
        cases hM
        exact hK_7 H locs ls hG (lv_sub hl [1] rfl)
      · replace hM := ifn hM c_12
        refine lv_iconst (v := iI 0) hx hb dX3_closure_12 (by decide) ?_
        refine lv_istore (lv' := [(4, .int (iI 0)), (3, .int (iI v_3)), (2, .int (iI v_4)), (0, .ref (b + 30))]) hx hb dX3_closure_13 hl (by decide) rfl (fun ls hl => ?_)
        obtain ⟨y_15, hc_16, hM⟩ := bd1_some hM
        have hK_17 : ∀ (H : Heap) (locs : List Loc) (ls : Array Slot), gW D cy b n s H locs (enc b cy X S0) → lv_has ls 5 [(3, .int (iI v_3)), (0, .ref (b + 30)), (2, .int (iI y_15))] → W p l e (gRm 0 0 0) s m args below meth c H locs 0 0 (gQI D cy b s args below 0 0 (fun r u => r = iI o1 ∧ u = (n, enc b cy X S0))) (F0 m 44 ls []) := by
          intro H locs ls hG hl
          refine lv_iinc (v := iI (v_3 + 1)) (lv' := [(3, .int (iI (v_3 + 1))), (0, .ref (b + 30)), (2, .int (iI y_15))]) hx hb dX3_closure_44 hl (k := 0) rfl ((iI_add v_3 (1)).trans (congrArg iI (by omega))) (by decide) rfl (fun ls hl => ?_)
          refine lv_goto (tgt := 6) hx hb dX3_closure_47 (by decide) ?_
          exact ih_9 (v_3 + 1) y_15 H locs ls hM hG (lv_sub hl [0, 2, 1] rfl)
        have loop_18 : ∀ (f : Nat) (v_13 : Int) (v_14 : Int) (H : Heap) (locs : List Loc) (ls : Array Slot), mX3_closure_30_15 S0 v_3 f v_13 v_14 = some y_15 → gW D cy b n s H locs (enc b cy X S0) → lv_has ls 5 [(4, .int (iI v_13)), (3, .int (iI v_3)), (2, .int (iI v_14)), (0, .ref (b + 30))] → W p l e (gRm 0 0 0) s m args below meth c H locs 0 0 (gQI D cy b s args below 0 0 (fun r u => r = iI o1 ∧ u = (n, enc b cy X S0))) (F0 m 15 ls []) := by
          clear hM
          intro f
          induction f with
          | zero => intro v_13 v_14 H locs ls hM; rw [mX3_closure_30_15] at hM; cases hM
          | succ f_20 ih_19 =>
            intro v_13 v_14 H locs ls hM hG hl
            rw [mX3_closure_30_15] at hM
            refine lv_iload hx hb dX3_closure_15 (lv_at hl 0 rfl) ?_
            refine lv_bipush (v := iI 6) hx hb dX3_closure_17 (by decide) ?_
            obtain ⟨hg_21, hM⟩ := gd_some hM
            refine gi_icmp_ge (tgt := 44) hx hb dX3_closure_19 (by decide) hg_21 (by decide) (fun c_22 => ?_) (fun c_22 => ?_)
            · replace hM := ifp hM c_22
              cases hM
              exact hK_17 H locs ls hG (lv_sub hl [1, 3, 2] rfl)
            · replace hM := ifn hM c_22
              refine lv_iload_n hx hb dX3_closure_22 rfl (lv_at hl 2 rfl) ?_
              refine lv_iload hx hb dX3_closure_23 (lv_at hl 0 rfl) ?_
              refine gi_shr hx hb dX3_closure_25 ?_
              refine lv_iconst (v := iI 1) hx hb dX3_closure_26 (by decide) ?_
              refine gi_and hx hb dX3_closure_27 ?_
              obtain ⟨hg_23, hM⟩ := gd_some hM
              refine gi_if_eq (tgt := 38) hx hb dX3_closure_28 (by decide) hg_23 (fun c_24 => ?_) (fun c_24 => ?_)
              · replace hM := ifp hM c_24
                refine lv_iinc (v := iI (v_13 + 1)) (lv' := [(4, .int (iI (v_13 + 1))), (3, .int (iI v_3)), (2, .int (iI v_14)), (0, .ref (b + 30))]) hx hb dX3_closure_38 hl (k := 0) rfl ((iI_add v_13 (1)).trans (congrArg iI (by omega))) (by decide) rfl (fun ls hl => ?_)
                refine lv_goto (tgt := 15) hx hb dX3_closure_41 (by decide) ?_
                exact ih_19 (v_13 + 1) v_14 H locs ls hM hG (lv_sub hl [0, 1, 2, 3] rfl)
              · replace hM := ifn hM c_24
                refine lv_iload_n hx hb dX3_closure_31 rfl (lv_at hl 2 rfl) ?_
                refine lv_aload_n hx hb dX3_closure_32 rfl (lv_at hl 3 rfl) ?_
                refine lv_iload hx hb dX3_closure_33 (lv_at hl 0 rfl) ?_
                obtain ⟨hg_25, hM⟩ := gd_some hM
                refine mi_ald S hG 30 30 rfl ec_30 (Nat.lt_of_lt_of_le (Nat.le_of_ble_eq_true rfl) hn) dX3_closure_35 hg_25 (by decide) ?_
                refine gi_or hx hb dX3_closure_36 ?_
                refine gi_nm (fun x_26 ex_26 => ?_)
                replace hM := nx_at hM ex_26
                clear ex_26
                refine lv_istore_n (lv' := [(2, .int (iI x_26)), (4, .int (iI v_13)), (3, .int (iI v_3)), (0, .ref (b + 30))]) hx hb dX3_closure_37 rfl hl (by decide) rfl (fun ls hl => ?_)
                refine lv_iinc (v := iI (v_13 + 1)) (lv' := [(4, .int (iI (v_13 + 1))), (2, .int (iI x_26)), (3, .int (iI v_3)), (0, .ref (b + 30))]) hx hb dX3_closure_38 hl (k := 1) rfl ((iI_add v_13 (1)).trans (congrArg iI (by omega))) (by decide) rfl (fun ls hl => ?_)
                refine lv_goto (tgt := 15) hx hb dX3_closure_41 (by decide) ?_
                exact ih_19 (v_13 + 1) x_26 H locs ls hM hG (lv_sub hl [0, 2, 1, 3] rfl)
        exact loop_18 FU 0 v_4 H locs ls hc_16 hG (lv_sub hl [0, 1, 2, 3] rfl)
  exact loop_8 FU 0 x_2 H locs ls hc_6 hG (lv_sub hl [0, 1, 2] rfl)
theorem wV_5_96 : gWV "GrownKinds$Reader" 96 yX3_holdsEmpty cX3_holdsEmpty 3 (some .boolean) := ⟨wm_940, wm_941, wm_942, wm_180, wm_943, by decide +kernel, by decide +kernel⟩
def mX3_holdsEmpty_26_2 (S0 : St) (a1 : Int) : Nat → Int → Option (Int)
  | 0, _ => none
  | f + 1, v_1 => gd ((inI v_1) ∧ (inI (S0 13 3))) <| if (S0 13 3) ≤ v_1 then (some (1)) else (gd (0 ≤ v_1 ∧ v_1 < 24) <| gd ((inI (S0 18 v_1)) ∧ (inI a1)) <| if (S0 18 v_1) = a1 then (bd1 (mX3_isEmpty_26 S0 (S0 16 v_1)) fun r_15 => gd (inI r_15) <| if r_15 = 0 then (mX3_holdsEmpty_26_2 S0 a1 f (v_1 + 1)) else (some (0))) else (mX3_holdsEmpty_26_2 S0 a1 f (v_1 + 1)))
def mX3_holdsEmpty_26 (S0 : St) (a1 : Int) : Option (Int) := bd1 (mX3_holdsEmpty_26_2 S0 a1 FU 0) fun t_2 => if t_2 = 0 then (some (1)) else (some (0))
set_option maxHeartbeats 4000000 in
set_option maxRecDepth 100000 in
theorem vX3_holdsEmpty_26 (l : Launch) {D : va_G} {cy : Nat → ClassId} {b n : Nat} (hn : 102 ≤ n) {X : Nat → va_E} {S0 : St} (a1 : Int) {o1 : Int} (hM : mX3_holdsEmpty_26 S0 a1 = some o1) : gI l yX3_holdsEmpty cX3_holdsEmpty 3 (some .boolean) 1 0 0 D cy b n (enc b cy X S0) [.ref (b + 26), .int (iI a1)] (fun r u => r = iI o1 ∧ u = (n, enc b cy X S0)) := by
  refine gI_of (by decide) (Nat.le_of_ble_eq_true rfl) ?_
  intro p e s m args below meth c S hr hlk hin hsz ls hl hG
  have hx := S.1
  have hb := S.2.1
  have hl : lv_has ls 3 [(0, .ref (b + 26)), (1, .int (iI a1))] := hl
  replace hG : gW D cy b n s s.heap [] (enc b cy X S0) := hG
  obtain ⟨H, eH⟩ : ∃ H, H = s.heap := ⟨_, rfl⟩
  obtain ⟨locs, elocs⟩ : ∃ locs : List Loc, locs = [] := ⟨_, rfl⟩
  rw [← eH, ← elocs] at hG
  rw [← eH, ← elocs]
  clear eH elocs
  unfold mX3_holdsEmpty_26 at hM
  refine lv_iconst (v := iI 0) hx hb dX3_holdsEmpty_0 (by decide) ?_
  refine lv_istore_n (lv' := [(2, .int (iI 0)), (0, .ref (b + 26)), (1, .int (iI a1))]) hx hb dX3_holdsEmpty_1 rfl hl (by decide) rfl (fun ls hl => ?_)
  obtain ⟨t_2, hc_3, hM⟩ := bd1_some hM
  have hK_4 : ∀ (H : Heap) (locs : List Loc) (ls : Array Slot), t_2 = 0 → gW D cy b n s H locs (enc b cy X S0) → lv_has ls 3 [] → W p l e (gRm 1 0 0) s m args below meth c H locs 0 0 (gQI D cy b s args below 0 0 (fun r u => r = iI o1 ∧ u = (n, enc b cy X S0))) (F0 m 42 ls []) := by
    intro H locs ls ht hG hl
    subst ht
    replace hM := ifp hM rfl
    refine lv_iconst (v := iI 1) hx hb dX3_holdsEmpty_42 (by decide) ?_
    cases hM
    exact g_zret S hr hlk hG hsz dX3_holdsEmpty_43 ⟨Nat.le_of_ble_eq_true rfl, Nat.le_of_ble_eq_true rfl⟩ (nar_z (by decide)) ⟨rfl, rfl⟩
  have hK_5 : ∀ (H : Heap) (locs : List Loc) (ls : Array Slot), t_2 = 1 → gW D cy b n s H locs (enc b cy X S0) → lv_has ls 3 [] → W p l e (gRm 1 0 0) s m args below meth c H locs 0 0 (gQI D cy b s args below 0 0 (fun r u => r = iI o1 ∧ u = (n, enc b cy X S0))) (F0 m 50 ls []) := by
    intro H locs ls ht hG hl
    subst ht
    replace hM := ifn hM (by decide)
    refine lv_iconst (v := iI 0) hx hb dX3_holdsEmpty_50 (by decide) ?_
    cases hM
    exact g_zret S hr hlk hG hsz dX3_holdsEmpty_51 ⟨Nat.le_of_ble_eq_true rfl, Nat.le_of_ble_eq_true rfl⟩ (nar_z (by decide)) ⟨rfl, rfl⟩
  have loop_6 : ∀ (f : Nat) (v_1 : Int) (H : Heap) (locs : List Loc) (ls : Array Slot), mX3_holdsEmpty_26_2 S0 a1 f v_1 = some t_2 → gW D cy b n s H locs (enc b cy X S0) → lv_has ls 3 [(2, .int (iI v_1)), (0, .ref (b + 26)), (1, .int (iI a1))] → W p l e (gRm 1 0 0) s m args below meth c H locs 0 0 (gQI D cy b s args below 0 0 (fun r u => r = iI o1 ∧ u = (n, enc b cy X S0))) (F0 m 2 ls []) := by
    clear hM
    intro f
    induction f with
    | zero => intro v_1 H locs ls hM; rw [mX3_holdsEmpty_26_2] at hM; cases hM
    | succ f_8 ih_7 =>
      intro v_1 H locs ls hM hG hl
      rw [mX3_holdsEmpty_26_2] at hM
      refine lv_iload_n hx hb dX3_holdsEmpty_2 rfl (lv_at hl 0 rfl) ?_
      refine lv_aload_n hx hb dX3_holdsEmpty_3 rfl (lv_at hl 1 rfl) ?_
      refine m_get S hG 26 26 0 rfl ec_26 cpX3 wm_319 dX3_holdsEmpty_4 rfl (Nat.lt_of_lt_of_le (Nat.le_of_ble_eq_true rfl) hn) (by decide) ?_
      refine m_get S hG 13 13 3 rfl ec_13 cpX2 wm_227 dX3_holdsEmpty_7 rfl (Nat.lt_of_lt_of_le (Nat.le_of_ble_eq_true rfl) hn) (by decide) ?_
      obtain ⟨hg_9, hM⟩ := gd_some hM
      refine gi_icmp_ge (tgt := 50) hx hb dX3_holdsEmpty_10 (by decide) hg_9.1 hg_9.2 (fun c_10 => ?_) (fun c_10 => ?_)
      · replace hM := ifp hM c_10
        cases hM
        exact hK_5 H locs ls rfl hG (lv_sub hl [] rfl)
      · replace hM := ifn hM c_10
        refine lv_aload_n hx hb dX3_holdsEmpty_13 rfl (lv_at hl 1 rfl) ?_
        refine m_get S hG 26 26 0 rfl ec_26 cpX3 wm_319 dX3_holdsEmpty_14 rfl (Nat.lt_of_lt_of_le (Nat.le_of_ble_eq_true rfl) hn) (by decide) ?_
        refine m_get S hG 13 13 9 rfl ec_13 cpX2 wm_261 dX3_holdsEmpty_17 rfl (Nat.lt_of_lt_of_le (Nat.le_of_ble_eq_true rfl) hn) (by decide) ?_
        refine lv_iload_n hx hb dX3_holdsEmpty_20 rfl (lv_at hl 0 rfl) ?_
        obtain ⟨hg_11, hM⟩ := gd_some hM
        refine mi_ald S hG 18 18 rfl ec_18 (Nat.lt_of_lt_of_le (Nat.le_of_ble_eq_true rfl) hn) dX3_holdsEmpty_21 hg_11 (by decide) ?_
        refine lv_iload_n hx hb dX3_holdsEmpty_22 rfl (lv_at hl 2 rfl) ?_
        obtain ⟨hg_12, hM⟩ := gd_some hM
        refine gi_icmp_ne (tgt := 44) hx hb dX3_holdsEmpty_23 (by decide) hg_12.1 hg_12.2 (fun c_13 => ?_) (fun c_13 => ?_)
        · replace hM := ifn hM c_13
          refine lv_iinc (v := iI (v_1 + 1)) (lv' := [(2, .int (iI (v_1 + 1))), (0, .ref (b + 26)), (1, .int (iI a1))]) hx hb dX3_holdsEmpty_44 hl (k := 0) rfl ((iI_add v_1 (1)).trans (congrArg iI (by omega))) (by decide) rfl (fun ls hl => ?_)
          refine lv_goto (tgt := 2) hx hb dX3_holdsEmpty_47 (by decide) ?_
          exact ih_7 (v_1 + 1) H locs ls hM hG (lv_sub hl [0, 1, 2] rfl)
        · replace hM := ifp hM c_13
          refine lv_aload_n hx hb dX3_holdsEmpty_26 rfl (lv_at hl 1 rfl) ?_
          refine lv_aload_n hx hb dX3_holdsEmpty_27 rfl (lv_at hl 1 rfl) ?_
          refine m_get S hG 26 26 0 rfl ec_26 cpX3 wm_319 dX3_holdsEmpty_28 rfl (Nat.lt_of_lt_of_le (Nat.le_of_ble_eq_true rfl) hn) (by decide) ?_
          refine m_get S hG 13 13 7 rfl ec_13 cpX2 wm_249 dX3_holdsEmpty_31 rfl (Nat.lt_of_lt_of_le (Nat.le_of_ble_eq_true rfl) hn) (by decide) ?_
          refine lv_iload_n hx hb dX3_holdsEmpty_34 rfl (lv_at hl 0 rfl) ?_
          refine mi_ald S hG 16 16 rfl ec_16 (Nat.lt_of_lt_of_le (Nat.le_of_ble_eq_true rfl) hn) dX3_holdsEmpty_35 hg_11 (by decide) ?_
          obtain ⟨r_15, hc_14, hM⟩ := bd1_some hM
          refine g_vi (As := [.int (iI (S0 16 v_1))]) (rest := []) S hG hsz (vX3_isEmpty_26 l hn (S0 16 v_1) hc_14) wV_3_80 (ec_26 _) cpX3 (Nat.lt_of_lt_of_le (Nat.le_of_ble_eq_true rfl) hn) dX3_holdsEmpty_36 rfl hl.1 (ar := 1) (by decide +kernel) rfl ⟨Nat.le_of_ble_eq_true rfl, Nat.le_of_ble_eq_true rfl, Nat.le_of_ble_eq_true rfl, Nat.le_of_ble_eq_true rfl⟩ (Nat.le_of_ble_eq_true rfl) (fun rv uu H locs hp hG => ?_)
          obtain ⟨rfl, rfl⟩ := hp
          replace hG : gW D cy b n s H locs (enc b cy X S0) := hG
          obtain ⟨hg_16, hM⟩ := gd_some hM
          refine gi_if_eq (tgt := 44) hx hb dX3_holdsEmpty_39 (by decide) hg_16 (fun c_17 => ?_) (fun c_17 => ?_)
          · replace hM := ifp hM c_17
            refine lv_iinc (v := iI (v_1 + 1)) (lv' := [(2, .int (iI (v_1 + 1))), (0, .ref (b + 26)), (1, .int (iI a1))]) hx hb dX3_holdsEmpty_44 hl (k := 0) rfl ((iI_add v_1 (1)).trans (congrArg iI (by omega))) (by decide) rfl (fun ls hl => ?_)
            refine lv_goto (tgt := 2) hx hb dX3_holdsEmpty_47 (by decide) ?_
            exact ih_7 (v_1 + 1) H locs ls hM hG (lv_sub hl [0, 1, 2] rfl)
          · replace hM := ifn hM c_17
            cases hM
            exact hK_4 H locs ls rfl hG (lv_sub hl [] rfl)
  exact loop_6 FU 0 H locs ls hc_3 hG (lv_sub hl [0, 1, 2] rfl)
def mX5_refuseMeaningless_2  : Nat → Int → St → Option (St)
  | 0, _, _ => none
  | f + 1, v_1, S_2 => gd ((inI v_1) ∧ (inI (S_2 13 1))) <| if (S_2 13 1) ≤ v_1 then (some (S_2)) else (gd (inI (S_2 12 1)) <| if (S_2 12 1) = 0 then (bd1 (mX3_closure_30 S_2 v_1) fun r_14 => gd (inI (an (shr r_14 v_1) 1)) <| if (an (shr r_14 v_1) 1) = 0 then (bd1 (mX3_holdsEmpty_26 S_2 v_1) fun r_20 => gd (inI r_20) <| if r_20 = 0 then (mX5_refuseMeaningless_2 f (v_1 + 1) S_2) else (nx (up S_2 12 1 4) fun S_23 => nx (up S_23 12 2 v_1) fun S_24 => mX5_refuseMeaningless_2 f (v_1 + 1) S_24)) else (nx (up S_2 12 1 4) fun S_17 => nx (up S_17 12 2 v_1) fun S_18 => mX5_refuseMeaningless_2 f (v_1 + 1) S_18)) else (some (S_2)))
def mX5_refuseMeaningless (S0 : St)  : Option (St) := bd1 (mX5_refuseMeaningless_2 FU 0 S0) fun S_3 => some (S_3)
set_option maxHeartbeats 4000000 in
set_option maxRecDepth 100000 in
theorem vX5_refuseMeaningless (l : Launch) {D : va_G} {cy : Nat → ClassId} {b n : Nat} (hn : 102 ≤ n) {X : Nat → va_E} {S0 : St}  {o1 : St} (hM : mX5_refuseMeaningless S0  = some o1) : gV l yX5_refuseMeaningless cX5_refuseMeaningless 2 2 0 0 D cy b n (enc b cy X S0) [.ref (b + 12)] (fun u => u = (n, enc b cy X o1)) := by
  refine gV_of (by decide) (Nat.le_of_ble_eq_true rfl) ?_
  intro p e s m args below meth c S hr hlk hin hsz ls hl hG
  have hx := S.1
  have hb := S.2.1
  have hl : lv_has ls 2 [(0, .ref (b + 12))] := hl
  replace hG : gW D cy b n s s.heap [] (enc b cy X S0) := hG
  obtain ⟨H, eH⟩ : ∃ H, H = s.heap := ⟨_, rfl⟩
  obtain ⟨locs, elocs⟩ : ∃ locs : List Loc, locs = [] := ⟨_, rfl⟩
  rw [← eH, ← elocs] at hG
  rw [← eH, ← elocs]
  clear eH elocs
  unfold mX5_refuseMeaningless at hM
  refine lv_iconst (v := iI 0) hx hb dX5_refuseMeaningless_0 (by decide) ?_
  refine lv_istore_n (lv' := [(1, .int (iI 0)), (0, .ref (b + 12))]) hx hb dX5_refuseMeaningless_1 rfl hl (by decide) rfl (fun ls hl => ?_)
  obtain ⟨S_3, hc_4, hM⟩ := bd1_some hM
  have hK_5 : ∀ (H : Heap) (locs : List Loc) (ls : Array Slot), gW D cy b n s H locs (enc b cy X S_3) → lv_has ls 2 [] → W p l e (gRm 2 0 0) s m args below meth c H locs 0 0 (gQV D cy b s args below 0 0 (fun u => u = (n, enc b cy X o1))) (F0 m 65 ls []) := by
    intro H locs ls hG hl
    cases hM
    exact g_vret S hr hlk hG hsz dX5_refuseMeaningless_65 ⟨Nat.le_of_ble_eq_true rfl, Nat.le_of_ble_eq_true rfl⟩ rfl
  have loop_6 : ∀ (f : Nat) (v_1 : Int) (S_2 : St) (H : Heap) (locs : List Loc) (ls : Array Slot), mX5_refuseMeaningless_2 f v_1 S_2 = some S_3 → gW D cy b n s H locs (enc b cy X S_2) → lv_has ls 2 [(1, .int (iI v_1)), (0, .ref (b + 12))] → W p l e (gRm 2 0 0) s m args below meth c H locs 0 0 (gQV D cy b s args below 0 0 (fun u => u = (n, enc b cy X o1))) (F0 m 2 ls []) := by
    clear hM
    intro f
    induction f with
    | zero => intro v_1 S_2 H locs ls hM; rw [mX5_refuseMeaningless_2] at hM; cases hM
    | succ f_8 ih_7 =>
      intro v_1 S_2 H locs ls hM hG hl
      rw [mX5_refuseMeaningless_2] at hM
      refine lv_iload_n hx hb dX5_refuseMeaningless_2 rfl (lv_at hl 0 rfl) ?_
      refine lv_aload_n hx hb dX5_refuseMeaningless_3 rfl (lv_at hl 1 rfl) ?_
      refine m_get S hG 12 12 0 rfl ec_12 cpX5 wm_352 dX5_refuseMeaningless_4 rfl (Nat.lt_of_lt_of_le (Nat.le_of_ble_eq_true rfl) hn) (by decide) ?_
      refine m_get S hG 13 13 1 rfl ec_13 cpX2 wm_220 dX5_refuseMeaningless_7 rfl (Nat.lt_of_lt_of_le (Nat.le_of_ble_eq_true rfl) hn) (by decide) ?_
      obtain ⟨hg_9, hM⟩ := gd_some hM
      refine gi_icmp_ge (tgt := 65) hx hb dX5_refuseMeaningless_10 (by decide) hg_9.1 hg_9.2 (fun c_10 => ?_) (fun c_10 => ?_)
      · replace hM := ifp hM c_10
        cases hM
        exact hK_5 H locs ls hG (lv_sub hl [] rfl)
      · replace hM := ifn hM c_10
        refine lv_aload_n hx hb dX5_refuseMeaningless_13 rfl (lv_at hl 1 rfl) ?_
        refine m_get S hG 12 12 1 rfl ec_12 cpX5 wm_354 dX5_refuseMeaningless_14 rfl (Nat.lt_of_lt_of_le (Nat.le_of_ble_eq_true rfl) hn) (by decide) ?_
        obtain ⟨hg_11, hM⟩ := gd_some hM
        refine gi_if_ne (tgt := 65) hx hb dX5_refuseMeaningless_17 (by decide) hg_11 (fun c_12 => ?_) (fun c_12 => ?_)
        · replace hM := ifn hM c_12
          cases hM
          exact hK_5 H locs ls hG (lv_sub hl [] rfl)
        · replace hM := ifp hM c_12
          refine lv_aload_n hx hb dX5_refuseMeaningless_20 rfl (lv_at hl 1 rfl) ?_
          refine m_get S hG 12 12 3 rfl ec_12 cpX5 wm_358 dX5_refuseMeaningless_21 rfl (Nat.lt_of_lt_of_le (Nat.le_of_ble_eq_true rfl) hn) (by decide) ?_
          refine m_get S hG 26 26 6 rfl ec_26 cpX3 wm_327 dX5_refuseMeaningless_24 rfl (Nat.lt_of_lt_of_le (Nat.le_of_ble_eq_true rfl) hn) (by decide) ?_
          refine lv_iload_n hx hb dX5_refuseMeaningless_27 rfl (lv_at hl 0 rfl) ?_
          obtain ⟨r_14, hc_13, hM⟩ := bd1_some hM
          refine g_si (As := [.ref (b + 30), .int (iI v_1)]) (rest := []) S hG hsz (vX3_closure_30 l hn v_1 hc_13) wS_5_92 dX5_refuseMeaningless_28 rfl hl.1 (ar := 2) (by decide +kernel) rfl ⟨Nat.le_of_ble_eq_true rfl, Nat.le_of_ble_eq_true rfl, Nat.le_of_ble_eq_true rfl, Nat.le_of_ble_eq_true rfl⟩ (Nat.le_of_ble_eq_true rfl) (fun rv uu H locs hp hG => ?_)
          obtain ⟨rfl, rfl⟩ := hp
          replace hG : gW D cy b n s H locs (enc b cy X S_2) := hG
          refine lv_iload_n hx hb dX5_refuseMeaningless_31 rfl (lv_at hl 0 rfl) ?_
          refine gi_shr hx hb dX5_refuseMeaningless_32 ?_
          refine lv_iconst (v := iI 1) hx hb dX5_refuseMeaningless_33 (by decide) ?_
          refine gi_and hx hb dX5_refuseMeaningless_34 ?_
          obtain ⟨hg_15, hM⟩ := gd_some hM
          refine gi_if_ne (tgt := 49) hx hb dX5_refuseMeaningless_35 (by decide) hg_15 (fun c_16 => ?_) (fun c_16 => ?_)
          · replace hM := ifn hM c_16
            refine lv_aload_n hx hb dX5_refuseMeaningless_49 rfl (lv_at hl 1 rfl) ?_
            refine lv_iconst (v := iI 4) hx hb dX5_refuseMeaningless_50 (by decide) ?_
            refine m_put S hG 12 12 1 rfl 1 4 ec_12 cpX5 wm_354 dX5_refuseMeaningless_51 (pf_12_1) (Nat.lt_of_lt_of_le (Nat.le_of_ble_eq_true rfl) hn) (by decide) (Nat.le_of_ble_eq_true rfl) rfl rfl rfl (fun H locs S_17 eS_17 hG => ?_)
            replace hM := nx_at hM eS_17
            clear eS_17
            refine lv_aload_n hx hb dX5_refuseMeaningless_54 rfl (lv_at hl 1 rfl) ?_
            refine lv_iload_n hx hb dX5_refuseMeaningless_55 rfl (lv_at hl 0 rfl) ?_
            refine m_put S hG 12 12 2 rfl 2 v_1 ec_12 cpX5 wm_356 dX5_refuseMeaningless_56 (pf_12_2) (Nat.lt_of_lt_of_le (Nat.le_of_ble_eq_true rfl) hn) (by decide) (Nat.le_of_ble_eq_true rfl) rfl rfl rfl (fun H locs S_18 eS_18 hG => ?_)
            replace hM := nx_at hM eS_18
            clear eS_18
            refine lv_iinc (v := iI (v_1 + 1)) (lv' := [(1, .int (iI (v_1 + 1))), (0, .ref (b + 12))]) hx hb dX5_refuseMeaningless_59 hl (k := 0) rfl ((iI_add v_1 (1)).trans (congrArg iI (by omega))) (by decide) rfl (fun ls hl => ?_)
            refine lv_goto (tgt := 2) hx hb dX5_refuseMeaningless_62 (by decide) ?_
            exact ih_7 (v_1 + 1) S_18 H locs ls hM hG (lv_sub hl [0, 1] rfl)
          · replace hM := ifp hM c_16
            refine lv_aload_n hx hb dX5_refuseMeaningless_38 rfl (lv_at hl 1 rfl) ?_
            refine m_get S hG 12 12 3 rfl ec_12 cpX5 wm_358 dX5_refuseMeaningless_39 rfl (Nat.lt_of_lt_of_le (Nat.le_of_ble_eq_true rfl) hn) (by decide) ?_
            refine lv_iload_n hx hb dX5_refuseMeaningless_42 rfl (lv_at hl 0 rfl) ?_
            obtain ⟨r_20, hc_19, hM⟩ := bd1_some hM
            refine g_vi (As := [.int (iI v_1)]) (rest := []) S hG hsz (vX3_holdsEmpty_26 l hn v_1 hc_19) wV_5_96 (ec_26 _) cpX3 (Nat.lt_of_lt_of_le (Nat.le_of_ble_eq_true rfl) hn) dX5_refuseMeaningless_43 rfl hl.1 (ar := 1) (by decide +kernel) rfl ⟨Nat.le_of_ble_eq_true rfl, Nat.le_of_ble_eq_true rfl, Nat.le_of_ble_eq_true rfl, Nat.le_of_ble_eq_true rfl⟩ (Nat.le_of_ble_eq_true rfl) (fun rv uu H locs hp hG => ?_)
            obtain ⟨rfl, rfl⟩ := hp
            replace hG : gW D cy b n s H locs (enc b cy X S_2) := hG
            obtain ⟨hg_21, hM⟩ := gd_some hM
            refine gi_if_eq (tgt := 59) hx hb dX5_refuseMeaningless_46 (by decide) hg_21 (fun c_22 => ?_) (fun c_22 => ?_)
            · replace hM := ifp hM c_22
              refine lv_iinc (v := iI (v_1 + 1)) (lv' := [(1, .int (iI (v_1 + 1))), (0, .ref (b + 12))]) hx hb dX5_refuseMeaningless_59 hl (k := 0) rfl ((iI_add v_1 (1)).trans (congrArg iI (by omega))) (by decide) rfl (fun ls hl => ?_)
              refine lv_goto (tgt := 2) hx hb dX5_refuseMeaningless_62 (by decide) ?_
              exact ih_7 (v_1 + 1) S_2 H locs ls hM hG (lv_sub hl [0, 1] rfl)
            · replace hM := ifn hM c_22
              refine lv_aload_n hx hb dX5_refuseMeaningless_49 rfl (lv_at hl 1 rfl) ?_
              refine lv_iconst (v := iI 4) hx hb dX5_refuseMeaningless_50 (by decide) ?_
              refine m_put S hG 12 12 1 rfl 1 4 ec_12 cpX5 wm_354 dX5_refuseMeaningless_51 (pf_12_1) (Nat.lt_of_lt_of_le (Nat.le_of_ble_eq_true rfl) hn) (by decide) (Nat.le_of_ble_eq_true rfl) rfl rfl rfl (fun H locs S_23 eS_23 hG => ?_)
              replace hM := nx_at hM eS_23
              clear eS_23
              refine lv_aload_n hx hb dX5_refuseMeaningless_54 rfl (lv_at hl 1 rfl) ?_
              refine lv_iload_n hx hb dX5_refuseMeaningless_55 rfl (lv_at hl 0 rfl) ?_
              refine m_put S hG 12 12 2 rfl 2 v_1 ec_12 cpX5 wm_356 dX5_refuseMeaningless_56 (pf_12_2) (Nat.lt_of_lt_of_le (Nat.le_of_ble_eq_true rfl) hn) (by decide) (Nat.le_of_ble_eq_true rfl) rfl rfl rfl (fun H locs S_24 eS_24 hG => ?_)
              replace hM := nx_at hM eS_24
              clear eS_24
              refine lv_iinc (v := iI (v_1 + 1)) (lv' := [(1, .int (iI (v_1 + 1))), (0, .ref (b + 12))]) hx hb dX5_refuseMeaningless_59 hl (k := 0) rfl ((iI_add v_1 (1)).trans (congrArg iI (by omega))) (by decide) rfl (fun ls hl => ?_)
              refine lv_goto (tgt := 2) hx hb dX5_refuseMeaningless_62 (by decide) ?_
              exact ih_7 (v_1 + 1) S_24 H locs ls hM hG (lv_sub hl [0, 1] rfl)
  exact loop_6 FU 0 S0 H locs ls hc_4 hG (lv_sub hl [0, 1] rfl)
theorem wV_5_80 : gWV "GrownKinds$Reader" 80 yX3_layOrder cX3_layOrder 6 none := ⟨wm_944, wm_945, wm_946, wm_180, wm_947, by decide +kernel, by decide +kernel⟩
theorem wV_3_106 : gWV "GrownKinds$Leaning" 106 yX3_isReady cX3_isReady 8 (some .boolean) := ⟨wm_948, wm_950, wm_26, wm_180, wm_951, by decide +kernel, by decide +kernel⟩
theorem wS_3_123 : gWS "GrownKinds$Leaning" 123 yX3_hasTail cX3_hasTail 3 (some .boolean) := ⟨wm_956, wm_957, wm_180, wm_958, by decide +kernel, by decide +kernel⟩
def mX3_hasTail (a1 : Int) (a2 : Int) : Option (Int) := gd (inL (lan (lshr a1 (6 + (2 * a2))) 1)) <| if (lan (lshr a1 (6 + (2 * a2))) 1) = 0 then (some (0)) else (some (1))
set_option maxHeartbeats 4000000 in
set_option maxRecDepth 100000 in
theorem vX3_hasTail (l : Launch) {D : va_G} {cy : Nat → ClassId} {b n : Nat} (hn : 102 ≤ n) {X : Nat → va_E} {S0 : St} (a1 : Int) (a2 : Int) {o1 : Int} (hM : mX3_hasTail a1 a2 = some o1) : gI l yX3_hasTail cX3_hasTail 3 (some .boolean) 0 0 0 D cy b n (enc b cy X S0) [.long (jJ a1), .int (iI a2)] (fun r u => r = iI o1 ∧ u = (n, enc b cy X S0)) := by
  refine gI_of (by decide) (Nat.le_of_ble_eq_true rfl) ?_
  intro p e s m args below meth c S hr hlk hin hsz ls hl hG
  have hx := S.1
  have hb := S.2.1
  have hl : lv_has ls 3 [(0, .long (jJ a1)), (2, .int (iI a2))] := hl
  replace hG : gW D cy b n s s.heap [] (enc b cy X S0) := hG
  obtain ⟨H, eH⟩ : ∃ H, H = s.heap := ⟨_, rfl⟩
  obtain ⟨locs, elocs⟩ : ∃ locs : List Loc, locs = [] := ⟨_, rfl⟩
  rw [← eH, ← elocs] at hG
  rw [← eH, ← elocs]
  clear eH elocs
  unfold mX3_hasTail at hM
  refine lv_lload_n hx hb dX3_hasTail_0 rfl (lv_at hl 0 rfl) ?_
  refine lv_bipush (v := iI 6) hx hb dX3_hasTail_1 (by decide) ?_
  refine lv_iconst (v := iI 2) hx hb dX3_hasTail_3 (by decide) ?_
  refine lv_iload_n hx hb dX3_hasTail_4 rfl (lv_at hl 1 rfl) ?_
  refine gi_mul hx hb dX3_hasTail_5 ?_
  refine gi_add hx hb dX3_hasTail_6 ?_
  refine gj_shr hx hb dX3_hasTail_7 ?_
  refine lv_lconst (v := jJ 1) hx hb dX3_hasTail_8 (by decide) ?_
  refine gj_and hx hb dX3_hasTail_9 ?_
  refine lv_lconst (v := jJ 0) hx hb dX3_hasTail_10 (by decide) ?_
  obtain ⟨hg_1, hM⟩ := gd_some hM
  refine gj_cmp_eq (tgt := 19) hx hb dX3_hasTail_11 dX3_hasTail_12 (by decide) hg_1 (by decide) (fun c_2 => ?_) (fun c_2 => ?_)
  · replace hM := ifp hM c_2
    refine lv_iconst (v := iI 0) hx hb dX3_hasTail_19 (by decide) ?_
    cases hM
    exact g_zret S hr hlk hG hsz dX3_hasTail_20 ⟨Nat.le_of_ble_eq_true rfl, Nat.le_of_ble_eq_true rfl⟩ (nar_z (by decide)) ⟨rfl, rfl⟩
  · replace hM := ifn hM c_2
    refine lv_iconst (v := iI 1) hx hb dX3_hasTail_15 (by decide) ?_
    refine lv_goto (tgt := 20) hx hb dX3_hasTail_16 (by decide) ?_
    cases hM
    exact g_zret S hr hlk hG hsz dX3_hasTail_20 ⟨Nat.le_of_ble_eq_true rfl, Nat.le_of_ble_eq_true rfl⟩ (nar_z (by decide)) ⟨rfl, rfl⟩
theorem wS_3_119 : gWS "GrownKinds$Leaning" 119 yX3_hasOwn cX3_hasOwn 3 (some .boolean) := ⟨wm_963, wm_964, wm_180, wm_965, by decide +kernel, by decide +kernel⟩
def mX3_hasOwn (a1 : Int) (a2 : Int) : Option (Int) := gd (inL (lan (lshr a1 ((6 + (2 * a2)) + 1)) 1)) <| if (lan (lshr a1 ((6 + (2 * a2)) + 1)) 1) = 0 then (some (0)) else (some (1))
set_option maxHeartbeats 4000000 in
set_option maxRecDepth 100000 in
theorem vX3_hasOwn (l : Launch) {D : va_G} {cy : Nat → ClassId} {b n : Nat} (hn : 102 ≤ n) {X : Nat → va_E} {S0 : St} (a1 : Int) (a2 : Int) {o1 : Int} (hM : mX3_hasOwn a1 a2 = some o1) : gI l yX3_hasOwn cX3_hasOwn 3 (some .boolean) 0 0 0 D cy b n (enc b cy X S0) [.long (jJ a1), .int (iI a2)] (fun r u => r = iI o1 ∧ u = (n, enc b cy X S0)) := by
  refine gI_of (by decide) (Nat.le_of_ble_eq_true rfl) ?_
  intro p e s m args below meth c S hr hlk hin hsz ls hl hG
  have hx := S.1
  have hb := S.2.1
  have hl : lv_has ls 3 [(0, .long (jJ a1)), (2, .int (iI a2))] := hl
  replace hG : gW D cy b n s s.heap [] (enc b cy X S0) := hG
  obtain ⟨H, eH⟩ : ∃ H, H = s.heap := ⟨_, rfl⟩
  obtain ⟨locs, elocs⟩ : ∃ locs : List Loc, locs = [] := ⟨_, rfl⟩
  rw [← eH, ← elocs] at hG
  rw [← eH, ← elocs]
  clear eH elocs
  unfold mX3_hasOwn at hM
  refine lv_lload_n hx hb dX3_hasOwn_0 rfl (lv_at hl 0 rfl) ?_
  refine lv_bipush (v := iI 6) hx hb dX3_hasOwn_1 (by decide) ?_
  refine lv_iconst (v := iI 2) hx hb dX3_hasOwn_3 (by decide) ?_
  refine lv_iload_n hx hb dX3_hasOwn_4 rfl (lv_at hl 1 rfl) ?_
  refine gi_mul hx hb dX3_hasOwn_5 ?_
  refine gi_add hx hb dX3_hasOwn_6 ?_
  refine lv_iconst (v := iI 1) hx hb dX3_hasOwn_7 (by decide) ?_
  refine gi_add hx hb dX3_hasOwn_8 ?_
  refine gj_shr hx hb dX3_hasOwn_9 ?_
  refine lv_lconst (v := jJ 1) hx hb dX3_hasOwn_10 (by decide) ?_
  refine gj_and hx hb dX3_hasOwn_11 ?_
  refine lv_lconst (v := jJ 0) hx hb dX3_hasOwn_12 (by decide) ?_
  obtain ⟨hg_1, hM⟩ := gd_some hM
  refine gj_cmp_eq (tgt := 21) hx hb dX3_hasOwn_13 dX3_hasOwn_14 (by decide) hg_1 (by decide) (fun c_2 => ?_) (fun c_2 => ?_)
  · replace hM := ifp hM c_2
    refine lv_iconst (v := iI 0) hx hb dX3_hasOwn_21 (by decide) ?_
    cases hM
    exact g_zret S hr hlk hG hsz dX3_hasOwn_22 ⟨Nat.le_of_ble_eq_true rfl, Nat.le_of_ble_eq_true rfl⟩ (nar_z (by decide)) ⟨rfl, rfl⟩
  · replace hM := ifn hM c_2
    refine lv_iconst (v := iI 1) hx hb dX3_hasOwn_17 (by decide) ?_
    refine lv_goto (tgt := 22) hx hb dX3_hasOwn_18 (by decide) ?_
    cases hM
    exact g_zret S hr hlk hG hsz dX3_hasOwn_22 ⟨Nat.le_of_ble_eq_true rfl, Nat.le_of_ble_eq_true rfl⟩ (nar_z (by decide)) ⟨rfl, rfl⟩
theorem wV_3_116 : gWV "GrownKinds$Leaning" 116 yX3_partReady cX3_partReady 6 (some .boolean) := ⟨wm_959, wm_961, wm_28, wm_180, wm_962, by decide +kernel, by decide +kernel⟩
theorem wV_3_113 : gWV "GrownKinds$Leaning" 113 yX3_termsLaid cX3_termsLaid 5 (some .boolean) := ⟨wm_952, wm_954, wm_27, wm_180, wm_955, by decide +kernel, by decide +kernel⟩
def mX3_termsLaid_26_3 (S0 : St) (a1 : Int) (a2 : Int) : Nat → Int → Option (Int)
  | 0, _ => none
  | f + 1, v_1 => gd (0 ≤ a1 ∧ a1 < 30) <| gd ((inI v_1) ∧ (inI (S0 19 a1))) <| if (S0 19 a1) ≤ v_1 then (some (1)) else (bd1 (mX2_start_13 S0 a1 v_1) fun r_13 => bd1 (mX3_hasTail a2 r_13) fun r_15 => gd (inI r_15) <| if r_15 = 0 then (some (0)) else (mX3_termsLaid_26_3 S0 a1 a2 f (v_1 + 1)))
def mX3_termsLaid_26 (S0 : St) (a1 : Int) (a2 : Int) : Option (Int) := bd1 (mX3_termsLaid_26_3 S0 a1 a2 FU 0) fun t_2 => if t_2 = 0 then (some (0)) else (some (1))
set_option maxHeartbeats 4000000 in
set_option maxRecDepth 100000 in
theorem vX3_termsLaid_26 (l : Launch) {D : va_G} {cy : Nat → ClassId} {b n : Nat} (hn : 102 ≤ n) {X : Nat → va_E} {S0 : St} (a1 : Int) (a2 : Int) {o1 : Int} (hM : mX3_termsLaid_26 S0 a1 a2 = some o1) : gI l yX3_termsLaid cX3_termsLaid 5 (some .boolean) 1 0 0 D cy b n (enc b cy X S0) [.ref (b + 26), .int (iI a1), .long (jJ a2)] (fun r u => r = iI o1 ∧ u = (n, enc b cy X S0)) := by
  refine gI_of (by decide) (Nat.le_of_ble_eq_true rfl) ?_
  intro p e s m args below meth c S hr hlk hin hsz ls hl hG
  have hx := S.1
  have hb := S.2.1
  have hl : lv_has ls 5 [(0, .ref (b + 26)), (1, .int (iI a1)), (2, .long (jJ a2))] := hl
  replace hG : gW D cy b n s s.heap [] (enc b cy X S0) := hG
  obtain ⟨H, eH⟩ : ∃ H, H = s.heap := ⟨_, rfl⟩
  obtain ⟨locs, elocs⟩ : ∃ locs : List Loc, locs = [] := ⟨_, rfl⟩
  rw [← eH, ← elocs] at hG
  rw [← eH, ← elocs]
  clear eH elocs
  unfold mX3_termsLaid_26 at hM
  refine lv_iconst (v := iI 0) hx hb dX3_termsLaid_0 (by decide) ?_
  refine lv_istore (lv' := [(4, .int (iI 0)), (0, .ref (b + 26)), (1, .int (iI a1)), (2, .long (jJ a2))]) hx hb dX3_termsLaid_1 hl (by decide) rfl (fun ls hl => ?_)
  obtain ⟨t_2, hc_3, hM⟩ := bd1_some hM
  have hK_4 : ∀ (H : Heap) (locs : List Loc) (ls : Array Slot), t_2 = 0 → gW D cy b n s H locs (enc b cy X S0) → lv_has ls 5 [] → W p l e (gRm 1 0 0) s m args below meth c H locs 0 0 (gQI D cy b s args below 0 0 (fun r u => r = iI o1 ∧ u = (n, enc b cy X S0))) (F0 m 34 ls []) := by
    intro H locs ls ht hG hl
    subst ht
    replace hM := ifp hM rfl
    refine lv_iconst (v := iI 0) hx hb dX3_termsLaid_34 (by decide) ?_
    cases hM
    exact g_zret S hr hlk hG hsz dX3_termsLaid_35 ⟨Nat.le_of_ble_eq_true rfl, Nat.le_of_ble_eq_true rfl⟩ (nar_z (by decide)) ⟨rfl, rfl⟩
  have hK_5 : ∀ (H : Heap) (locs : List Loc) (ls : Array Slot), t_2 = 1 → gW D cy b n s H locs (enc b cy X S0) → lv_has ls 5 [] → W p l e (gRm 1 0 0) s m args below meth c H locs 0 0 (gQI D cy b s args below 0 0 (fun r u => r = iI o1 ∧ u = (n, enc b cy X S0))) (F0 m 42 ls []) := by
    intro H locs ls ht hG hl
    subst ht
    replace hM := ifn hM (by decide)
    refine lv_iconst (v := iI 1) hx hb dX3_termsLaid_42 (by decide) ?_
    cases hM
    exact g_zret S hr hlk hG hsz dX3_termsLaid_43 ⟨Nat.le_of_ble_eq_true rfl, Nat.le_of_ble_eq_true rfl⟩ (nar_z (by decide)) ⟨rfl, rfl⟩
  have loop_6 : ∀ (f : Nat) (v_1 : Int) (H : Heap) (locs : List Loc) (ls : Array Slot), mX3_termsLaid_26_3 S0 a1 a2 f v_1 = some t_2 → gW D cy b n s H locs (enc b cy X S0) → lv_has ls 5 [(4, .int (iI v_1)), (0, .ref (b + 26)), (1, .int (iI a1)), (2, .long (jJ a2))] → W p l e (gRm 1 0 0) s m args below meth c H locs 0 0 (gQI D cy b s args below 0 0 (fun r u => r = iI o1 ∧ u = (n, enc b cy X S0))) (F0 m 3 ls []) := by
    clear hM
    intro f
    induction f with
    | zero => intro v_1 H locs ls hM; rw [mX3_termsLaid_26_3] at hM; cases hM
    | succ f_8 ih_7 =>
      intro v_1 H locs ls hM hG hl
      rw [mX3_termsLaid_26_3] at hM
      refine lv_iload hx hb dX3_termsLaid_3 (lv_at hl 0 rfl) ?_
      refine lv_aload_n hx hb dX3_termsLaid_5 rfl (lv_at hl 1 rfl) ?_
      refine m_get S hG 26 26 0 rfl ec_26 cpX3 wm_319 dX3_termsLaid_6 rfl (Nat.lt_of_lt_of_le (Nat.le_of_ble_eq_true rfl) hn) (by decide) ?_
      refine m_get S hG 13 13 10 rfl ec_13 cpX2 wm_264 dX3_termsLaid_9 rfl (Nat.lt_of_lt_of_le (Nat.le_of_ble_eq_true rfl) hn) (by decide) ?_
      refine lv_iload_n hx hb dX3_termsLaid_12 rfl (lv_at hl 2 rfl) ?_
      obtain ⟨hg_9, hM⟩ := gd_some hM
      refine mi_ald S hG 19 19 rfl ec_19 (Nat.lt_of_lt_of_le (Nat.le_of_ble_eq_true rfl) hn) dX3_termsLaid_13 hg_9 (by decide) ?_
      obtain ⟨hg_10, hM⟩ := gd_some hM
      refine gi_icmp_ge (tgt := 42) hx hb dX3_termsLaid_14 (by decide) hg_10.1 hg_10.2 (fun c_11 => ?_) (fun c_11 => ?_)
      · replace hM := ifp hM c_11
        cases hM
        exact hK_5 H locs ls rfl hG (lv_sub hl [] rfl)
      · replace hM := ifn hM c_11
        refine lv_lload_n hx hb dX3_termsLaid_17 rfl (lv_at hl 3 rfl) ?_
        refine lv_aload_n hx hb dX3_termsLaid_18 rfl (lv_at hl 1 rfl) ?_
        refine m_get S hG 26 26 0 rfl ec_26 cpX3 wm_319 dX3_termsLaid_19 rfl (Nat.lt_of_lt_of_le (Nat.le_of_ble_eq_true rfl) hn) (by decide) ?_
        refine lv_iload_n hx hb dX3_termsLaid_22 rfl (lv_at hl 2 rfl) ?_
        refine lv_iload hx hb dX3_termsLaid_23 (lv_at hl 0 rfl) ?_
        obtain ⟨r_13, hc_12, hM⟩ := bd1_some hM
        refine g_vi (As := [.int (iI a1), .int (iI v_1)]) (rest := [.long (jJ a2)]) S hG hsz (vX2_start_13 l hn a1 v_1 hc_12) wV_3_90 (ec_13 _) cpX2 (Nat.lt_of_lt_of_le (Nat.le_of_ble_eq_true rfl) hn) dX3_termsLaid_25 rfl hl.1 (ar := 2) (by decide +kernel) rfl ⟨Nat.le_of_ble_eq_true rfl, Nat.le_of_ble_eq_true rfl, Nat.le_of_ble_eq_true rfl, Nat.le_of_ble_eq_true rfl⟩ (Nat.le_of_ble_eq_true rfl) (fun rv uu H locs hp hG => ?_)
        obtain ⟨rfl, rfl⟩ := hp
        replace hG : gW D cy b n s H locs (enc b cy X S0) := hG
        obtain ⟨r_15, hc_14, hM⟩ := bd1_some hM
        refine g_si (As := [.long (jJ a2), .int (iI r_13)]) (rest := []) S hG hsz (vX3_hasTail l hn a2 r_13 hc_14) wS_3_123 dX3_termsLaid_28 rfl hl.1 (ar := 2) (by decide +kernel) rfl ⟨Nat.le_of_ble_eq_true rfl, Nat.le_of_ble_eq_true rfl, Nat.le_of_ble_eq_true rfl, Nat.le_of_ble_eq_true rfl⟩ (Nat.le_of_ble_eq_true rfl) (fun rv uu H locs hp hG => ?_)
        obtain ⟨rfl, rfl⟩ := hp
        replace hG : gW D cy b n s H locs (enc b cy X S0) := hG
        obtain ⟨hg_16, hM⟩ := gd_some hM
        refine gi_if_ne (tgt := 36) hx hb dX3_termsLaid_31 (by decide) hg_16 (fun c_17 => ?_) (fun c_17 => ?_)
        · replace hM := ifn hM c_17
          refine lv_iinc (v := iI (v_1 + 1)) (lv' := [(4, .int (iI (v_1 + 1))), (0, .ref (b + 26)), (1, .int (iI a1)), (2, .long (jJ a2))]) hx hb dX3_termsLaid_36 hl (k := 0) rfl ((iI_add v_1 (1)).trans (congrArg iI (by omega))) (by decide) rfl (fun ls hl => ?_)
          refine lv_goto (tgt := 3) hx hb dX3_termsLaid_39 (by decide) ?_
          exact ih_7 (v_1 + 1) H locs ls hM hG (lv_sub hl [0, 1, 2, 3] rfl)
        · replace hM := ifp hM c_17
          cases hM
          exact hK_4 H locs ls rfl hG (lv_sub hl [] rfl)
  exact loop_6 FU 0 H locs ls hc_3 hG (lv_sub hl [0, 1, 2, 3] rfl)
def mX3_partReady_26 (S0 : St) (a1 : Int) (a2 : Int) : Option (Int) := gd (0 ≤ a1 ∧ a1 < 24) <| nx (S0 14 a1) fun x_2 => gd (inI x_2) <| if x_2 = 2 then (gd (inL (lan (lshr a2 (S0 15 a1)) 1)) <| if (lan (lshr a2 (S0 15 a1)) 1) = 0 then (some (0)) else (some (1))) else (if x_2 = 7 then (bd1 (mX3_termsLaid_26 S0 (6 + a1) a2) fun r_16 => gd (r_16 = 0 ∨ r_16 = 1) <| some (r_16)) else (nx (S0 16 a1) fun x_6 => gd (inI x_6) <| if x_6 = (-1) then (some (1)) else (gd (inI (S0 15 a1)) <| if 1 < (S0 15 a1) then (some (1)) else (bd1 (mX3_hasOwn a2 x_6) fun r_12 => gd (inI r_12) <| if r_12 = 0 then (some (0)) else (some (1))))))
set_option maxHeartbeats 4000000 in
set_option maxRecDepth 100000 in
theorem vX3_partReady_26 (l : Launch) {D : va_G} {cy : Nat → ClassId} {b n : Nat} (hn : 102 ≤ n) {X : Nat → va_E} {S0 : St} (a1 : Int) (a2 : Int) {o1 : Int} (hM : mX3_partReady_26 S0 a1 a2 = some o1) : gI l yX3_partReady cX3_partReady 6 (some .boolean) 2 0 0 D cy b n (enc b cy X S0) [.ref (b + 26), .int (iI a1), .long (jJ a2)] (fun r u => r = iI o1 ∧ u = (n, enc b cy X S0)) := by
  refine gI_of (by decide) (Nat.le_of_ble_eq_true rfl) ?_
  intro p e s m args below meth c S hr hlk hin hsz ls hl hG
  have hx := S.1
  have hb := S.2.1
  have hl : lv_has ls 6 [(0, .ref (b + 26)), (1, .int (iI a1)), (2, .long (jJ a2))] := hl
  replace hG : gW D cy b n s s.heap [] (enc b cy X S0) := hG
  obtain ⟨H, eH⟩ : ∃ H, H = s.heap := ⟨_, rfl⟩
  obtain ⟨locs, elocs⟩ : ∃ locs : List Loc, locs = [] := ⟨_, rfl⟩
  rw [← eH, ← elocs] at hG
  rw [← eH, ← elocs]
  clear eH elocs
  unfold mX3_partReady_26 at hM
  refine lv_aload_n hx hb dX3_partReady_0 rfl (lv_at hl 0 rfl) ?_
  refine m_get S hG 26 26 0 rfl ec_26 cpX3 wm_319 dX3_partReady_1 rfl (Nat.lt_of_lt_of_le (Nat.le_of_ble_eq_true rfl) hn) (by decide) ?_
  refine m_get S hG 13 13 5 rfl ec_13 cpX2 wm_236 dX3_partReady_4 rfl (Nat.lt_of_lt_of_le (Nat.le_of_ble_eq_true rfl) hn) (by decide) ?_
  refine lv_iload_n hx hb dX3_partReady_7 rfl (lv_at hl 1 rfl) ?_
  obtain ⟨hg_1, hM⟩ := gd_some hM
  refine mi_ald S hG 14 14 rfl ec_14 (Nat.lt_of_lt_of_le (Nat.le_of_ble_eq_true rfl) hn) dX3_partReady_8 hg_1 (by decide) ?_
  refine gi_nm (fun x_2 ex_2 => ?_)
  replace hM := nx_at hM ex_2
  clear ex_2
  refine lv_istore (lv' := [(4, .int (iI x_2)), (0, .ref (b + 26)), (1, .int (iI a1)), (2, .long (jJ a2))]) hx hb dX3_partReady_9 hl (by decide) rfl (fun ls hl => ?_)
  refine lv_iload hx hb dX3_partReady_11 (lv_at hl 0 rfl) ?_
  refine lv_iconst (v := iI 2) hx hb dX3_partReady_13 (by decide) ?_
  obtain ⟨hg_3, hM⟩ := gd_some hM
  refine gi_icmp_ne (tgt := 41) hx hb dX3_partReady_14 (by decide) hg_3 (by decide) (fun c_4 => ?_) (fun c_4 => ?_)
  · replace hM := ifn hM c_4
    refine lv_iload hx hb dX3_partReady_41 (lv_at hl 0 rfl) ?_
    refine lv_bipush (v := iI 7) hx hb dX3_partReady_43 (by decide) ?_
    refine gi_icmp_ne (tgt := 58) hx hb dX3_partReady_45 (by decide) hg_3 (by decide) (fun c_5 => ?_) (fun c_5 => ?_)
    · replace hM := ifn hM c_5
      refine lv_aload_n hx hb dX3_partReady_58 rfl (lv_at hl 1 rfl) ?_
      refine m_get S hG 26 26 0 rfl ec_26 cpX3 wm_319 dX3_partReady_59 rfl (Nat.lt_of_lt_of_le (Nat.le_of_ble_eq_true rfl) hn) (by decide) ?_
      refine m_get S hG 13 13 7 rfl ec_13 cpX2 wm_249 dX3_partReady_62 rfl (Nat.lt_of_lt_of_le (Nat.le_of_ble_eq_true rfl) hn) (by decide) ?_
      refine lv_iload_n hx hb dX3_partReady_65 rfl (lv_at hl 2 rfl) ?_
      refine mi_ald S hG 16 16 rfl ec_16 (Nat.lt_of_lt_of_le (Nat.le_of_ble_eq_true rfl) hn) dX3_partReady_66 hg_1 (by decide) ?_
      refine gi_nm (fun x_6 ex_6 => ?_)
      replace hM := nx_at hM ex_6
      clear ex_6
      refine lv_istore (lv' := [(5, .int (iI x_6)), (4, .int (iI x_2)), (0, .ref (b + 26)), (1, .int (iI a1)), (2, .long (jJ a2))]) hx hb dX3_partReady_67 hl (by decide) rfl (fun ls hl => ?_)
      refine lv_iload hx hb dX3_partReady_69 (lv_at hl 0 rfl) ?_
      refine lv_iconst (v := iI (-1)) hx hb dX3_partReady_71 (by decide) ?_
      obtain ⟨hg_7, hM⟩ := gd_some hM
      refine gi_icmp_eq (tgt := 97) hx hb dX3_partReady_72 (by decide) hg_7 (by decide) (fun c_8 => ?_) (fun c_8 => ?_)
      · replace hM := ifp hM c_8
        refine lv_iconst (v := iI 1) hx hb dX3_partReady_97 (by decide) ?_
        refine lv_goto (tgt := 102) hx hb dX3_partReady_98 (by decide) ?_
        cases hM
        exact g_zret S hr hlk hG hsz dX3_partReady_102 ⟨Nat.le_of_ble_eq_true rfl, Nat.le_of_ble_eq_true rfl⟩ (nar_z (by decide)) ⟨rfl, rfl⟩
      · replace hM := ifn hM c_8
        refine lv_aload_n hx hb dX3_partReady_75 rfl (lv_at hl 2 rfl) ?_
        refine m_get S hG 26 26 0 rfl ec_26 cpX3 wm_319 dX3_partReady_76 rfl (Nat.lt_of_lt_of_le (Nat.le_of_ble_eq_true rfl) hn) (by decide) ?_
        refine m_get S hG 13 13 6 rfl ec_13 cpX2 wm_242 dX3_partReady_79 rfl (Nat.lt_of_lt_of_le (Nat.le_of_ble_eq_true rfl) hn) (by decide) ?_
        refine lv_iload_n hx hb dX3_partReady_82 rfl (lv_at hl 3 rfl) ?_
        refine mi_ald S hG 15 15 rfl ec_15 (Nat.lt_of_lt_of_le (Nat.le_of_ble_eq_true rfl) hn) dX3_partReady_83 hg_1 (by decide) ?_
        refine lv_iconst (v := iI 1) hx hb dX3_partReady_84 (by decide) ?_
        obtain ⟨hg_9, hM⟩ := gd_some hM
        refine gi_icmp_gt (tgt := 97) hx hb dX3_partReady_85 (by decide) hg_9 (by decide) (fun c_10 => ?_) (fun c_10 => ?_)
        · replace hM := ifp hM c_10
          refine lv_iconst (v := iI 1) hx hb dX3_partReady_97 (by decide) ?_
          refine lv_goto (tgt := 102) hx hb dX3_partReady_98 (by decide) ?_
          cases hM
          exact g_zret S hr hlk hG hsz dX3_partReady_102 ⟨Nat.le_of_ble_eq_true rfl, Nat.le_of_ble_eq_true rfl⟩ (nar_z (by decide)) ⟨rfl, rfl⟩
        · replace hM := ifn hM c_10
          refine lv_lload_n hx hb dX3_partReady_88 rfl (lv_at hl 4 rfl) ?_
          refine lv_iload hx hb dX3_partReady_89 (lv_at hl 0 rfl) ?_
          obtain ⟨r_12, hc_11, hM⟩ := bd1_some hM
          refine g_si (As := [.long (jJ a2), .int (iI x_6)]) (rest := []) S hG hsz (vX3_hasOwn l hn a2 x_6 hc_11) wS_3_119 dX3_partReady_91 rfl hl.1 (ar := 2) (by decide +kernel) rfl ⟨Nat.le_of_ble_eq_true rfl, Nat.le_of_ble_eq_true rfl, Nat.le_of_ble_eq_true rfl, Nat.le_of_ble_eq_true rfl⟩ (Nat.le_of_ble_eq_true rfl) (fun rv uu H locs hp hG => ?_)
          obtain ⟨rfl, rfl⟩ := hp
          replace hG : gW D cy b n s H locs (enc b cy X S0) := hG
          obtain ⟨hg_13, hM⟩ := gd_some hM
          refine gi_if_eq (tgt := 101) hx hb dX3_partReady_94 (by decide) hg_13 (fun c_14 => ?_) (fun c_14 => ?_)
          · replace hM := ifp hM c_14
            refine lv_iconst (v := iI 0) hx hb dX3_partReady_101 (by decide) ?_
            cases hM
            exact g_zret S hr hlk hG hsz dX3_partReady_102 ⟨Nat.le_of_ble_eq_true rfl, Nat.le_of_ble_eq_true rfl⟩ (nar_z (by decide)) ⟨rfl, rfl⟩
          · replace hM := ifn hM c_14
            refine lv_iconst (v := iI 1) hx hb dX3_partReady_97 (by decide) ?_
            refine lv_goto (tgt := 102) hx hb dX3_partReady_98 (by decide) ?_
            cases hM
            exact g_zret S hr hlk hG hsz dX3_partReady_102 ⟨Nat.le_of_ble_eq_true rfl, Nat.le_of_ble_eq_true rfl⟩ (nar_z (by decide)) ⟨rfl, rfl⟩
    · replace hM := ifp hM c_5
      refine lv_aload_n hx hb dX3_partReady_48 rfl (lv_at hl 1 rfl) ?_
      refine lv_bipush (v := iI 6) hx hb dX3_partReady_49 (by decide) ?_
      refine lv_iload_n hx hb dX3_partReady_51 rfl (lv_at hl 2 rfl) ?_
      refine gi_add hx hb dX3_partReady_52 ?_
      refine lv_lload_n hx hb dX3_partReady_53 rfl (lv_at hl 3 rfl) ?_
      obtain ⟨r_16, hc_15, hM⟩ := bd1_some hM
      refine g_vi (As := [.int (iI (6 + a1)), .long (jJ a2)]) (rest := []) S hG hsz (vX3_termsLaid_26 l hn (6 + a1) a2 hc_15) wV_3_113 (ec_26 _) cpX3 (Nat.lt_of_lt_of_le (Nat.le_of_ble_eq_true rfl) hn) dX3_partReady_54 rfl hl.1 (ar := 2) (by decide +kernel) rfl ⟨Nat.le_of_ble_eq_true rfl, Nat.le_of_ble_eq_true rfl, Nat.le_of_ble_eq_true rfl, Nat.le_of_ble_eq_true rfl⟩ (Nat.le_of_ble_eq_true rfl) (fun rv uu H locs hp hG => ?_)
      obtain ⟨rfl, rfl⟩ := hp
      replace hG : gW D cy b n s H locs (enc b cy X S0) := hG
      obtain ⟨hg_17, hM⟩ := gd_some hM
      cases hM
      exact g_zret S hr hlk hG hsz dX3_partReady_57 ⟨Nat.le_of_ble_eq_true rfl, Nat.le_of_ble_eq_true rfl⟩ (nar_z hg_17) ⟨rfl, rfl⟩
  · replace hM := ifp hM c_4
    refine lv_lload_n hx hb dX3_partReady_17 rfl (lv_at hl 3 rfl) ?_
    refine lv_aload_n hx hb dX3_partReady_18 rfl (lv_at hl 1 rfl) ?_
    refine m_get S hG 26 26 0 rfl ec_26 cpX3 wm_319 dX3_partReady_19 rfl (Nat.lt_of_lt_of_le (Nat.le_of_ble_eq_true rfl) hn) (by decide) ?_
    refine m_get S hG 13 13 6 rfl ec_13 cpX2 wm_242 dX3_partReady_22 rfl (Nat.lt_of_lt_of_le (Nat.le_of_ble_eq_true rfl) hn) (by decide) ?_
    refine lv_iload_n hx hb dX3_partReady_25 rfl (lv_at hl 2 rfl) ?_
    refine mi_ald S hG 15 15 rfl ec_15 (Nat.lt_of_lt_of_le (Nat.le_of_ble_eq_true rfl) hn) dX3_partReady_26 hg_1 (by decide) ?_
    refine gj_shr hx hb dX3_partReady_27 ?_
    refine lv_lconst (v := jJ 1) hx hb dX3_partReady_28 (by decide) ?_
    refine gj_and hx hb dX3_partReady_29 ?_
    refine lv_lconst (v := jJ 0) hx hb dX3_partReady_30 (by decide) ?_
    obtain ⟨hg_18, hM⟩ := gd_some hM
    refine gj_cmp_eq (tgt := 39) hx hb dX3_partReady_31 dX3_partReady_32 (by decide) hg_18 (by decide) (fun c_19 => ?_) (fun c_19 => ?_)
    · replace hM := ifp hM c_19
      refine lv_iconst (v := iI 0) hx hb dX3_partReady_39 (by decide) ?_
      cases hM
      exact g_zret S hr hlk hG hsz dX3_partReady_40 ⟨Nat.le_of_ble_eq_true rfl, Nat.le_of_ble_eq_true rfl⟩ (nar_z (by decide)) ⟨rfl, rfl⟩
    · replace hM := ifn hM c_19
      refine lv_iconst (v := iI 1) hx hb dX3_partReady_35 (by decide) ?_
      refine lv_goto (tgt := 40) hx hb dX3_partReady_36 (by decide) ?_
      cases hM
      exact g_zret S hr hlk hG hsz dX3_partReady_40 ⟨Nat.le_of_ble_eq_true rfl, Nat.le_of_ble_eq_true rfl⟩ (nar_z (by decide)) ⟨rfl, rfl⟩
def mX3_isReady_26 (S0 : St) (a1 : Int) (a2 : Int) : Option (Int) := gd (inI a1) <| if 6 ≤ a1 then (gd (0 ≤ (a1 - 6) ∧ (a1 - 6) ≤ 2147483647) <| nx ((a1 - 6) / 2) fun x_4 => gd (inI ((a1 - 6) % 2)) <| if ((a1 - 6) % 2) = 1 then (bd1 (mX3_partReady_26 S0 x_4 a2) fun r_39 => gd (r_39 = 0 ∨ r_39 = 1) <| some (r_39)) else (gd (0 ≤ x_4 ∧ x_4 < 24) <| nx (S0 17 x_4) fun x_8 => bd1 (mX3_allEmpty_26 S0 x_8 (-1)) fun r_10 => bd1 (gd (inI x_8) <| if x_8 = (-1) then (some (0)) else (bd1 (mX3_isEmpty_26 S0 x_4) fun r_35 => gd (inI r_35) <| if r_35 = 0 then (some (0)) else (some (1)))) fun z_11 => gd (inI r_10) <| if r_10 = 0 then (gd (inI z_11) <| if z_11 = 0 then (some (1)) else (bd1 (mX3_hasTail a2 x_8) fun r_19 => gd (inI r_19) <| if r_19 = 0 then (some (0)) else (some (1)))) else (bd1 (mX3_hasOwn a2 x_4) fun r_23 => gd (inI r_23) <| if r_23 = 0 then (some (0)) else (gd (inI z_11) <| if z_11 = 0 then (some (1)) else (bd1 (mX3_hasTail a2 x_8) fun r_29 => gd (inI r_29) <| if r_29 = 0 then (some (0)) else (some (1))))))) else (gd (inI (S0 13 1)) <| if (S0 13 1) ≤ a1 then (some (0)) else (bd1 (mX3_termsLaid_26 S0 a1 a2) fun r_44 => gd (inI r_44) <| if r_44 = 0 then (some (0)) else (some (1))))
set_option maxHeartbeats 4000000 in
set_option maxRecDepth 100000 in
theorem vX3_isReady_26 (l : Launch) {D : va_G} {cy : Nat → ClassId} {b n : Nat} (hn : 102 ≤ n) {X : Nat → va_E} {S0 : St} (a1 : Int) (a2 : Int) {o1 : Int} (hM : mX3_isReady_26 S0 a1 a2 = some o1) : gI l yX3_isReady cX3_isReady 8 (some .boolean) 3 0 0 D cy b n (enc b cy X S0) [.ref (b + 26), .int (iI a1), .long (jJ a2)] (fun r u => r = iI o1 ∧ u = (n, enc b cy X S0)) := by
  refine gI_of (by decide) (Nat.le_of_ble_eq_true rfl) ?_
  intro p e s m args below meth c S hr hlk hin hsz ls hl hG
  have hx := S.1
  have hb := S.2.1
  have hl : lv_has ls 8 [(0, .ref (b + 26)), (1, .int (iI a1)), (2, .long (jJ a2))] := hl
  replace hG : gW D cy b n s s.heap [] (enc b cy X S0) := hG
  obtain ⟨H, eH⟩ : ∃ H, H = s.heap := ⟨_, rfl⟩
  obtain ⟨locs, elocs⟩ : ∃ locs : List Loc, locs = [] := ⟨_, rfl⟩
  rw [← eH, ← elocs] at hG
  rw [← eH, ← elocs]
  clear eH elocs
  unfold mX3_isReady_26 at hM
  refine lv_iload_n hx hb dX3_isReady_0 rfl (lv_at hl 1 rfl) ?_
  refine lv_bipush (v := iI 6) hx hb dX3_isReady_1 (by decide) ?_
  obtain ⟨hg_1, hM⟩ := gd_some hM
  refine gi_icmp_ge (tgt := 32) hx hb dX3_isReady_3 (by decide) hg_1 (by decide) (fun c_2 => ?_) (fun c_2 => ?_)
  · replace hM := ifp hM c_2
    refine lv_iload_n hx hb dX3_isReady_32 rfl (lv_at hl 1 rfl) ?_
    refine lv_bipush (v := iI 6) hx hb dX3_isReady_33 (by decide) ?_
    refine gi_sub hx hb dX3_isReady_35 ?_
    refine lv_iconst (v := iI 2) hx hb dX3_isReady_36 (by decide) ?_
    obtain ⟨hg_3, hM⟩ := gd_some hM
    refine gi_div hx hb dX3_isReady_37 hg_3 (by decide) ?_
    refine gi_nm (fun x_4 ex_4 => ?_)
    replace hM := nx_at hM ex_4
    clear ex_4
    refine lv_istore (lv' := [(4, .int (iI x_4)), (0, .ref (b + 26)), (1, .int (iI a1)), (2, .long (jJ a2))]) hx hb dX3_isReady_38 hl (by decide) rfl (fun ls hl => ?_)
    refine lv_iload_n hx hb dX3_isReady_40 rfl (lv_at hl 2 rfl) ?_
    refine lv_bipush (v := iI 6) hx hb dX3_isReady_41 (by decide) ?_
    refine gi_sub hx hb dX3_isReady_43 ?_
    refine lv_iconst (v := iI 2) hx hb dX3_isReady_44 (by decide) ?_
    refine gi_rem hx hb dX3_isReady_45 hg_3 (by decide) ?_
    refine lv_iconst (v := iI 1) hx hb dX3_isReady_46 (by decide) ?_
    obtain ⟨hg_5, hM⟩ := gd_some hM
    refine gi_icmp_ne (tgt := 58) hx hb dX3_isReady_47 (by decide) hg_5 (by decide) (fun c_6 => ?_) (fun c_6 => ?_)
    · replace hM := ifn hM c_6
      refine lv_aload_n hx hb dX3_isReady_58 rfl (lv_at hl 1 rfl) ?_
      refine m_get S hG 26 26 0 rfl ec_26 cpX3 wm_319 dX3_isReady_59 rfl (Nat.lt_of_lt_of_le (Nat.le_of_ble_eq_true rfl) hn) (by decide) ?_
      refine m_get S hG 13 13 8 rfl ec_13 cpX2 wm_257 dX3_isReady_62 rfl (Nat.lt_of_lt_of_le (Nat.le_of_ble_eq_true rfl) hn) (by decide) ?_
      refine lv_iload hx hb dX3_isReady_65 (lv_at hl 0 rfl) ?_
      obtain ⟨hg_7, hM⟩ := gd_some hM
      refine mi_ald S hG 17 17 rfl ec_17 (Nat.lt_of_lt_of_le (Nat.le_of_ble_eq_true rfl) hn) dX3_isReady_67 hg_7 (by decide) ?_
      refine gi_nm (fun x_8 ex_8 => ?_)
      replace hM := nx_at hM ex_8
      clear ex_8
      refine lv_istore (lv' := [(5, .int (iI x_8)), (4, .int (iI x_4)), (0, .ref (b + 26)), (1, .int (iI a1)), (2, .long (jJ a2))]) hx hb dX3_isReady_68 hl (by decide) rfl (fun ls hl => ?_)
      refine lv_aload_n hx hb dX3_isReady_70 rfl (lv_at hl 2 rfl) ?_
      refine lv_iload hx hb dX3_isReady_71 (lv_at hl 0 rfl) ?_
      refine lv_iconst (v := iI (-1)) hx hb dX3_isReady_73 (by decide) ?_
      obtain ⟨r_10, hc_9, hM⟩ := bd1_some hM
      refine g_vi (As := [.int (iI x_8), .int (iI (-1))]) (rest := []) S hG hsz (vX3_allEmpty_26 l hn x_8 (-1) hc_9) wV_3_94 (ec_26 _) cpX3 (Nat.lt_of_lt_of_le (Nat.le_of_ble_eq_true rfl) hn) dX3_isReady_74 rfl hl.1 (ar := 2) (by decide +kernel) rfl ⟨Nat.le_of_ble_eq_true rfl, Nat.le_of_ble_eq_true rfl, Nat.le_of_ble_eq_true rfl, Nat.le_of_ble_eq_true rfl⟩ (Nat.le_of_ble_eq_true rfl) (fun rv uu H locs hp hG => ?_)
      obtain ⟨rfl, rfl⟩ := hp
      replace hG : gW D cy b n s H locs (enc b cy X S0) := hG
      refine lv_istore (lv' := [(6, .int (iI r_10)), (5, .int (iI x_8)), (4, .int (iI x_4)), (0, .ref (b + 26)), (1, .int (iI a1)), (2, .long (jJ a2))]) hx hb dX3_isReady_77 hl (by decide) rfl (fun ls hl => ?_)
      refine lv_iload hx hb dX3_isReady_79 (lv_at hl 1 rfl) ?_
      refine lv_iconst (v := iI (-1)) hx hb dX3_isReady_81 (by decide) ?_
      obtain ⟨z_11, hc_12, hM⟩ := bd1_some hM
      have hK_13 : ∀ (H : Heap) (locs : List Loc) (ls : Array Slot), gW D cy b n s H locs (enc b cy X S0) → lv_has ls 8 [(6, .int (iI r_10)), (5, .int (iI x_8)), (4, .int (iI x_4)), (2, .long (jJ a2))] → W p l e (gRm 3 0 0) s m args below meth c H locs 0 0 (gQI D cy b s args below 0 0 (fun r u => r = iI o1 ∧ u = (n, enc b cy X S0))) (F0 m 99 ls [.int (iI z_11)]) := by
        intro H locs ls hG hl
        refine lv_istore (lv' := [(7, .int (iI z_11)), (6, .int (iI r_10)), (5, .int (iI x_8)), (4, .int (iI x_4)), (2, .long (jJ a2))]) hx hb dX3_isReady_99 hl (by decide) rfl (fun ls hl => ?_)
        refine lv_iload hx hb dX3_isReady_101 (lv_at hl 1 rfl) ?_
        obtain ⟨hg_14, hM⟩ := gd_some hM
        refine gi_if_eq (tgt := 115) hx hb dX3_isReady_103 (by decide) hg_14 (fun c_15 => ?_) (fun c_15 => ?_)
        · replace hM := ifp hM c_15
          refine lv_iload hx hb dX3_isReady_115 (lv_at hl 0 rfl) ?_
          obtain ⟨hg_16, hM⟩ := gd_some hM
          refine gi_if_eq (tgt := 129) hx hb dX3_isReady_117 (by decide) hg_16 (fun c_17 => ?_) (fun c_17 => ?_)
          · replace hM := ifp hM c_17
            refine lv_iconst (v := iI 1) hx hb dX3_isReady_129 (by decide) ?_
            refine lv_goto (tgt := 134) hx hb dX3_isReady_130 (by decide) ?_
            cases hM
            exact g_zret S hr hlk hG hsz dX3_isReady_134 ⟨Nat.le_of_ble_eq_true rfl, Nat.le_of_ble_eq_true rfl⟩ (nar_z (by decide)) ⟨rfl, rfl⟩
          · replace hM := ifn hM c_17
            refine lv_lload_n hx hb dX3_isReady_120 rfl (lv_at hl 4 rfl) ?_
            refine lv_iload hx hb dX3_isReady_121 (lv_at hl 2 rfl) ?_
            obtain ⟨r_19, hc_18, hM⟩ := bd1_some hM
            refine g_si (As := [.long (jJ a2), .int (iI x_8)]) (rest := []) S hG hsz (vX3_hasTail l hn a2 x_8 hc_18) wS_3_123 dX3_isReady_123 rfl hl.1 (ar := 2) (by decide +kernel) rfl ⟨Nat.le_of_ble_eq_true rfl, Nat.le_of_ble_eq_true rfl, Nat.le_of_ble_eq_true rfl, Nat.le_of_ble_eq_true rfl⟩ (Nat.le_of_ble_eq_true rfl) (fun rv uu H locs hp hG => ?_)
            obtain ⟨rfl, rfl⟩ := hp
            replace hG : gW D cy b n s H locs (enc b cy X S0) := hG
            obtain ⟨hg_20, hM⟩ := gd_some hM
            refine gi_if_eq (tgt := 133) hx hb dX3_isReady_126 (by decide) hg_20 (fun c_21 => ?_) (fun c_21 => ?_)
            · replace hM := ifp hM c_21
              refine lv_iconst (v := iI 0) hx hb dX3_isReady_133 (by decide) ?_
              cases hM
              exact g_zret S hr hlk hG hsz dX3_isReady_134 ⟨Nat.le_of_ble_eq_true rfl, Nat.le_of_ble_eq_true rfl⟩ (nar_z (by decide)) ⟨rfl, rfl⟩
            · replace hM := ifn hM c_21
              refine lv_iconst (v := iI 1) hx hb dX3_isReady_129 (by decide) ?_
              refine lv_goto (tgt := 134) hx hb dX3_isReady_130 (by decide) ?_
              cases hM
              exact g_zret S hr hlk hG hsz dX3_isReady_134 ⟨Nat.le_of_ble_eq_true rfl, Nat.le_of_ble_eq_true rfl⟩ (nar_z (by decide)) ⟨rfl, rfl⟩
        · replace hM := ifn hM c_15
          refine lv_lload_n hx hb dX3_isReady_106 rfl (lv_at hl 4 rfl) ?_
          refine lv_iload hx hb dX3_isReady_107 (lv_at hl 3 rfl) ?_
          obtain ⟨r_23, hc_22, hM⟩ := bd1_some hM
          refine g_si (As := [.long (jJ a2), .int (iI x_4)]) (rest := []) S hG hsz (vX3_hasOwn l hn a2 x_4 hc_22) wS_3_119 dX3_isReady_109 rfl hl.1 (ar := 2) (by decide +kernel) rfl ⟨Nat.le_of_ble_eq_true rfl, Nat.le_of_ble_eq_true rfl, Nat.le_of_ble_eq_true rfl, Nat.le_of_ble_eq_true rfl⟩ (Nat.le_of_ble_eq_true rfl) (fun rv uu H locs hp hG => ?_)
          obtain ⟨rfl, rfl⟩ := hp
          replace hG : gW D cy b n s H locs (enc b cy X S0) := hG
          obtain ⟨hg_24, hM⟩ := gd_some hM
          refine gi_if_eq (tgt := 133) hx hb dX3_isReady_112 (by decide) hg_24 (fun c_25 => ?_) (fun c_25 => ?_)
          · replace hM := ifp hM c_25
            refine lv_iconst (v := iI 0) hx hb dX3_isReady_133 (by decide) ?_
            cases hM
            exact g_zret S hr hlk hG hsz dX3_isReady_134 ⟨Nat.le_of_ble_eq_true rfl, Nat.le_of_ble_eq_true rfl⟩ (nar_z (by decide)) ⟨rfl, rfl⟩
          · replace hM := ifn hM c_25
            refine lv_iload hx hb dX3_isReady_115 (lv_at hl 0 rfl) ?_
            obtain ⟨hg_26, hM⟩ := gd_some hM
            refine gi_if_eq (tgt := 129) hx hb dX3_isReady_117 (by decide) hg_26 (fun c_27 => ?_) (fun c_27 => ?_)
            · replace hM := ifp hM c_27
              refine lv_iconst (v := iI 1) hx hb dX3_isReady_129 (by decide) ?_
              refine lv_goto (tgt := 134) hx hb dX3_isReady_130 (by decide) ?_
              cases hM
              exact g_zret S hr hlk hG hsz dX3_isReady_134 ⟨Nat.le_of_ble_eq_true rfl, Nat.le_of_ble_eq_true rfl⟩ (nar_z (by decide)) ⟨rfl, rfl⟩
            · replace hM := ifn hM c_27
              refine lv_lload_n hx hb dX3_isReady_120 rfl (lv_at hl 4 rfl) ?_
              refine lv_iload hx hb dX3_isReady_121 (lv_at hl 2 rfl) ?_
              obtain ⟨r_29, hc_28, hM⟩ := bd1_some hM
              refine g_si (As := [.long (jJ a2), .int (iI x_8)]) (rest := []) S hG hsz (vX3_hasTail l hn a2 x_8 hc_28) wS_3_123 dX3_isReady_123 rfl hl.1 (ar := 2) (by decide +kernel) rfl ⟨Nat.le_of_ble_eq_true rfl, Nat.le_of_ble_eq_true rfl, Nat.le_of_ble_eq_true rfl, Nat.le_of_ble_eq_true rfl⟩ (Nat.le_of_ble_eq_true rfl) (fun rv uu H locs hp hG => ?_)
              obtain ⟨rfl, rfl⟩ := hp
              replace hG : gW D cy b n s H locs (enc b cy X S0) := hG
              obtain ⟨hg_30, hM⟩ := gd_some hM
              refine gi_if_eq (tgt := 133) hx hb dX3_isReady_126 (by decide) hg_30 (fun c_31 => ?_) (fun c_31 => ?_)
              · replace hM := ifp hM c_31
                refine lv_iconst (v := iI 0) hx hb dX3_isReady_133 (by decide) ?_
                cases hM
                exact g_zret S hr hlk hG hsz dX3_isReady_134 ⟨Nat.le_of_ble_eq_true rfl, Nat.le_of_ble_eq_true rfl⟩ (nar_z (by decide)) ⟨rfl, rfl⟩
              · replace hM := ifn hM c_31
                refine lv_iconst (v := iI 1) hx hb dX3_isReady_129 (by decide) ?_
                refine lv_goto (tgt := 134) hx hb dX3_isReady_130 (by decide) ?_
                cases hM
                exact g_zret S hr hlk hG hsz dX3_isReady_134 ⟨Nat.le_of_ble_eq_true rfl, Nat.le_of_ble_eq_true rfl⟩ (nar_z (by decide)) ⟨rfl, rfl⟩
      clear hM
      replace hM := hc_12
      obtain ⟨hg_32, hM⟩ := gd_some hM
      refine gi_icmp_eq (tgt := 98) hx hb dX3_isReady_82 (by decide) hg_32 (by decide) (fun c_33 => ?_) (fun c_33 => ?_)
      · replace hM := ifp hM c_33
        refine lv_iconst (v := iI 0) hx hb dX3_isReady_98 (by decide) ?_
        cases hM
        exact hK_13 H locs ls hG (lv_sub hl [0, 1, 2, 5] rfl)
      · replace hM := ifn hM c_33
        refine lv_aload_n hx hb dX3_isReady_85 rfl (lv_at hl 3 rfl) ?_
        refine lv_iload hx hb dX3_isReady_86 (lv_at hl 2 rfl) ?_
        obtain ⟨r_35, hc_34, hM⟩ := bd1_some hM
        refine g_vi (As := [.int (iI x_4)]) (rest := []) S hG hsz (vX3_isEmpty_26 l hn x_4 hc_34) wV_3_80 (ec_26 _) cpX3 (Nat.lt_of_lt_of_le (Nat.le_of_ble_eq_true rfl) hn) dX3_isReady_88 rfl hl.1 (ar := 1) (by decide +kernel) rfl ⟨Nat.le_of_ble_eq_true rfl, Nat.le_of_ble_eq_true rfl, Nat.le_of_ble_eq_true rfl, Nat.le_of_ble_eq_true rfl⟩ (Nat.le_of_ble_eq_true rfl) (fun rv uu H locs hp hG => ?_)
        obtain ⟨rfl, rfl⟩ := hp
        replace hG : gW D cy b n s H locs (enc b cy X S0) := hG
        obtain ⟨hg_36, hM⟩ := gd_some hM
        refine gi_if_eq (tgt := 98) hx hb dX3_isReady_91 (by decide) hg_36 (fun c_37 => ?_) (fun c_37 => ?_)
        · replace hM := ifp hM c_37
          refine lv_iconst (v := iI 0) hx hb dX3_isReady_98 (by decide) ?_
          cases hM
          exact hK_13 H locs ls hG (lv_sub hl [0, 1, 2, 5] rfl)
        · replace hM := ifn hM c_37
          refine lv_iconst (v := iI 1) hx hb dX3_isReady_94 (by decide) ?_
          refine lv_goto (tgt := 99) hx hb dX3_isReady_95 (by decide) ?_
          cases hM
          exact hK_13 H locs ls hG (lv_sub hl [0, 1, 2, 5] rfl)
    · replace hM := ifp hM c_6
      refine lv_aload_n hx hb dX3_isReady_50 rfl (lv_at hl 1 rfl) ?_
      refine lv_iload hx hb dX3_isReady_51 (lv_at hl 0 rfl) ?_
      refine lv_lload_n hx hb dX3_isReady_53 rfl (lv_at hl 3 rfl) ?_
      obtain ⟨r_39, hc_38, hM⟩ := bd1_some hM
      refine g_vi (As := [.int (iI x_4), .long (jJ a2)]) (rest := []) S hG hsz (vX3_partReady_26 l hn x_4 a2 hc_38) wV_3_116 (ec_26 _) cpX3 (Nat.lt_of_lt_of_le (Nat.le_of_ble_eq_true rfl) hn) dX3_isReady_54 rfl hl.1 (ar := 2) (by decide +kernel) rfl ⟨Nat.le_of_ble_eq_true rfl, Nat.le_of_ble_eq_true rfl, Nat.le_of_ble_eq_true rfl, Nat.le_of_ble_eq_true rfl⟩ (Nat.le_of_ble_eq_true rfl) (fun rv uu H locs hp hG => ?_)
      obtain ⟨rfl, rfl⟩ := hp
      replace hG : gW D cy b n s H locs (enc b cy X S0) := hG
      obtain ⟨hg_40, hM⟩ := gd_some hM
      cases hM
      exact g_zret S hr hlk hG hsz dX3_isReady_57 ⟨Nat.le_of_ble_eq_true rfl, Nat.le_of_ble_eq_true rfl⟩ (nar_z hg_40) ⟨rfl, rfl⟩
  · replace hM := ifn hM c_2
    refine lv_iload_n hx hb dX3_isReady_6 rfl (lv_at hl 1 rfl) ?_
    refine lv_aload_n hx hb dX3_isReady_7 rfl (lv_at hl 0 rfl) ?_
    refine m_get S hG 26 26 0 rfl ec_26 cpX3 wm_319 dX3_isReady_8 rfl (Nat.lt_of_lt_of_le (Nat.le_of_ble_eq_true rfl) hn) (by decide) ?_
    refine m_get S hG 13 13 1 rfl ec_13 cpX2 wm_219 dX3_isReady_11 rfl (Nat.lt_of_lt_of_le (Nat.le_of_ble_eq_true rfl) hn) (by decide) ?_
    obtain ⟨hg_41, hM⟩ := gd_some hM
    refine gi_icmp_ge (tgt := 30) hx hb dX3_isReady_14 (by decide) hg_1 hg_41 (fun c_42 => ?_) (fun c_42 => ?_)
    · replace hM := ifp hM c_42
      refine lv_iconst (v := iI 0) hx hb dX3_isReady_30 (by decide) ?_
      cases hM
      exact g_zret S hr hlk hG hsz dX3_isReady_31 ⟨Nat.le_of_ble_eq_true rfl, Nat.le_of_ble_eq_true rfl⟩ (nar_z (by decide)) ⟨rfl, rfl⟩
    · replace hM := ifn hM c_42
      refine lv_aload_n hx hb dX3_isReady_17 rfl (lv_at hl 0 rfl) ?_
      refine lv_iload_n hx hb dX3_isReady_18 rfl (lv_at hl 1 rfl) ?_
      refine lv_lload_n hx hb dX3_isReady_19 rfl (lv_at hl 2 rfl) ?_
      obtain ⟨r_44, hc_43, hM⟩ := bd1_some hM
      refine g_vi (As := [.int (iI a1), .long (jJ a2)]) (rest := []) S hG hsz (vX3_termsLaid_26 l hn a1 a2 hc_43) wV_3_113 (ec_26 _) cpX3 (Nat.lt_of_lt_of_le (Nat.le_of_ble_eq_true rfl) hn) dX3_isReady_20 rfl hl.1 (ar := 2) (by decide +kernel) rfl ⟨Nat.le_of_ble_eq_true rfl, Nat.le_of_ble_eq_true rfl, Nat.le_of_ble_eq_true rfl, Nat.le_of_ble_eq_true rfl⟩ (Nat.le_of_ble_eq_true rfl) (fun rv uu H locs hp hG => ?_)
      obtain ⟨rfl, rfl⟩ := hp
      replace hG : gW D cy b n s H locs (enc b cy X S0) := hG
      obtain ⟨hg_45, hM⟩ := gd_some hM
      refine gi_if_eq (tgt := 30) hx hb dX3_isReady_23 (by decide) hg_45 (fun c_46 => ?_) (fun c_46 => ?_)
      · replace hM := ifp hM c_46
        refine lv_iconst (v := iI 0) hx hb dX3_isReady_30 (by decide) ?_
        cases hM
        exact g_zret S hr hlk hG hsz dX3_isReady_31 ⟨Nat.le_of_ble_eq_true rfl, Nat.le_of_ble_eq_true rfl⟩ (nar_z (by decide)) ⟨rfl, rfl⟩
      · replace hM := ifn hM c_46
        refine lv_iconst (v := iI 1) hx hb dX3_isReady_26 (by decide) ?_
        refine lv_goto (tgt := 31) hx hb dX3_isReady_27 (by decide) ?_
        cases hM
        exact g_zret S hr hlk hG hsz dX3_isReady_31 ⟨Nat.le_of_ble_eq_true rfl, Nat.le_of_ble_eq_true rfl⟩ (nar_z (by decide)) ⟨rfl, rfl⟩
def mX3_layOrder_26_44 (v_2 : Int) : Nat → Int → Int → Int → St → Option (Int × Int × St)
  | 0, _, _, _, _ => none
  | f + 1, v_17, v_18, v_19, S_20 => gd (inI v_17) <| if v_17 < 0 then (some (v_19, v_18, S_20)) else (gd (inL (lan (lshr v_19 v_17) 1)) <| if (lan (lshr v_19 v_17) 1) = 0 then (bd1 (mX3_isReady_26 S_20 v_17 v_19) fun r_34 => gd (inI r_34) <| if r_34 = 0 then (mX3_layOrder_26_44 v_2 f (v_17 - 1) v_18 v_19 S_20) else (gd (0 ≤ (S_20 13 4) ∧ (S_20 13 4) < 54) <| nx (up S_20 22 (S_20 13 4) v_17) fun S_38 => nx (up S_38 13 4 ((S_38 13 4) + 1)) fun S_39 => nx (lor v_19 (lsh 1 v_17)) fun x_40 => mX3_layOrder_26_44 v_2 f (v_17 - 1) 1 x_40 S_39)) else (mX3_layOrder_26_44 v_2 f (v_17 - 1) v_18 v_19 S_20))
def mX3_layOrder_26_15  : Nat → Int → Int → Int → St → Option (St)
  | 0, _, _, _, _ => none
  | f + 1, v_2, v_3, v_4, S_5 => gd (inI v_2) <| if 54 ≤ v_2 then (some (S_5)) else (gd (inI v_3) <| if v_3 = 0 then (some (S_5)) else (nx ((6 + (2 * (S_5 13 3))) - 1) fun x_16 => bd3 (mX3_layOrder_26_44 v_2 FU x_16 0 v_4 S_5) fun y_21 y_22 S_23 => mX3_layOrder_26_15 f (v_2 + 1) y_22 y_21 S_23))
def mX3_layOrder_26 (S0 : St)  : Option (St) := nx (up S0 13 4 0) fun S_1 => bd1 (mX3_layOrder_26_15 FU 0 1 0 S_1) fun S_6 => some (S_6)
set_option maxHeartbeats 4000000 in
set_option maxRecDepth 100000 in
theorem vX3_layOrder_26 (l : Launch) {D : va_G} {cy : Nat → ClassId} {b n : Nat} (hn : 102 ≤ n) {X : Nat → va_E} {S0 : St}  {o1 : St} (hM : mX3_layOrder_26 S0  = some o1) : gV l yX3_layOrder cX3_layOrder 6 4 0 0 D cy b n (enc b cy X S0) [.ref (b + 26)] (fun u => u = (n, enc b cy X o1)) := by
  refine gV_of (by decide) (Nat.le_of_ble_eq_true rfl) ?_
  intro p e s m args below meth c S hr hlk hin hsz ls hl hG
  have hx := S.1
  have hb := S.2.1
  have hl : lv_has ls 6 [(0, .ref (b + 26))] := hl
  replace hG : gW D cy b n s s.heap [] (enc b cy X S0) := hG
  obtain ⟨H, eH⟩ : ∃ H, H = s.heap := ⟨_, rfl⟩
  obtain ⟨locs, elocs⟩ : ∃ locs : List Loc, locs = [] := ⟨_, rfl⟩
  rw [← eH, ← elocs] at hG
  rw [← eH, ← elocs]
  clear eH elocs
  unfold mX3_layOrder_26 at hM
  refine lv_lconst (v := jJ 0) hx hb dX3_layOrder_0 (by decide) ?_
  refine lv_lstore_n (lv' := [(1, .long (jJ 0)), (0, .ref (b + 26))]) hx hb dX3_layOrder_1 rfl hl (by decide) rfl (fun ls hl => ?_)
  refine lv_iconst (v := iI 1) hx hb dX3_layOrder_2 (by decide) ?_
  refine lv_istore_n (lv' := [(3, .int (iI 1)), (1, .long (jJ 0)), (0, .ref (b + 26))]) hx hb dX3_layOrder_3 rfl hl (by decide) rfl (fun ls hl => ?_)
  refine lv_aload_n hx hb dX3_layOrder_4 rfl (lv_at hl 2 rfl) ?_
  refine m_get S hG 26 26 0 rfl ec_26 cpX3 wm_319 dX3_layOrder_5 rfl (Nat.lt_of_lt_of_le (Nat.le_of_ble_eq_true rfl) hn) (by decide) ?_
  refine lv_iconst (v := iI 0) hx hb dX3_layOrder_8 (by decide) ?_
  refine m_put S hG 13 13 4 rfl 4 0 ec_13 cpX2 wm_233 dX3_layOrder_9 (pf_13_4) (Nat.lt_of_lt_of_le (Nat.le_of_ble_eq_true rfl) hn) (by decide) (Nat.le_of_ble_eq_true rfl) rfl rfl rfl (fun H locs S_1 eS_1 hG => ?_)
  replace hM := nx_at hM eS_1
  clear eS_1
  refine lv_iconst (v := iI 0) hx hb dX3_layOrder_12 (by decide) ?_
  refine lv_istore (lv' := [(4, .int (iI 0)), (3, .int (iI 1)), (1, .long (jJ 0)), (0, .ref (b + 26))]) hx hb dX3_layOrder_13 hl (by decide) rfl (fun ls hl => ?_)
  obtain ⟨S_6, hc_7, hM⟩ := bd1_some hM
  have hK_8 : ∀ (H : Heap) (locs : List Loc) (ls : Array Slot), gW D cy b n s H locs (enc b cy X S_6) → lv_has ls 6 [] → W p l e (gRm 4 0 0) s m args below meth c H locs 0 0 (gQV D cy b s args below 0 0 (fun u => u = (n, enc b cy X o1))) (F0 m 121 ls []) := by
    intro H locs ls hG hl
    cases hM
    exact g_vret S hr hlk hG hsz dX3_layOrder_121 ⟨Nat.le_of_ble_eq_true rfl, Nat.le_of_ble_eq_true rfl⟩ rfl
  have loop_9 : ∀ (f : Nat) (v_2 : Int) (v_3 : Int) (v_4 : Int) (S_5 : St) (H : Heap) (locs : List Loc) (ls : Array Slot), mX3_layOrder_26_15 f v_2 v_3 v_4 S_5 = some S_6 → gW D cy b n s H locs (enc b cy X S_5) → lv_has ls 6 [(4, .int (iI v_2)), (3, .int (iI v_3)), (1, .long (jJ v_4)), (0, .ref (b + 26))] → W p l e (gRm 4 0 0) s m args below meth c H locs 0 0 (gQV D cy b s args below 0 0 (fun u => u = (n, enc b cy X o1))) (F0 m 15 ls []) := by
    clear hM
    intro f
    induction f with
    | zero => intro v_2 v_3 v_4 S_5 H locs ls hM; rw [mX3_layOrder_26_15] at hM; cases hM
    | succ f_11 ih_10 =>
      intro v_2 v_3 v_4 S_5 H locs ls hM hG hl
      rw [mX3_layOrder_26_15] at hM
      refine lv_iload hx hb dX3_layOrder_15 (lv_at hl 0 rfl) ?_
      refine lv_bipush (v := iI 54) hx hb dX3_layOrder_17 (by decide) ?_
      obtain ⟨hg_12, hM⟩ := gd_some hM
      refine gi_icmp_ge (tgt := 121) hx hb dX3_layOrder_19 (by decide) hg_12 (by decide) (fun c_13 => ?_) (fun c_13 => ?_)
      · replace hM := ifp hM c_13
        cases hM
        exact hK_8 H locs ls hG (lv_sub hl [] rfl)
      · replace hM := ifn hM c_13
        refine lv_iload_n hx hb dX3_layOrder_22 rfl (lv_at hl 1 rfl) ?_
        obtain ⟨hg_14, hM⟩ := gd_some hM
        refine gi_if_eq (tgt := 121) hx hb dX3_layOrder_23 (by decide) hg_14 (fun c_15 => ?_) (fun c_15 => ?_)
        · replace hM := ifp hM c_15
          cases hM
          exact hK_8 H locs ls hG (lv_sub hl [] rfl)
        · replace hM := ifn hM c_15
          refine lv_iconst (v := iI 0) hx hb dX3_layOrder_26 (by decide) ?_
          refine lv_istore_n (lv' := [(3, .int (iI 0)), (4, .int (iI v_2)), (1, .long (jJ v_4)), (0, .ref (b + 26))]) hx hb dX3_layOrder_27 rfl hl (by decide) rfl (fun ls hl => ?_)
          refine lv_bipush (v := iI 6) hx hb dX3_layOrder_28 (by decide) ?_
          refine lv_iconst (v := iI 2) hx hb dX3_layOrder_30 (by decide) ?_
          refine lv_aload_n hx hb dX3_layOrder_31 rfl (lv_at hl 3 rfl) ?_
          refine m_get S hG 26 26 0 rfl ec_26 cpX3 wm_319 dX3_layOrder_32 rfl (Nat.lt_of_lt_of_le (Nat.le_of_ble_eq_true rfl) hn) (by decide) ?_
          refine m_get S hG 13 13 3 rfl ec_13 cpX2 wm_227 dX3_layOrder_35 rfl (Nat.lt_of_lt_of_le (Nat.le_of_ble_eq_true rfl) hn) (by decide) ?_
          refine gi_mul hx hb dX3_layOrder_38 ?_
          refine gi_add hx hb dX3_layOrder_39 ?_
          refine lv_iconst (v := iI 1) hx hb dX3_layOrder_40 (by decide) ?_
          refine gi_sub hx hb dX3_layOrder_41 ?_
          refine gi_nm (fun x_16 ex_16 => ?_)
          replace hM := nx_at hM ex_16
          clear ex_16
          refine lv_istore (lv' := [(5, .int (iI x_16)), (3, .int (iI 0)), (4, .int (iI v_2)), (1, .long (jJ v_4)), (0, .ref (b + 26))]) hx hb dX3_layOrder_42 hl (by decide) rfl (fun ls hl => ?_)
          obtain ⟨y_21, y_22, S_23, hc_24, hM⟩ := bd3_some hM
          have hK_25 : ∀ (H : Heap) (locs : List Loc) (ls : Array Slot), gW D cy b n s H locs (enc b cy X S_23) → lv_has ls 6 [(4, .int (iI v_2)), (0, .ref (b + 26)), (1, .long (jJ y_21)), (3, .int (iI y_22))] → W p l e (gRm 4 0 0) s m args below meth c H locs 0 0 (gQV D cy b s args below 0 0 (fun u => u = (n, enc b cy X o1))) (F0 m 115 ls []) := by
            intro H locs ls hG hl
            refine lv_iinc (v := iI (v_2 + 1)) (lv' := [(4, .int (iI (v_2 + 1))), (0, .ref (b + 26)), (1, .long (jJ y_21)), (3, .int (iI y_22))]) hx hb dX3_layOrder_115 hl (k := 0) rfl ((iI_add v_2 (1)).trans (congrArg iI (by omega))) (by decide) rfl (fun ls hl => ?_)
            refine lv_goto (tgt := 15) hx hb dX3_layOrder_118 (by decide) ?_
            exact ih_10 (v_2 + 1) y_22 y_21 S_23 H locs ls hM hG (lv_sub hl [0, 3, 2, 1] rfl)
          have loop_26 : ∀ (f : Nat) (v_17 : Int) (v_18 : Int) (v_19 : Int) (S_20 : St) (H : Heap) (locs : List Loc) (ls : Array Slot), mX3_layOrder_26_44 v_2 f v_17 v_18 v_19 S_20 = some (y_21, y_22, S_23) → gW D cy b n s H locs (enc b cy X S_20) → lv_has ls 6 [(5, .int (iI v_17)), (3, .int (iI v_18)), (4, .int (iI v_2)), (1, .long (jJ v_19)), (0, .ref (b + 26))] → W p l e (gRm 4 0 0) s m args below meth c H locs 0 0 (gQV D cy b s args below 0 0 (fun u => u = (n, enc b cy X o1))) (F0 m 44 ls []) := by
            clear hM
            intro f
            induction f with
            | zero => intro v_17 v_18 v_19 S_20 H locs ls hM; rw [mX3_layOrder_26_44] at hM; cases hM
            | succ f_28 ih_27 =>
              intro v_17 v_18 v_19 S_20 H locs ls hM hG hl
              rw [mX3_layOrder_26_44] at hM
              refine lv_iload hx hb dX3_layOrder_44 (lv_at hl 0 rfl) ?_
              obtain ⟨hg_29, hM⟩ := gd_some hM
              refine gi_if_lt (tgt := 115) hx hb dX3_layOrder_46 (by decide) hg_29 (fun c_30 => ?_) (fun c_30 => ?_)
              · replace hM := ifp hM c_30
                cases hM
                exact hK_25 H locs ls hG (lv_sub hl [2, 4, 3, 1] rfl)
              · replace hM := ifn hM c_30
                refine lv_lload_n hx hb dX3_layOrder_49 rfl (lv_at hl 3 rfl) ?_
                refine lv_iload hx hb dX3_layOrder_50 (lv_at hl 0 rfl) ?_
                refine gj_shr hx hb dX3_layOrder_52 ?_
                refine lv_lconst (v := jJ 1) hx hb dX3_layOrder_53 (by decide) ?_
                refine gj_and hx hb dX3_layOrder_54 ?_
                refine lv_lconst (v := jJ 0) hx hb dX3_layOrder_55 (by decide) ?_
                obtain ⟨hg_31, hM⟩ := gd_some hM
                refine gj_cmp_ne (tgt := 109) hx hb dX3_layOrder_56 dX3_layOrder_57 (by decide) hg_31 (by decide) (fun c_32 => ?_) (fun c_32 => ?_)
                · replace hM := ifn hM c_32
                  refine lv_iinc (v := iI (v_17 - 1)) (lv' := [(5, .int (iI (v_17 - 1))), (3, .int (iI v_18)), (4, .int (iI v_2)), (1, .long (jJ v_19)), (0, .ref (b + 26))]) hx hb dX3_layOrder_109 hl (k := 0) rfl ((iI_add v_17 (-1)).trans (congrArg iI (by omega))) (by decide) rfl (fun ls hl => ?_)
                  refine lv_goto (tgt := 44) hx hb dX3_layOrder_112 (by decide) ?_
                  exact ih_27 (v_17 - 1) v_18 v_19 S_20 H locs ls hM hG (lv_sub hl [0, 1, 2, 3, 4] rfl)
                · replace hM := ifp hM c_32
                  refine lv_aload_n hx hb dX3_layOrder_60 rfl (lv_at hl 4 rfl) ?_
                  refine lv_iload hx hb dX3_layOrder_61 (lv_at hl 0 rfl) ?_
                  refine lv_lload_n hx hb dX3_layOrder_63 rfl (lv_at hl 3 rfl) ?_
                  obtain ⟨r_34, hc_33, hM⟩ := bd1_some hM
                  refine g_vi (As := [.int (iI v_17), .long (jJ v_19)]) (rest := []) S hG hsz (vX3_isReady_26 l hn v_17 v_19 hc_33) wV_3_106 (ec_26 _) cpX3 (Nat.lt_of_lt_of_le (Nat.le_of_ble_eq_true rfl) hn) dX3_layOrder_64 rfl hl.1 (ar := 2) (by decide +kernel) rfl ⟨Nat.le_of_ble_eq_true rfl, Nat.le_of_ble_eq_true rfl, Nat.le_of_ble_eq_true rfl, Nat.le_of_ble_eq_true rfl⟩ (Nat.le_of_ble_eq_true rfl) (fun rv uu H locs hp hG => ?_)
                  obtain ⟨rfl, rfl⟩ := hp
                  replace hG : gW D cy b n s H locs (enc b cy X S_20) := hG
                  obtain ⟨hg_35, hM⟩ := gd_some hM
                  refine gi_if_eq (tgt := 109) hx hb dX3_layOrder_67 (by decide) hg_35 (fun c_36 => ?_) (fun c_36 => ?_)
                  · replace hM := ifp hM c_36
                    refine lv_iinc (v := iI (v_17 - 1)) (lv' := [(5, .int (iI (v_17 - 1))), (3, .int (iI v_18)), (4, .int (iI v_2)), (1, .long (jJ v_19)), (0, .ref (b + 26))]) hx hb dX3_layOrder_109 hl (k := 0) rfl ((iI_add v_17 (-1)).trans (congrArg iI (by omega))) (by decide) rfl (fun ls hl => ?_)
                    refine lv_goto (tgt := 44) hx hb dX3_layOrder_112 (by decide) ?_
                    exact ih_27 (v_17 - 1) v_18 v_19 S_20 H locs ls hM hG (lv_sub hl [0, 1, 2, 3, 4] rfl)
                  · replace hM := ifn hM c_36
                    refine lv_aload_n hx hb dX3_layOrder_70 rfl (lv_at hl 4 rfl) ?_
                    refine m_get S hG 26 26 0 rfl ec_26 cpX3 wm_319 dX3_layOrder_71 rfl (Nat.lt_of_lt_of_le (Nat.le_of_ble_eq_true rfl) hn) (by decide) ?_
                    refine m_get S hG 13 13 13 rfl ec_13 cpX2 wm_275 dX3_layOrder_74 rfl (Nat.lt_of_lt_of_le (Nat.le_of_ble_eq_true rfl) hn) (by decide) ?_
                    refine lv_aload_n hx hb dX3_layOrder_77 rfl (lv_at hl 4 rfl) ?_
                    refine m_get S hG 26 26 0 rfl ec_26 cpX3 wm_319 dX3_layOrder_78 rfl (Nat.lt_of_lt_of_le (Nat.le_of_ble_eq_true rfl) hn) (by decide) ?_
                    refine m_get S hG 13 13 4 rfl ec_13 cpX2 wm_233 dX3_layOrder_81 rfl (Nat.lt_of_lt_of_le (Nat.le_of_ble_eq_true rfl) hn) (by decide) ?_
                    refine lv_iload hx hb dX3_layOrder_84 (lv_at hl 0 rfl) ?_
                    obtain ⟨hg_37, hM⟩ := gd_some hM
                    refine mi_ast S hG 22 22 rfl ec_22 (Nat.lt_of_lt_of_le (Nat.le_of_ble_eq_true rfl) hn) dX3_layOrder_86 hg_37 (by decide) (fun H locs S_38 eS_38 hG => ?_)
                    replace hM := nx_at hM eS_38
                    clear eS_38
                    refine lv_aload_n hx hb dX3_layOrder_87 rfl (lv_at hl 4 rfl) ?_
                    refine m_get S hG 26 26 0 rfl ec_26 cpX3 wm_319 dX3_layOrder_88 rfl (Nat.lt_of_lt_of_le (Nat.le_of_ble_eq_true rfl) hn) (by decide) ?_
                    refine lv_dup hx hb dX3_layOrder_91 rfl ?_
                    refine m_get S hG 13 13 4 rfl ec_13 cpX2 wm_233 dX3_layOrder_92 rfl (Nat.lt_of_lt_of_le (Nat.le_of_ble_eq_true rfl) hn) (by decide) ?_
                    refine lv_iconst (v := iI 1) hx hb dX3_layOrder_95 (by decide) ?_
                    refine gi_add hx hb dX3_layOrder_96 ?_
                    refine m_put S hG 13 13 4 rfl 4 ((S_38 13 4) + 1) ec_13 cpX2 wm_233 dX3_layOrder_97 (pf_13_4) (Nat.lt_of_lt_of_le (Nat.le_of_ble_eq_true rfl) hn) (by decide) (Nat.le_of_ble_eq_true rfl) rfl rfl rfl (fun H locs S_39 eS_39 hG => ?_)
                    replace hM := nx_at hM eS_39
                    clear eS_39
                    refine lv_lload_n hx hb dX3_layOrder_100 rfl (lv_at hl 3 rfl) ?_
                    refine lv_lconst (v := jJ 1) hx hb dX3_layOrder_101 (by decide) ?_
                    refine lv_iload hx hb dX3_layOrder_102 (lv_at hl 0 rfl) ?_
                    refine gj_shl hx hb dX3_layOrder_104 ?_
                    refine gj_or hx hb dX3_layOrder_105 ?_
                    refine gj_nm (fun x_40 ex_40 => ?_)
                    replace hM := nx_at hM ex_40
                    clear ex_40
                    refine lv_lstore_n (lv' := [(1, .long (jJ x_40)), (5, .int (iI v_17)), (3, .int (iI v_18)), (4, .int (iI v_2)), (0, .ref (b + 26))]) hx hb dX3_layOrder_106 rfl hl (by decide) rfl (fun ls hl => ?_)
                    refine lv_iconst (v := iI 1) hx hb dX3_layOrder_107 (by decide) ?_
                    refine lv_istore_n (lv' := [(3, .int (iI 1)), (1, .long (jJ x_40)), (5, .int (iI v_17)), (4, .int (iI v_2)), (0, .ref (b + 26))]) hx hb dX3_layOrder_108 rfl hl (by decide) rfl (fun ls hl => ?_)
                    refine lv_iinc (v := iI (v_17 - 1)) (lv' := [(5, .int (iI (v_17 - 1))), (3, .int (iI 1)), (1, .long (jJ x_40)), (4, .int (iI v_2)), (0, .ref (b + 26))]) hx hb dX3_layOrder_109 hl (k := 2) rfl ((iI_add v_17 (-1)).trans (congrArg iI (by omega))) (by decide) rfl (fun ls hl => ?_)
                    refine lv_goto (tgt := 44) hx hb dX3_layOrder_112 (by decide) ?_
                    exact ih_27 (v_17 - 1) 1 x_40 S_39 H locs ls hM hG (lv_sub hl [0, 1, 3, 2, 4] rfl)
          exact loop_26 FU x_16 0 v_4 S_5 H locs ls hc_24 hG (lv_sub hl [0, 1, 2, 3, 4] rfl)
  exact loop_9 FU 0 1 0 S_1 H locs ls hc_7 hG (lv_sub hl [0, 1, 2, 3] rfl)
def mX5_read_12_1_52  : Nat → Int → St → Option (St)
  | 0, _, _ => none
  | f + 1, v_14, S_15 => gd (inI v_14) <| if 400 ≤ v_14 then (some (S_15)) else (gd (inI (S_15 12 1)) <| if (S_15 12 1) = 0 then (gd (inI (S_15 12 7)) <| if (S_15 12 7) = 3 then (some (S_15)) else (bd1 (mX5_readLine S_15) fun S_42 => mX5_read_12_1_52 f (v_14 + 1) S_42)) else (some (S_15)))
def mX5_read_12_1 (S0 : St) (a2 : Int) : Option (Int × St) := nx (up S0 12 4 1) fun S_1 => nx (up S_1 12 5 a2) fun S_2 => nx (up S_2 12 6 0) fun S_3 => nx (up S_3 12 1 0) fun S_4 => nx (up S_4 12 2 (-1)) fun S_5 => bd1 (mX2_clear_13 S_5) fun S_7 => bd1 (mX5_advance S_7) fun S_9 => gd (inI (S_9 12 7)) <| if (S_9 12 7) = 3 then (some (0, S_9)) else (bd1 (mX5_readHead S_9) fun S_13 => bd1 (mX5_read_12_1_52 FU 0 S_13) fun S_16 => bd1 (gd (inI (S_16 12 1)) <| if (S_16 12 1) = 0 then (bd1 (mX3_study_26 S_16) fun S_29 => bd1 (mX5_refuseMeaningless S_29) fun S_31 => some (S_31)) else (some (S_16))) fun S_19 => gd (inI (S_19 12 1)) <| if (S_19 12 1) = 0 then (bd1 (mX3_layOrder_26 S_19) fun S_25 => some ((S_25 13 2), S_25)) else (some ((S_19 13 2), S_19)))
set_option maxHeartbeats 4000000 in
set_option maxRecDepth 100000 in
theorem vX5_read_12_1 (l : Launch) {D : va_G} {cy : Nat → ClassId} {b n : Nat} (hn : 102 ≤ n) {X : Nat → va_E} {S0 : St} (a2 : Int) {o1 : Int} {o2 : St} (hM : mX5_read_12_1 S0 a2 = some (o1, o2)) : gI l yX5_read cX5_read 4 (some .int) 48 0 0 D cy b n (enc b cy X S0) [.ref (b + 12), .ref (b + 1), .int (iI a2)] (fun r u => r = iI o1 ∧ u = (n, enc b cy X o2)) := by
  refine gI_of (by decide) (Nat.le_of_ble_eq_true rfl) ?_
  intro p e s m args below meth c S hr hlk hin hsz ls hl hG
  have hx := S.1
  have hb := S.2.1
  have hl : lv_has ls 4 [(0, .ref (b + 12)), (1, .ref (b + 1)), (2, .int (iI a2))] := hl
  replace hG : gW D cy b n s s.heap [] (enc b cy X S0) := hG
  obtain ⟨H, eH⟩ : ∃ H, H = s.heap := ⟨_, rfl⟩
  obtain ⟨locs, elocs⟩ : ∃ locs : List Loc, locs = [] := ⟨_, rfl⟩
  rw [← eH, ← elocs] at hG
  rw [← eH, ← elocs]
  clear eH elocs
  unfold mX5_read_12_1 at hM
  refine lv_aload_n hx hb dX5_read_0 rfl (lv_at hl 0 rfl) ?_
  refine lv_aload_n hx hb dX5_read_1 rfl (lv_at hl 1 rfl) ?_
  refine m_put S hG 12 12 4 rfl 4 1 ec_12 cpX5 wm_359 dX5_read_2 (fun g => pf_12_4 (b := b) (z := 1) g) (Nat.lt_of_lt_of_le (Nat.le_of_ble_eq_true rfl) hn) (by decide) (Nat.le_of_ble_eq_true rfl) rfl rfl rfl (fun H locs S_1 eS_1 hG => ?_)
  replace hM := nx_at hM eS_1
  clear eS_1
  refine lv_aload_n hx hb dX5_read_5 rfl (lv_at hl 0 rfl) ?_
  refine lv_iload_n hx hb dX5_read_6 rfl (lv_at hl 2 rfl) ?_
  refine m_put S hG 12 12 5 rfl 5 a2 ec_12 cpX5 wm_360 dX5_read_7 (pf_12_5) (Nat.lt_of_lt_of_le (Nat.le_of_ble_eq_true rfl) hn) (by decide) (Nat.le_of_ble_eq_true rfl) rfl rfl rfl (fun H locs S_2 eS_2 hG => ?_)
  replace hM := nx_at hM eS_2
  clear eS_2
  refine lv_aload_n hx hb dX5_read_10 rfl (lv_at hl 0 rfl) ?_
  refine lv_iconst (v := iI 0) hx hb dX5_read_11 (by decide) ?_
  refine m_put S hG 12 12 6 rfl 6 0 ec_12 cpX5 wm_361 dX5_read_12 (pf_12_6) (Nat.lt_of_lt_of_le (Nat.le_of_ble_eq_true rfl) hn) (by decide) (Nat.le_of_ble_eq_true rfl) rfl rfl rfl (fun H locs S_3 eS_3 hG => ?_)
  replace hM := nx_at hM eS_3
  clear eS_3
  refine lv_aload_n hx hb dX5_read_15 rfl (lv_at hl 0 rfl) ?_
  refine lv_iconst (v := iI 0) hx hb dX5_read_16 (by decide) ?_
  refine m_put S hG 12 12 1 rfl 1 0 ec_12 cpX5 wm_354 dX5_read_17 (pf_12_1) (Nat.lt_of_lt_of_le (Nat.le_of_ble_eq_true rfl) hn) (by decide) (Nat.le_of_ble_eq_true rfl) rfl rfl rfl (fun H locs S_4 eS_4 hG => ?_)
  replace hM := nx_at hM eS_4
  clear eS_4
  refine lv_aload_n hx hb dX5_read_20 rfl (lv_at hl 0 rfl) ?_
  refine lv_iconst (v := iI (-1)) hx hb dX5_read_21 (by decide) ?_
  refine m_put S hG 12 12 2 rfl 2 (-1) ec_12 cpX5 wm_356 dX5_read_22 (pf_12_2) (Nat.lt_of_lt_of_le (Nat.le_of_ble_eq_true rfl) hn) (by decide) (Nat.le_of_ble_eq_true rfl) rfl rfl rfl (fun H locs S_5 eS_5 hG => ?_)
  replace hM := nx_at hM eS_5
  clear eS_5
  refine lv_aload_n hx hb dX5_read_25 rfl (lv_at hl 0 rfl) ?_
  refine m_get S hG 12 12 0 rfl ec_12 cpX5 wm_352 dX5_read_26 rfl (Nat.lt_of_lt_of_le (Nat.le_of_ble_eq_true rfl) hn) (by decide) ?_
  obtain ⟨S_7, hc_6, hM⟩ := bd1_some hM
  refine g_vv (As := []) (rest := []) S hG hsz (vX2_clear_13 l hn  hc_6) wV_5_60 (ec_13 _) cpX2 (Nat.lt_of_lt_of_le (Nat.le_of_ble_eq_true rfl) hn) dX5_read_29 rfl hl.1 (ar := 0) (by decide +kernel) rfl ⟨Nat.le_of_ble_eq_true rfl, Nat.le_of_ble_eq_true rfl, Nat.le_of_ble_eq_true rfl, Nat.le_of_ble_eq_true rfl⟩ (Nat.le_of_ble_eq_true rfl) (fun uu H locs hp hG => ?_)
  obtain rfl := hp
  replace hG : gW D cy b n s H locs (enc b cy X S_7) := hG
  refine lv_aload_n hx hb dX5_read_32 rfl (lv_at hl 0 rfl) ?_
  obtain ⟨S_9, hc_8, hM⟩ := bd1_some hM
  refine g_vv (As := []) (rest := []) S hG hsz (vX5_advance l hn  hc_8) wV_5_65 (ec_12 _) cpX5 (Nat.lt_of_lt_of_le (Nat.le_of_ble_eq_true rfl) hn) dX5_read_33 rfl hl.1 (ar := 0) (by decide +kernel) rfl ⟨Nat.le_of_ble_eq_true rfl, Nat.le_of_ble_eq_true rfl, Nat.le_of_ble_eq_true rfl, Nat.le_of_ble_eq_true rfl⟩ (Nat.le_of_ble_eq_true rfl) (fun uu H locs hp hG => ?_)
  obtain rfl := hp
  replace hG : gW D cy b n s H locs (enc b cy X S_9) := hG
  refine lv_aload_n hx hb dX5_read_36 rfl (lv_at hl 0 rfl) ?_
  refine m_get S hG 12 12 7 rfl ec_12 cpX5 wm_362 dX5_read_37 rfl (Nat.lt_of_lt_of_le (Nat.le_of_ble_eq_true rfl) hn) (by decide) ?_
  refine lv_iconst (v := iI 3) hx hb dX5_read_40 (by decide) ?_
  obtain ⟨hg_10, hM⟩ := gd_some hM
  refine gi_icmp_ne (tgt := 46) hx hb dX5_read_41 (by decide) hg_10 (by decide) (fun c_11 => ?_) (fun c_11 => ?_)
  · replace hM := ifn hM c_11
    refine lv_aload_n hx hb dX5_read_46 rfl (lv_at hl 0 rfl) ?_
    obtain ⟨S_13, hc_12, hM⟩ := bd1_some hM
    refine g_vv (As := []) (rest := []) S hG hsz (vX5_readHead l hn  hc_12) wV_5_68 (ec_12 _) cpX5 (Nat.lt_of_lt_of_le (Nat.le_of_ble_eq_true rfl) hn) dX5_read_47 rfl hl.1 (ar := 0) (by decide +kernel) rfl ⟨Nat.le_of_ble_eq_true rfl, Nat.le_of_ble_eq_true rfl, Nat.le_of_ble_eq_true rfl, Nat.le_of_ble_eq_true rfl⟩ (Nat.le_of_ble_eq_true rfl) (fun uu H locs hp hG => ?_)
    obtain rfl := hp
    replace hG : gW D cy b n s H locs (enc b cy X S_13) := hG
    refine lv_iconst (v := iI 0) hx hb dX5_read_50 (by decide) ?_
    refine lv_istore_n (lv' := [(3, .int (iI 0)), (0, .ref (b + 12)), (1, .ref (b + 1)), (2, .int (iI a2))]) hx hb dX5_read_51 rfl hl (by decide) rfl (fun ls hl => ?_)
    obtain ⟨S_16, hc_17, hM⟩ := bd1_some hM
    have hK_18 : ∀ (H : Heap) (locs : List Loc) (ls : Array Slot), gW D cy b n s H locs (enc b cy X S_16) → lv_has ls 4 [(0, .ref (b + 12))] → W p l e (gRm 48 0 0) s m args below meth c H locs 0 0 (gQI D cy b s args below 0 0 (fun r u => r = iI o1 ∧ u = (n, enc b cy X o2))) (F0 m 84 ls []) := by
      intro H locs ls hG hl
      refine lv_aload_n hx hb dX5_read_84 rfl (lv_at hl 0 rfl) ?_
      refine m_get S hG 12 12 1 rfl ec_12 cpX5 wm_354 dX5_read_85 rfl (Nat.lt_of_lt_of_le (Nat.le_of_ble_eq_true rfl) hn) (by decide) ?_
      obtain ⟨S_19, hc_20, hM⟩ := bd1_some hM
      have hK_21 : ∀ (H : Heap) (locs : List Loc) (ls : Array Slot), gW D cy b n s H locs (enc b cy X S_19) → lv_has ls 4 [(0, .ref (b + 12))] → W p l e (gRm 48 0 0) s m args below meth c H locs 0 0 (gQI D cy b s args below 0 0 (fun r u => r = iI o1 ∧ u = (n, enc b cy X o2))) (F0 m 102 ls []) := by
        intro H locs ls hG hl
        refine lv_aload_n hx hb dX5_read_102 rfl (lv_at hl 0 rfl) ?_
        refine m_get S hG 12 12 1 rfl ec_12 cpX5 wm_354 dX5_read_103 rfl (Nat.lt_of_lt_of_le (Nat.le_of_ble_eq_true rfl) hn) (by decide) ?_
        obtain ⟨hg_22, hM⟩ := gd_some hM
        refine gi_if_ne (tgt := 116) hx hb dX5_read_106 (by decide) hg_22 (fun c_23 => ?_) (fun c_23 => ?_)
        · replace hM := ifn hM c_23
          refine lv_aload_n hx hb dX5_read_116 rfl (lv_at hl 0 rfl) ?_
          refine m_get S hG 12 12 0 rfl ec_12 cpX5 wm_352 dX5_read_117 rfl (Nat.lt_of_lt_of_le (Nat.le_of_ble_eq_true rfl) hn) (by decide) ?_
          refine m_get S hG 13 13 2 rfl ec_13 cpX2 wm_224 dX5_read_120 rfl (Nat.lt_of_lt_of_le (Nat.le_of_ble_eq_true rfl) hn) (by decide) ?_
          cases hM
          exact g_iret S hr hlk hG hsz dX5_read_123 ⟨Nat.le_of_ble_eq_true rfl, Nat.le_of_ble_eq_true rfl⟩ ⟨rfl, rfl⟩
        · replace hM := ifp hM c_23
          refine lv_aload_n hx hb dX5_read_109 rfl (lv_at hl 0 rfl) ?_
          refine m_get S hG 12 12 3 rfl ec_12 cpX5 wm_358 dX5_read_110 rfl (Nat.lt_of_lt_of_le (Nat.le_of_ble_eq_true rfl) hn) (by decide) ?_
          obtain ⟨S_25, hc_24, hM⟩ := bd1_some hM
          refine g_vv (As := []) (rest := []) S hG hsz (vX3_layOrder_26 l hn  hc_24) wV_5_80 (ec_26 _) cpX3 (Nat.lt_of_lt_of_le (Nat.le_of_ble_eq_true rfl) hn) dX5_read_113 rfl hl.1 (ar := 0) (by decide +kernel) rfl ⟨Nat.le_of_ble_eq_true rfl, Nat.le_of_ble_eq_true rfl, Nat.le_of_ble_eq_true rfl, Nat.le_of_ble_eq_true rfl⟩ (Nat.le_of_ble_eq_true rfl) (fun uu H locs hp hG => ?_)
          obtain rfl := hp
          replace hG : gW D cy b n s H locs (enc b cy X S_25) := hG
          refine lv_aload_n hx hb dX5_read_116 rfl (lv_at hl 0 rfl) ?_
          refine m_get S hG 12 12 0 rfl ec_12 cpX5 wm_352 dX5_read_117 rfl (Nat.lt_of_lt_of_le (Nat.le_of_ble_eq_true rfl) hn) (by decide) ?_
          refine m_get S hG 13 13 2 rfl ec_13 cpX2 wm_224 dX5_read_120 rfl (Nat.lt_of_lt_of_le (Nat.le_of_ble_eq_true rfl) hn) (by decide) ?_
          cases hM
          exact g_iret S hr hlk hG hsz dX5_read_123 ⟨Nat.le_of_ble_eq_true rfl, Nat.le_of_ble_eq_true rfl⟩ ⟨rfl, rfl⟩
      clear hM
      replace hM := hc_20
      obtain ⟨hg_26, hM⟩ := gd_some hM
      refine gi_if_ne (tgt := 102) hx hb dX5_read_88 (by decide) hg_26 (fun c_27 => ?_) (fun c_27 => ?_)
      · replace hM := ifn hM c_27
        cases hM
        exact hK_21 H locs ls hG (lv_sub hl [0] rfl)
      · replace hM := ifp hM c_27
        refine lv_aload_n hx hb dX5_read_91 rfl (lv_at hl 0 rfl) ?_
        refine m_get S hG 12 12 3 rfl ec_12 cpX5 wm_358 dX5_read_92 rfl (Nat.lt_of_lt_of_le (Nat.le_of_ble_eq_true rfl) hn) (by decide) ?_
        obtain ⟨S_29, hc_28, hM⟩ := bd1_some hM
        refine g_vv (As := []) (rest := []) S hG hsz (vX3_study_26 l hn  hc_28) wV_5_74 (ec_26 _) cpX3 (Nat.lt_of_lt_of_le (Nat.le_of_ble_eq_true rfl) hn) dX5_read_95 rfl hl.1 (ar := 0) (by decide +kernel) rfl ⟨Nat.le_of_ble_eq_true rfl, Nat.le_of_ble_eq_true rfl, Nat.le_of_ble_eq_true rfl, Nat.le_of_ble_eq_true rfl⟩ (Nat.le_of_ble_eq_true rfl) (fun uu H locs hp hG => ?_)
        obtain rfl := hp
        replace hG : gW D cy b n s H locs (enc b cy X S_29) := hG
        refine lv_aload_n hx hb dX5_read_98 rfl (lv_at hl 0 rfl) ?_
        obtain ⟨S_31, hc_30, hM⟩ := bd1_some hM
        refine g_vv (As := []) (rest := []) S hG hsz (vX5_refuseMeaningless l hn  hc_30) wV_5_77 (ec_12 _) cpX5 (Nat.lt_of_lt_of_le (Nat.le_of_ble_eq_true rfl) hn) dX5_read_99 rfl hl.1 (ar := 0) (by decide +kernel) rfl ⟨Nat.le_of_ble_eq_true rfl, Nat.le_of_ble_eq_true rfl, Nat.le_of_ble_eq_true rfl, Nat.le_of_ble_eq_true rfl⟩ (Nat.le_of_ble_eq_true rfl) (fun uu H locs hp hG => ?_)
        obtain rfl := hp
        replace hG : gW D cy b n s H locs (enc b cy X S_31) := hG
        cases hM
        exact hK_21 H locs ls hG (lv_sub hl [0] rfl)
    have loop_32 : ∀ (f : Nat) (v_14 : Int) (S_15 : St) (H : Heap) (locs : List Loc) (ls : Array Slot), mX5_read_12_1_52 f v_14 S_15 = some S_16 → gW D cy b n s H locs (enc b cy X S_15) → lv_has ls 4 [(3, .int (iI v_14)), (0, .ref (b + 12))] → W p l e (gRm 48 0 0) s m args below meth c H locs 0 0 (gQI D cy b s args below 0 0 (fun r u => r = iI o1 ∧ u = (n, enc b cy X o2))) (F0 m 52 ls []) := by
      clear hM
      intro f
      induction f with
      | zero => intro v_14 S_15 H locs ls hM; rw [mX5_read_12_1_52] at hM; cases hM
      | succ f_34 ih_33 =>
        intro v_14 S_15 H locs ls hM hG hl
        rw [mX5_read_12_1_52] at hM
        refine lv_iload_n hx hb dX5_read_52 rfl (lv_at hl 0 rfl) ?_
        refine lv_sipush (v := iI 400) hx hb dX5_read_53 (by decide) ?_
        obtain ⟨hg_35, hM⟩ := gd_some hM
        refine gi_icmp_ge (tgt := 84) hx hb dX5_read_56 (by decide) hg_35 (by decide) (fun c_36 => ?_) (fun c_36 => ?_)
        · replace hM := ifp hM c_36
          cases hM
          exact hK_18 H locs ls hG (lv_sub hl [1] rfl)
        · replace hM := ifn hM c_36
          refine lv_aload_n hx hb dX5_read_59 rfl (lv_at hl 1 rfl) ?_
          refine m_get S hG 12 12 1 rfl ec_12 cpX5 wm_354 dX5_read_60 rfl (Nat.lt_of_lt_of_le (Nat.le_of_ble_eq_true rfl) hn) (by decide) ?_
          obtain ⟨hg_37, hM⟩ := gd_some hM
          refine gi_if_ne (tgt := 84) hx hb dX5_read_63 (by decide) hg_37 (fun c_38 => ?_) (fun c_38 => ?_)
          · replace hM := ifn hM c_38
            cases hM
            exact hK_18 H locs ls hG (lv_sub hl [1] rfl)
          · replace hM := ifp hM c_38
            refine lv_aload_n hx hb dX5_read_66 rfl (lv_at hl 1 rfl) ?_
            refine m_get S hG 12 12 7 rfl ec_12 cpX5 wm_362 dX5_read_67 rfl (Nat.lt_of_lt_of_le (Nat.le_of_ble_eq_true rfl) hn) (by decide) ?_
            refine lv_iconst (v := iI 3) hx hb dX5_read_70 (by decide) ?_
            obtain ⟨hg_39, hM⟩ := gd_some hM
            refine gi_icmp_eq (tgt := 84) hx hb dX5_read_71 (by decide) hg_39 (by decide) (fun c_40 => ?_) (fun c_40 => ?_)
            · replace hM := ifp hM c_40
              cases hM
              exact hK_18 H locs ls hG (lv_sub hl [1] rfl)
            · replace hM := ifn hM c_40
              refine lv_aload_n hx hb dX5_read_74 rfl (lv_at hl 1 rfl) ?_
              obtain ⟨S_42, hc_41, hM⟩ := bd1_some hM
              refine g_vv (As := []) (rest := []) S hG hsz (vX5_readLine l hn  hc_41) wV_5_71 (ec_12 _) cpX5 (Nat.lt_of_lt_of_le (Nat.le_of_ble_eq_true rfl) hn) dX5_read_75 rfl hl.1 (ar := 0) (by decide +kernel) rfl ⟨Nat.le_of_ble_eq_true rfl, Nat.le_of_ble_eq_true rfl, Nat.le_of_ble_eq_true rfl, Nat.le_of_ble_eq_true rfl⟩ (Nat.le_of_ble_eq_true rfl) (fun uu H locs hp hG => ?_)
              obtain rfl := hp
              replace hG : gW D cy b n s H locs (enc b cy X S_42) := hG
              refine lv_iinc (v := iI (v_14 + 1)) (lv' := [(3, .int (iI (v_14 + 1))), (0, .ref (b + 12))]) hx hb dX5_read_78 hl (k := 0) rfl ((iI_add v_14 (1)).trans (congrArg iI (by omega))) (by decide) rfl (fun ls hl => ?_)
              refine lv_goto (tgt := 52) hx hb dX5_read_81 (by decide) ?_
              exact ih_33 (v_14 + 1) S_42 H locs ls hM hG (lv_sub hl [0, 1] rfl)
    exact loop_32 FU 0 S_13 H locs ls hc_17 hG (lv_sub hl [0, 1] rfl)
  · replace hM := ifp hM c_11
    refine lv_iconst (v := iI 0) hx hb dX5_read_44 (by decide) ?_
    cases hM
    exact g_iret S hr hlk hG hsz dX5_read_45 ⟨Nat.le_of_ble_eq_true rfl, Nat.le_of_ble_eq_true rfl⟩ ⟨rfl, rfl⟩
