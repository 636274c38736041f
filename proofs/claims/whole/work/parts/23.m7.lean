theorem dX12_readsMany_0 : decode cX12_readsMany 0 = .ok (.aload_n 0, 1) := by decide +kernel
theorem dX12_readsMany_1 : decode cX12_readsMany 1 = .ok (.getfield 15, 3) := by decide +kernel
theorem dX12_readsMany_4 : decode cX12_readsMany 4 = .ok (.bipush 24, 2) := by decide +kernel
theorem dX12_readsMany_6 : decode cX12_readsMany 6 = .ok (.iload_n 1, 1) := by decide +kernel
theorem dX12_readsMany_7 : decode cX12_readsMany 7 = .ok (.iadd, 1) := by decide +kernel
theorem dX12_readsMany_8 : decode cX12_readsMany 8 = .ok (.iaload, 1) := by decide +kernel
theorem dX12_readsMany_9 : decode cX12_readsMany 9 = .ok (.istore_n 2, 1) := by decide +kernel
theorem dX12_readsMany_10 : decode cX12_readsMany 10 = .ok (.aload_n 0, 1) := by decide +kernel
theorem dX12_readsMany_11 : decode cX12_readsMany 11 = .ok (.invokevirtual 503, 3) := by decide +kernel
theorem wm_2298 : (Jvm.Cond.methodLink "GrownKindsModel" (503 : Nat) ({ cls := "GrownKindsModel", name := "here", desc := "()I" } : Jvm.MethodName)) ∈ gT := gT_in (List.mem_of_getElem? (i := 2298) (by decide +kernel)) (by decide +kernel)
theorem wm_2300 : (Jvm.Cond.instanceMethod ({ cls := "GrownKindsModel", name := "here", desc := "()I" } : Jvm.MethodName)) ∈ gT := gT_in (List.mem_of_getElem? (i := 2300) (by decide +kernel)) (by decide +kernel)
theorem wm_158 : Cond.selects "GrownKindsModel" ⟨"GrownKindsModel", "here", "()I"⟩ ⟨"GrownKindsModel", "here", "()I"⟩ ∈ gT := gT_in (List.mem_of_getElem? (i := 158) (by decide +kernel)) (by decide +kernel)
theorem wm_2301 : (Jvm.Cond.code ({ cls := "GrownKindsModel", name := "here", desc := "()I" } : Jvm.MethodName) prog_14_method_114_code (1 : Nat) (Option.some Jvm.ClassFile.FieldType.int)) ∈ gT := gT_in (List.mem_of_getElem? (i := 2301) (by decide +kernel)) (by decide +kernel)
theorem dX12_readsMany_14 : decode cX12_readsMany 14 = .ok (.ldc_w 443, 3) := by decide +kernel
theorem dX12_readsMany_17 : decode cX12_readsMany 17 = .ok (.iload_n 2, 1) := by decide +kernel
theorem dX12_readsMany_18 : decode cX12_readsMany 18 = .ok (.iconst 3, 1) := by decide +kernel
theorem dX12_readsMany_19 : decode cX12_readsMany 19 = .ok (.isub, 1) := by decide +kernel
theorem dX12_readsMany_20 : decode cX12_readsMany 20 = .ok (.invokevirtual 157, 3) := by decide +kernel
theorem dX12_readsMany_23 : decode cX12_readsMany 23 = .ok (.if_icmp .eq 5, 3) := by decide +kernel
theorem dX12_readsMany_28 : decode cX12_readsMany 28 = .ok (.aload_n 0, 1) := by decide +kernel
theorem dX12_readsMany_29 : decode cX12_readsMany 29 = .ok (.dup, 1) := by decide +kernel
theorem dX12_readsMany_30 : decode cX12_readsMany 30 = .ok (.getfield 485, 3) := by decide +kernel
theorem dX12_readsMany_33 : decode cX12_readsMany 33 = .ok (.iconst 1, 1) := by decide +kernel
theorem dX12_readsMany_34 : decode cX12_readsMany 34 = .ok (.iadd, 1) := by decide +kernel
theorem dX12_readsMany_35 : decode cX12_readsMany 35 = .ok (.putfield 485, 3) := by decide +kernel
theorem dX12_readsMany_38 : decode cX12_readsMany 38 = .ok (.ldc_w 445, 3) := by decide +kernel
theorem dX12_readsMany_41 : decode cX12_readsMany 41 = .ok (.iload_n 2, 1) := by decide +kernel
theorem dX12_readsMany_42 : decode cX12_readsMany 42 = .ok (.iconst 3, 1) := by decide +kernel
theorem dX12_readsMany_43 : decode cX12_readsMany 43 = .ok (.isub, 1) := by decide +kernel
theorem dX12_readsMany_44 : decode cX12_readsMany 44 = .ok (.invokevirtual 157, 3) := by decide +kernel
theorem dX12_readsMany_47 : decode cX12_readsMany 47 = .ok (.istore_n 3, 1) := by decide +kernel
theorem dX12_readsMany_48 : decode cX12_readsMany 48 = .ok (.aload_n 0, 1) := by decide +kernel
theorem dX12_readsMany_49 : decode cX12_readsMany 49 = .ok (.iload_n 2, 1) := by decide +kernel
theorem dX12_readsMany_50 : decode cX12_readsMany 50 = .ok (.iconst 0, 1) := by decide +kernel
theorem dX12_readsMany_51 : decode cX12_readsMany 51 = .ok (.iconst 0, 1) := by decide +kernel
theorem dX12_readsMany_52 : decode cX12_readsMany 52 = .ok (.invokevirtual 506, 3) := by decide +kernel
theorem wm_2302 : (Jvm.Cond.methodLink "GrownKindsModel" (506 : Nat) ({ cls := "GrownKindsModel", name := "node", desc := "(III)I" } : Jvm.MethodName)) ∈ gT := gT_in (List.mem_of_getElem? (i := 2302) (by decide +kernel)) (by decide +kernel)
theorem wm_2304 : (Jvm.Cond.instanceMethod ({ cls := "GrownKindsModel", name := "node", desc := "(III)I" } : Jvm.MethodName)) ∈ gT := gT_in (List.mem_of_getElem? (i := 2304) (by decide +kernel)) (by decide +kernel)
theorem wm_159 : Cond.selects "GrownKindsModel" ⟨"GrownKindsModel", "node", "(III)I"⟩ ⟨"GrownKindsModel", "node", "(III)I"⟩ ∈ gT := gT_in (List.mem_of_getElem? (i := 159) (by decide +kernel)) (by decide +kernel)
theorem wm_2305 : (Jvm.Cond.code ({ cls := "GrownKindsModel", name := "node", desc := "(III)I" } : Jvm.MethodName) prog_14_method_113_code (4 : Nat) (Option.some Jvm.ClassFile.FieldType.int)) ∈ gT := gT_in (List.mem_of_getElem? (i := 2305) (by decide +kernel)) (by decide +kernel)
theorem dX12_readsMany_55 : decode cX12_readsMany 55 = .ok (.istore 4, 2) := by decide +kernel
theorem dX12_readsMany_57 : decode cX12_readsMany 57 = .ok (.iconst (-1), 1) := by decide +kernel
theorem dX12_readsMany_58 : decode cX12_readsMany 58 = .ok (.istore 5, 2) := by decide +kernel
theorem dX12_readsMany_60 : decode cX12_readsMany 60 = .ok (.aload_n 0, 1) := by decide +kernel
theorem dX12_readsMany_61 : decode cX12_readsMany 61 = .ok (.invokevirtual 503, 3) := by decide +kernel
theorem dX12_readsMany_64 : decode cX12_readsMany 64 = .ok (.iload_n 3, 1) := by decide +kernel
theorem dX12_readsMany_65 : decode cX12_readsMany 65 = .ok (.if_icmp .eq 85, 3) := by decide +kernel
theorem dX12_readsMany_68 : decode cX12_readsMany 68 = .ok (.aload_n 0, 1) := by decide +kernel
theorem dX12_readsMany_69 : decode cX12_readsMany 69 = .ok (.invokevirtual 503, 3) := by decide +kernel
theorem dX12_readsMany_72 : decode cX12_readsMany 72 = .ok (.ifCond .ge 7, 3) := by decide +kernel
theorem dX12_readsMany_79 : decode cX12_readsMany 79 = .ok (.aload_n 0, 1) := by decide +kernel
theorem dX12_readsMany_80 : decode cX12_readsMany 80 = .ok (.aload_n 0, 1) := by decide +kernel
theorem dX12_readsMany_81 : decode cX12_readsMany 81 = .ok (.getfield 15, 3) := by decide +kernel
theorem dX12_readsMany_84 : decode cX12_readsMany 84 = .ok (.bipush 72, 2) := by decide +kernel
theorem dX12_readsMany_86 : decode cX12_readsMany 86 = .ok (.iload_n 1, 1) := by decide +kernel
theorem dX12_readsMany_87 : decode cX12_readsMany 87 = .ok (.iadd, 1) := by decide +kernel
theorem dX12_readsMany_88 : decode cX12_readsMany 88 = .ok (.iaload, 1) := by decide +kernel
theorem dX12_readsMany_89 : decode cX12_readsMany 89 = .ok (.invokevirtual 509, 3) := by decide +kernel
theorem wm_2306 : (Jvm.Cond.methodLink "GrownKindsModel" (509 : Nat) ({ cls := "GrownKindsModel", name := "readsThing", desc := "(I)I" } : Jvm.MethodName)) ∈ gT := gT_in (List.mem_of_getElem? (i := 2306) (by decide +kernel)) (by decide +kernel)
theorem wm_2308 : (Jvm.Cond.instanceMethod ({ cls := "GrownKindsModel", name := "readsThing", desc := "(I)I" } : Jvm.MethodName)) ∈ gT := gT_in (List.mem_of_getElem? (i := 2308) (by decide +kernel)) (by decide +kernel)
theorem wm_160 : Cond.selects "GrownKindsModel" ⟨"GrownKindsModel", "readsThing", "(I)I"⟩ ⟨"GrownKindsModel", "readsThing", "(I)I"⟩ ∈ gT := gT_in (List.mem_of_getElem? (i := 160) (by decide +kernel)) (by decide +kernel)
theorem wm_2309 : (Jvm.Cond.code ({ cls := "GrownKindsModel", name := "readsThing", desc := "(I)I" } : Jvm.MethodName) prog_14_method_117_code (4 : Nat) (Option.some Jvm.ClassFile.FieldType.int)) ∈ gT := gT_in (List.mem_of_getElem? (i := 2309) (by decide +kernel)) (by decide +kernel)
theorem dX12_readsMany_75 : decode cX12_readsMany 75 = .ok (.iconst (-1), 1) := by decide +kernel
theorem dX12_readsMany_76 : decode cX12_readsMany 76 = .ok (.goto 16, 3) := by decide +kernel
theorem dX12_readsMany_92 : decode cX12_readsMany 92 = .ok (.istore 6, 2) := by decide +kernel
theorem dX12_readsMany_94 : decode cX12_readsMany 94 = .ok (.iload 6, 2) := by decide +kernel
theorem dX12_readsMany_96 : decode cX12_readsMany 96 = .ok (.ifCond .lt 19, 3) := by decide +kernel
theorem dX12_readsMany_99 : decode cX12_readsMany 99 = .ok (.iload_n 2, 1) := by decide +kernel
theorem dX12_readsMany_100 : decode cX12_readsMany 100 = .ok (.iconst 5, 1) := by decide +kernel
theorem dX12_readsMany_101 : decode cX12_readsMany 101 = .ok (.if_icmp .ne 16, 3) := by decide +kernel
theorem dX12_readsMany_104 : decode cX12_readsMany 104 = .ok (.aload_n 0, 1) := by decide +kernel
theorem dX12_readsMany_105 : decode cX12_readsMany 105 = .ok (.iload 4, 2) := by decide +kernel
theorem dX12_readsMany_107 : decode cX12_readsMany 107 = .ok (.iload 6, 2) := by decide +kernel
theorem dX12_readsMany_109 : decode cX12_readsMany 109 = .ok (.invokevirtual 516, 3) := by decide +kernel
theorem wm_2322 : (Jvm.Cond.methodLink "GrownKindsModel" (516 : Nat) ({ cls := "GrownKindsModel", name := "isAmong", desc := "(II)Z" } : Jvm.MethodName)) ∈ gT := gT_in (List.mem_of_getElem? (i := 2322) (by decide +kernel)) (by decide +kernel)
theorem wm_2324 : (Jvm.Cond.instanceMethod ({ cls := "GrownKindsModel", name := "isAmong", desc := "(II)Z" } : Jvm.MethodName)) ∈ gT := gT_in (List.mem_of_getElem? (i := 2324) (by decide +kernel)) (by decide +kernel)
theorem wm_164 : Cond.selects "GrownKindsModel" ⟨"GrownKindsModel", "isAmong", "(II)Z"⟩ ⟨"GrownKindsModel", "isAmong", "(II)Z"⟩ ∈ gT := gT_in (List.mem_of_getElem? (i := 164) (by decide +kernel)) (by decide +kernel)
theorem wm_2325 : (Jvm.Cond.code ({ cls := "GrownKindsModel", name := "isAmong", desc := "(II)Z" } : Jvm.MethodName) prog_14_method_121_code (4 : Nat) (Option.some Jvm.ClassFile.FieldType.boolean)) ∈ gT := gT_in (List.mem_of_getElem? (i := 2325) (by decide +kernel)) (by decide +kernel)
theorem dX12_readsMany_112 : decode cX12_readsMany 112 = .ok (.ifCond .eq 5, 3) := by decide +kernel
theorem dX12_readsMany_117 : decode cX12_readsMany 117 = .ok (.aload_n 0, 1) := by decide +kernel
theorem dX12_readsMany_118 : decode cX12_readsMany 118 = .ok (.iload 4, 2) := by decide +kernel
theorem dX12_readsMany_120 : decode cX12_readsMany 120 = .ok (.iload 5, 2) := by decide +kernel
theorem dX12_readsMany_122 : decode cX12_readsMany 122 = .ok (.iload 6, 2) := by decide +kernel
theorem dX12_readsMany_124 : decode cX12_readsMany 124 = .ok (.aload_n 0, 1) := by decide +kernel
theorem dX12_readsMany_125 : decode cX12_readsMany 125 = .ok (.getfield 73, 3) := by decide +kernel
theorem dX12_readsMany_128 : decode cX12_readsMany 128 = .ok (.iload 6, 2) := by decide +kernel
theorem dX12_readsMany_130 : decode cX12_readsMany 130 = .ok (.iaload, 1) := by decide +kernel
theorem dX12_readsMany_131 : decode cX12_readsMany 131 = .ok (.invokevirtual 512, 3) := by decide +kernel
theorem wm_2338 : (Jvm.Cond.methodLink "GrownKindsModel" (512 : Nat) ({ cls := "GrownKindsModel", name := "comesBehind", desc := "(IIII)I" } : Jvm.MethodName)) ∈ gT := gT_in (List.mem_of_getElem? (i := 2338) (by decide +kernel)) (by decide +kernel)
theorem wm_2340 : (Jvm.Cond.instanceMethod ({ cls := "GrownKindsModel", name := "comesBehind", desc := "(IIII)I" } : Jvm.MethodName)) ∈ gT := gT_in (List.mem_of_getElem? (i := 2340) (by decide +kernel)) (by decide +kernel)
theorem wm_168 : Cond.selects "GrownKindsModel" ⟨"GrownKindsModel", "comesBehind", "(IIII)I"⟩ ⟨"GrownKindsModel", "comesBehind", "(IIII)I"⟩ ∈ gT := gT_in (List.mem_of_getElem? (i := 168) (by decide +kernel)) (by decide +kernel)
theorem wm_2341 : (Jvm.Cond.code ({ cls := "GrownKindsModel", name := "comesBehind", desc := "(IIII)I" } : Jvm.MethodName) prog_14_method_119_code (5 : Nat) (Option.some Jvm.ClassFile.FieldType.int)) ∈ gT := gT_in (List.mem_of_getElem? (i := 2341) (by decide +kernel)) (by decide +kernel)
theorem dX12_readsMany_134 : decode cX12_readsMany 134 = .ok (.istore 5, 2) := by decide +kernel
theorem dX12_readsMany_136 : decode cX12_readsMany 136 = .ok (.aload_n 0, 1) := by decide +kernel
theorem dX12_readsMany_137 : decode cX12_readsMany 137 = .ok (.getfield 70, 3) := by decide +kernel
theorem dX12_readsMany_140 : decode cX12_readsMany 140 = .ok (.iload 4, 2) := by decide +kernel
theorem dX12_readsMany_142 : decode cX12_readsMany 142 = .ok (.dup2, 1) := by decide +kernel
theorem dX12_readsMany_143 : decode cX12_readsMany 143 = .ok (.iaload, 1) := by decide +kernel
theorem dX12_readsMany_144 : decode cX12_readsMany 144 = .ok (.iconst 1, 1) := by decide +kernel
theorem dX12_readsMany_145 : decode cX12_readsMany 145 = .ok (.iadd, 1) := by decide +kernel
theorem dX12_readsMany_146 : decode cX12_readsMany 146 = .ok (.iastore, 1) := by decide +kernel
theorem dX12_readsMany_147 : decode cX12_readsMany 147 = .ok (.goto (-87), 3) := by decide +kernel
theorem dX12_readsMany_115 : decode cX12_readsMany 115 = .ok (.iconst (-1), 1) := by decide +kernel
theorem dX12_readsMany_116 : decode cX12_readsMany 116 = .ok (.ireturn, 1) := by decide +kernel
theorem dX12_readsMany_150 : decode cX12_readsMany 150 = .ok (.aload_n 0, 1) := by decide +kernel
theorem dX12_readsMany_151 : decode cX12_readsMany 151 = .ok (.dup, 1) := by decide +kernel
theorem dX12_readsMany_152 : decode cX12_readsMany 152 = .ok (.getfield 485, 3) := by decide +kernel
theorem dX12_readsMany_155 : decode cX12_readsMany 155 = .ok (.iconst 1, 1) := by decide +kernel
theorem dX12_readsMany_156 : decode cX12_readsMany 156 = .ok (.iadd, 1) := by decide +kernel
theorem dX12_readsMany_157 : decode cX12_readsMany 157 = .ok (.putfield 485, 3) := by decide +kernel
theorem dX12_readsMany_160 : decode cX12_readsMany 160 = .ok (.aload_n 0, 1) := by decide +kernel
theorem dX12_readsMany_161 : decode cX12_readsMany 161 = .ok (.getfield 15, 3) := by decide +kernel
theorem dX12_readsMany_164 : decode cX12_readsMany 164 = .ok (.bipush 48, 2) := by decide +kernel
theorem dX12_readsMany_166 : decode cX12_readsMany 166 = .ok (.iload_n 1, 1) := by decide +kernel
theorem dX12_readsMany_167 : decode cX12_readsMany 167 = .ok (.iadd, 1) := by decide +kernel
theorem dX12_readsMany_168 : decode cX12_readsMany 168 = .ok (.iaload, 1) := by decide +kernel
theorem dX12_readsMany_169 : decode cX12_readsMany 169 = .ok (.istore 6, 2) := by decide +kernel
theorem dX12_readsMany_171 : decode cX12_readsMany 171 = .ok (.iload 6, 2) := by decide +kernel
theorem dX12_readsMany_173 : decode cX12_readsMany 173 = .ok (.ifCond .le 15, 3) := by decide +kernel
theorem dX12_readsMany_188 : decode cX12_readsMany 188 = .ok (.iload_n 2, 1) := by decide +kernel
theorem dX12_readsMany_189 : decode cX12_readsMany 189 = .ok (.bipush 6, 2) := by decide +kernel
theorem dX12_readsMany_191 : decode cX12_readsMany 191 = .ok (.if_icmp .ne 17, 3) := by decide +kernel
theorem dX12_readsMany_208 : decode cX12_readsMany 208 = .ok (.iload 4, 2) := by decide +kernel
theorem dX12_readsMany_210 : decode cX12_readsMany 210 = .ok (.ireturn, 1) := by decide +kernel
theorem dX12_readsMany_194 : decode cX12_readsMany 194 = .ok (.aload_n 0, 1) := by decide +kernel
theorem dX12_readsMany_195 : decode cX12_readsMany 195 = .ok (.getfield 70, 3) := by decide +kernel
theorem dX12_readsMany_198 : decode cX12_readsMany 198 = .ok (.iload 4, 2) := by decide +kernel
theorem dX12_readsMany_200 : decode cX12_readsMany 200 = .ok (.iaload, 1) := by decide +kernel
theorem dX12_readsMany_201 : decode cX12_readsMany 201 = .ok (.ifCond .ne 7, 3) := by decide +kernel
theorem dX12_readsMany_204 : decode cX12_readsMany 204 = .ok (.iconst (-1), 1) := by decide +kernel
theorem dX12_readsMany_205 : decode cX12_readsMany 205 = .ok (.goto 5, 3) := by decide +kernel
theorem dX12_readsMany_176 : decode cX12_readsMany 176 = .ok (.aload_n 0, 1) := by decide +kernel
theorem dX12_readsMany_177 : decode cX12_readsMany 177 = .ok (.getfield 70, 3) := by decide +kernel
theorem dX12_readsMany_180 : decode cX12_readsMany 180 = .ok (.iload 4, 2) := by decide +kernel
theorem dX12_readsMany_182 : decode cX12_readsMany 182 = .ok (.iaload, 1) := by decide +kernel
theorem dX12_readsMany_183 : decode cX12_readsMany 183 = .ok (.iload 6, 2) := by decide +kernel
theorem dX12_readsMany_185 : decode cX12_readsMany 185 = .ok (.if_icmp .ne 19, 3) := by decide +kernel
theorem dX12_readsMany_26 : decode cX12_readsMany 26 = .ok (.iconst (-1), 1) := by decide +kernel
theorem dX12_readsMany_27 : decode cX12_readsMany 27 = .ok (.ireturn, 1) := by decide +kernel
theorem dX12_readsTerm_0 : decode cX12_readsTerm 0 = .ok (.iconst 0, 1) := by decide +kernel
theorem dX12_readsTerm_1 : decode cX12_readsTerm 1 = .ok (.istore_n 2, 1) := by decide +kernel
theorem dX12_readsTerm_2 : decode cX12_readsTerm 2 = .ok (.aload_n 0, 1) := by decide +kernel
theorem dX12_readsTerm_3 : decode cX12_readsTerm 3 = .ok (.getfield 15, 3) := by decide +kernel
theorem dX12_readsTerm_6 : decode cX12_readsTerm 6 = .ok (.sipush 198, 3) := by decide +kernel
theorem dX12_readsTerm_9 : decode cX12_readsTerm 9 = .ok (.iload_n 1, 1) := by decide +kernel
theorem dX12_readsTerm_10 : decode cX12_readsTerm 10 = .ok (.iadd, 1) := by decide +kernel
theorem dX12_readsTerm_11 : decode cX12_readsTerm 11 = .ok (.iaload, 1) := by decide +kernel
theorem dX12_readsTerm_12 : decode cX12_readsTerm 12 = .ok (.iconst 1, 1) := by decide +kernel
theorem dX12_readsTerm_13 : decode cX12_readsTerm 13 = .ok (.if_icmp .eq 45, 3) := by decide +kernel
theorem dX12_readsTerm_16 : decode cX12_readsTerm 16 = .ok (.aload_n 0, 1) := by decide +kernel
theorem dX12_readsTerm_17 : decode cX12_readsTerm 17 = .ok (.invokevirtual 503, 3) := by decide +kernel
theorem dX12_readsTerm_20 : decode cX12_readsTerm 20 = .ok (.bipush 48, 2) := by decide +kernel
theorem dX12_readsTerm_22 : decode cX12_readsTerm 22 = .ok (.isub, 1) := by decide +kernel
theorem dX12_readsTerm_23 : decode cX12_readsTerm 23 = .ok (.istore_n 2, 1) := by decide +kernel
theorem dX12_readsTerm_24 : decode cX12_readsTerm 24 = .ok (.iload_n 2, 1) := by decide +kernel
theorem dX12_readsTerm_25 : decode cX12_readsTerm 25 = .ok (.i2l, 1) := by decide +kernel
theorem dX12_readsTerm_26 : decode cX12_readsTerm 26 = .ok (.lconst 0, 1) := by decide +kernel
theorem dX12_readsTerm_27 : decode cX12_readsTerm 27 = .ok (.aload_n 0, 1) := by decide +kernel
theorem dX12_readsTerm_28 : decode cX12_readsTerm 28 = .ok (.getfield 15, 3) := by decide +kernel
theorem dX12_readsTerm_31 : decode cX12_readsTerm 31 = .ok (.sipush 198, 3) := by decide +kernel
theorem dX12_readsTerm_34 : decode cX12_readsTerm 34 = .ok (.iload_n 1, 1) := by decide +kernel
theorem dX12_readsTerm_35 : decode cX12_readsTerm 35 = .ok (.iadd, 1) := by decide +kernel
theorem dX12_readsTerm_36 : decode cX12_readsTerm 36 = .ok (.iaload, 1) := by decide +kernel
theorem dX12_readsTerm_37 : decode cX12_readsTerm 37 = .ok (.iconst 1, 1) := by decide +kernel
theorem dX12_readsTerm_38 : decode cX12_readsTerm 38 = .ok (.isub, 1) := by decide +kernel
theorem dX12_readsTerm_39 : decode cX12_readsTerm 39 = .ok (.i2l, 1) := by decide +kernel
theorem dX12_readsTerm_40 : decode cX12_readsTerm 40 = .ok (.invokestatic 97, 3) := by decide +kernel
theorem dX12_readsTerm_43 : decode cX12_readsTerm 43 = .ok (.ifCond .ne 5, 3) := by decide +kernel
theorem dX12_readsTerm_48 : decode cX12_readsTerm 48 = .ok (.aload_n 0, 1) := by decide +kernel
theorem dX12_readsTerm_49 : decode cX12_readsTerm 49 = .ok (.dup, 1) := by decide +kernel
theorem dX12_readsTerm_50 : decode cX12_readsTerm 50 = .ok (.getfield 485, 3) := by decide +kernel
theorem dX12_readsTerm_53 : decode cX12_readsTerm 53 = .ok (.iconst 1, 1) := by decide +kernel
theorem dX12_readsTerm_54 : decode cX12_readsTerm 54 = .ok (.iadd, 1) := by decide +kernel
theorem dX12_readsTerm_55 : decode cX12_readsTerm 55 = .ok (.putfield 485, 3) := by decide +kernel
theorem dX12_readsTerm_46 : decode cX12_readsTerm 46 = .ok (.iconst (-1), 1) := by decide +kernel
theorem dX12_readsTerm_47 : decode cX12_readsTerm 47 = .ok (.ireturn, 1) := by decide +kernel
theorem dX12_readsTerm_58 : decode cX12_readsTerm 58 = .ok (.aload_n 0, 1) := by decide +kernel
theorem dX12_readsTerm_59 : decode cX12_readsTerm 59 = .ok (.iload_n 1, 1) := by decide +kernel
theorem dX12_readsTerm_60 : decode cX12_readsTerm 60 = .ok (.iload_n 2, 1) := by decide +kernel
theorem dX12_readsTerm_61 : decode cX12_readsTerm 61 = .ok (.invokevirtual 231, 3) := by decide +kernel
theorem dX12_readsTerm_64 : decode cX12_readsTerm 64 = .ok (.ifCond .eq 5, 3) := by decide +kernel
theorem dX12_readsTerm_69 : decode cX12_readsTerm 69 = .ok (.aload_n 0, 1) := by decide +kernel
theorem dX12_readsTerm_70 : decode cX12_readsTerm 70 = .ok (.bipush 7, 2) := by decide +kernel
theorem dX12_readsTerm_72 : decode cX12_readsTerm 72 = .ok (.iload_n 2, 1) := by decide +kernel
theorem dX12_readsTerm_73 : decode cX12_readsTerm 73 = .ok (.iconst 0, 1) := by decide +kernel
theorem dX12_readsTerm_74 : decode cX12_readsTerm 74 = .ok (.invokevirtual 506, 3) := by decide +kernel
theorem dX12_readsTerm_77 : decode cX12_readsTerm 77 = .ok (.istore_n 3, 1) := by decide +kernel
theorem dX12_readsTerm_78 : decode cX12_readsTerm 78 = .ok (.iconst (-1), 1) := by decide +kernel
theorem dX12_readsTerm_79 : decode cX12_readsTerm 79 = .ok (.istore 4, 2) := by decide +kernel
theorem dX12_readsTerm_81 : decode cX12_readsTerm 81 = .ok (.aload_n 0, 1) := by decide +kernel
theorem dX12_readsTerm_82 : decode cX12_readsTerm 82 = .ok (.getfield 15, 3) := by decide +kernel
theorem dX12_readsTerm_85 : decode cX12_readsTerm 85 = .ok (.bipush 120, 2) := by decide +kernel
theorem dX12_readsTerm_87 : decode cX12_readsTerm 87 = .ok (.aload_n 0, 1) := by decide +kernel
theorem dX12_readsTerm_88 : decode cX12_readsTerm 88 = .ok (.iload_n 1, 1) := by decide +kernel
theorem dX12_readsTerm_89 : decode cX12_readsTerm 89 = .ok (.iload_n 2, 1) := by decide +kernel
theorem dX12_readsTerm_90 : decode cX12_readsTerm 90 = .ok (.invokevirtual 341, 3) := by decide +kernel
theorem dX12_readsTerm_93 : decode cX12_readsTerm 93 = .ok (.iadd, 1) := by decide +kernel
theorem dX12_readsTerm_94 : decode cX12_readsTerm 94 = .ok (.iaload, 1) := by decide +kernel
theorem dX12_readsTerm_95 : decode cX12_readsTerm 95 = .ok (.istore 5, 2) := by decide +kernel
theorem dX12_readsTerm_97 : decode cX12_readsTerm 97 = .ok (.iload 5, 2) := by decide +kernel
theorem dX12_readsTerm_99 : decode cX12_readsTerm 99 = .ok (.ifCond .lt 51, 3) := by decide +kernel
theorem dX12_readsTerm_102 : decode cX12_readsTerm 102 = .ok (.aload_n 0, 1) := by decide +kernel
theorem dX12_readsTerm_103 : decode cX12_readsTerm 103 = .ok (.iload 5, 2) := by decide +kernel
theorem dX12_readsTerm_105 : decode cX12_readsTerm 105 = .ok (.invokevirtual 509, 3) := by decide +kernel
theorem dX12_readsTerm_108 : decode cX12_readsTerm 108 = .ok (.istore 6, 2) := by decide +kernel
theorem dX12_readsTerm_110 : decode cX12_readsTerm 110 = .ok (.iload 6, 2) := by decide +kernel
theorem dX12_readsTerm_112 : decode cX12_readsTerm 112 = .ok (.ifCond .ge 5, 3) := by decide +kernel
theorem dX12_readsTerm_117 : decode cX12_readsTerm 117 = .ok (.aload_n 0, 1) := by decide +kernel
theorem dX12_readsTerm_118 : decode cX12_readsTerm 118 = .ok (.iload_n 3, 1) := by decide +kernel
theorem dX12_readsTerm_119 : decode cX12_readsTerm 119 = .ok (.iload 4, 2) := by decide +kernel
theorem dX12_readsTerm_121 : decode cX12_readsTerm 121 = .ok (.iload 6, 2) := by decide +kernel
theorem dX12_readsTerm_123 : decode cX12_readsTerm 123 = .ok (.aload_n 0, 1) := by decide +kernel
theorem dX12_readsTerm_124 : decode cX12_readsTerm 124 = .ok (.getfield 73, 3) := by decide +kernel
theorem dX12_readsTerm_127 : decode cX12_readsTerm 127 = .ok (.iload 6, 2) := by decide +kernel
theorem dX12_readsTerm_129 : decode cX12_readsTerm 129 = .ok (.iaload, 1) := by decide +kernel
theorem dX12_readsTerm_130 : decode cX12_readsTerm 130 = .ok (.invokevirtual 512, 3) := by decide +kernel
theorem dX12_readsTerm_133 : decode cX12_readsTerm 133 = .ok (.istore 4, 2) := by decide +kernel
theorem dX12_readsTerm_135 : decode cX12_readsTerm 135 = .ok (.aload_n 0, 1) := by decide +kernel
theorem dX12_readsTerm_136 : decode cX12_readsTerm 136 = .ok (.getfield 15, 3) := by decide +kernel
theorem dX12_readsTerm_139 : decode cX12_readsTerm 139 = .ok (.bipush 96, 2) := by decide +kernel
theorem dX12_readsTerm_141 : decode cX12_readsTerm 141 = .ok (.iload 5, 2) := by decide +kernel
theorem dX12_readsTerm_143 : decode cX12_readsTerm 143 = .ok (.iadd, 1) := by decide +kernel
theorem dX12_readsTerm_144 : decode cX12_readsTerm 144 = .ok (.iaload, 1) := by decide +kernel
theorem dX12_readsTerm_145 : decode cX12_readsTerm 145 = .ok (.istore 5, 2) := by decide +kernel
theorem dX12_readsTerm_147 : decode cX12_readsTerm 147 = .ok (.goto (-50), 3) := by decide +kernel
theorem dX12_readsTerm_115 : decode cX12_readsTerm 115 = .ok (.iconst (-1), 1) := by decide +kernel
theorem dX12_readsTerm_116 : decode cX12_readsTerm 116 = .ok (.ireturn, 1) := by decide +kernel
theorem dX12_readsTerm_150 : decode cX12_readsTerm 150 = .ok (.iload_n 3, 1) := by decide +kernel
theorem dX12_readsTerm_151 : decode cX12_readsTerm 151 = .ok (.ireturn, 1) := by decide +kernel
theorem dX12_readsTerm_67 : decode cX12_readsTerm 67 = .ok (.iconst (-1), 1) := by decide +kernel
theorem dX12_readsTerm_68 : decode cX12_readsTerm 68 = .ok (.ireturn, 1) := by decide +kernel
theorem dX12_readsThing_0 : decode cX12_readsThing 0 = .ok (.aload_n 0, 1) := by decide +kernel
theorem dX12_readsThing_1 : decode cX12_readsThing 1 = .ok (.iload_n 1, 1) := by decide +kernel
theorem dX12_readsThing_2 : decode cX12_readsThing 2 = .ok (.invokevirtual 494, 3) := by decide +kernel
theorem wm_2310 : (Jvm.Cond.methodLink "GrownKindsModel" (494 : Nat) ({ cls := "GrownKindsModel", name := "partOf", desc := "(I)I" } : Jvm.MethodName)) ∈ gT := gT_in (List.mem_of_getElem? (i := 2310) (by decide +kernel)) (by decide +kernel)
theorem wm_2312 : (Jvm.Cond.instanceMethod ({ cls := "GrownKindsModel", name := "partOf", desc := "(I)I" } : Jvm.MethodName)) ∈ gT := gT_in (List.mem_of_getElem? (i := 2312) (by decide +kernel)) (by decide +kernel)
theorem wm_161 : Cond.selects "GrownKindsModel" ⟨"GrownKindsModel", "partOf", "(I)I"⟩ ⟨"GrownKindsModel", "partOf", "(I)I"⟩ ∈ gT := gT_in (List.mem_of_getElem? (i := 161) (by decide +kernel)) (by decide +kernel)
theorem wm_2313 : (Jvm.Cond.code ({ cls := "GrownKindsModel", name := "partOf", desc := "(I)I" } : Jvm.MethodName) prog_14_method_116_code (4 : Nat) (Option.some Jvm.ClassFile.FieldType.int)) ∈ gT := gT_in (List.mem_of_getElem? (i := 2313) (by decide +kernel)) (by decide +kernel)
theorem dX12_readsThing_5 : decode cX12_readsThing 5 = .ok (.istore_n 2, 1) := by decide +kernel
theorem dX12_readsThing_6 : decode cX12_readsThing 6 = .ok (.aload_n 0, 1) := by decide +kernel
theorem dX12_readsThing_7 : decode cX12_readsThing 7 = .ok (.getfield 15, 3) := by decide +kernel
theorem dX12_readsThing_10 : decode cX12_readsThing 10 = .ok (.bipush 24, 2) := by decide +kernel
theorem dX12_readsThing_12 : decode cX12_readsThing 12 = .ok (.iload_n 2, 1) := by decide +kernel
theorem dX12_readsThing_13 : decode cX12_readsThing 13 = .ok (.iadd, 1) := by decide +kernel
theorem dX12_readsThing_14 : decode cX12_readsThing 14 = .ok (.iaload, 1) := by decide +kernel
theorem dX12_readsThing_15 : decode cX12_readsThing 15 = .ok (.istore_n 3, 1) := by decide +kernel
theorem dX12_readsThing_16 : decode cX12_readsThing 16 = .ok (.aload_n 0, 1) := by decide +kernel
theorem dX12_readsThing_17 : decode cX12_readsThing 17 = .ok (.iload_n 2, 1) := by decide +kernel
theorem dX12_readsThing_18 : decode cX12_readsThing 18 = .ok (.invokevirtual 491, 3) := by decide +kernel
theorem dX12_readsThing_21 : decode cX12_readsThing 21 = .ok (.ifCond .eq 5, 3) := by decide +kernel
theorem dX12_readsThing_26 : decode cX12_readsThing 26 = .ok (.iload_n 3, 1) := by decide +kernel
theorem dX12_readsThing_27 : decode cX12_readsThing 27 = .ok (.iconst 2, 1) := by decide +kernel
theorem dX12_readsThing_28 : decode cX12_readsThing 28 = .ok (.if_icmp .eq 9, 3) := by decide +kernel
theorem dX12_readsThing_31 : decode cX12_readsThing 31 = .ok (.iload_n 3, 1) := by decide +kernel
theorem dX12_readsThing_32 : decode cX12_readsThing 32 = .ok (.bipush 7, 2) := by decide +kernel
theorem dX12_readsThing_34 : decode cX12_readsThing 34 = .ok (.if_icmp .ne 17, 3) := by decide +kernel
theorem dX12_readsThing_37 : decode cX12_readsThing 37 = .ok (.aload_n 0, 1) := by decide +kernel
theorem dX12_readsThing_38 : decode cX12_readsThing 38 = .ok (.aload_n 0, 1) := by decide +kernel
theorem dX12_readsThing_39 : decode cX12_readsThing 39 = .ok (.getfield 15, 3) := by decide +kernel
theorem dX12_readsThing_42 : decode cX12_readsThing 42 = .ok (.bipush 48, 2) := by decide +kernel
theorem dX12_readsThing_44 : decode cX12_readsThing 44 = .ok (.iload_n 2, 1) := by decide +kernel
theorem dX12_readsThing_45 : decode cX12_readsThing 45 = .ok (.iadd, 1) := by decide +kernel
theorem dX12_readsThing_46 : decode cX12_readsThing 46 = .ok (.iaload, 1) := by decide +kernel
theorem dX12_readsThing_47 : decode cX12_readsThing 47 = .ok (.invokevirtual 497, 3) := by decide +kernel
theorem wm_2294 : (Jvm.Cond.methodLink "GrownKindsModel" (497 : Nat) ({ cls := "GrownKindsModel", name := "readsTerm", desc := "(I)I" } : Jvm.MethodName)) ∈ gT := gT_in (List.mem_of_getElem? (i := 2294) (by decide +kernel)) (by decide +kernel)
theorem wm_2296 : (Jvm.Cond.instanceMethod ({ cls := "GrownKindsModel", name := "readsTerm", desc := "(I)I" } : Jvm.MethodName)) ∈ gT := gT_in (List.mem_of_getElem? (i := 2296) (by decide +kernel)) (by decide +kernel)
theorem wm_157 : Cond.selects "GrownKindsModel" ⟨"GrownKindsModel", "readsTerm", "(I)I"⟩ ⟨"GrownKindsModel", "readsTerm", "(I)I"⟩ ∈ gT := gT_in (List.mem_of_getElem? (i := 157) (by decide +kernel)) (by decide +kernel)
theorem wm_2297 : (Jvm.Cond.code ({ cls := "GrownKindsModel", name := "readsTerm", desc := "(I)I" } : Jvm.MethodName) prog_14_method_118_code (7 : Nat) (Option.some Jvm.ClassFile.FieldType.int)) ∈ gT := gT_in (List.mem_of_getElem? (i := 2297) (by decide +kernel)) (by decide +kernel)
theorem dX12_readsThing_50 : decode cX12_readsThing 50 = .ok (.ireturn, 1) := by decide +kernel
theorem dX12_readsThing_51 : decode cX12_readsThing 51 = .ok (.iload_n 3, 1) := by decide +kernel
theorem dX12_readsThing_52 : decode cX12_readsThing 52 = .ok (.iconst 1, 1) := by decide +kernel
theorem dX12_readsThing_53 : decode cX12_readsThing 53 = .ok (.if_icmp .le 9, 3) := by decide +kernel
theorem dX12_readsThing_62 : decode cX12_readsThing 62 = .ok (.aload_n 0, 1) := by decide +kernel
theorem dX12_readsThing_63 : decode cX12_readsThing 63 = .ok (.invokevirtual 503, 3) := by decide +kernel
theorem dX12_readsThing_66 : decode cX12_readsThing 66 = .ok (.iload_n 3, 1) := by decide +kernel
theorem dX12_readsThing_67 : decode cX12_readsThing 67 = .ok (.ifCond .ne 18, 3) := by decide +kernel
theorem dX12_readsThing_85 : decode cX12_readsThing 85 = .ok (.bipush 45, 2) := by decide +kernel
theorem dX12_readsThing_70 : decode cX12_readsThing 70 = .ok (.bipush 97, 2) := by decide +kernel
theorem dX12_readsThing_72 : decode cX12_readsThing 72 = .ok (.aload_n 0, 1) := by decide +kernel
theorem dX12_readsThing_73 : decode cX12_readsThing 73 = .ok (.getfield 15, 3) := by decide +kernel
theorem dX12_readsThing_76 : decode cX12_readsThing 76 = .ok (.bipush 48, 2) := by decide +kernel
theorem dX12_readsThing_78 : decode cX12_readsThing 78 = .ok (.iload_n 2, 1) := by decide +kernel
theorem dX12_readsThing_79 : decode cX12_readsThing 79 = .ok (.iadd, 1) := by decide +kernel
theorem dX12_readsThing_80 : decode cX12_readsThing 80 = .ok (.iaload, 1) := by decide +kernel
theorem dX12_readsThing_81 : decode cX12_readsThing 81 = .ok (.iadd, 1) := by decide +kernel
theorem dX12_readsThing_82 : decode cX12_readsThing 82 = .ok (.goto 5, 3) := by decide +kernel
theorem dX12_readsThing_87 : decode cX12_readsThing 87 = .ok (.if_icmp .eq 5, 3) := by decide +kernel
theorem dX12_readsThing_92 : decode cX12_readsThing 92 = .ok (.aload_n 0, 1) := by decide +kernel
theorem dX12_readsThing_93 : decode cX12_readsThing 93 = .ok (.dup, 1) := by decide +kernel
theorem dX12_readsThing_94 : decode cX12_readsThing 94 = .ok (.getfield 485, 3) := by decide +kernel
theorem dX12_readsThing_97 : decode cX12_readsThing 97 = .ok (.iconst 1, 1) := by decide +kernel
theorem dX12_readsThing_98 : decode cX12_readsThing 98 = .ok (.iadd, 1) := by decide +kernel
theorem dX12_readsThing_99 : decode cX12_readsThing 99 = .ok (.putfield 485, 3) := by decide +kernel
theorem dX12_readsThing_102 : decode cX12_readsThing 102 = .ok (.aload_n 0, 1) := by decide +kernel
theorem dX12_readsThing_103 : decode cX12_readsThing 103 = .ok (.iload_n 3, 1) := by decide +kernel
theorem dX12_readsThing_104 : decode cX12_readsThing 104 = .ok (.aload_n 0, 1) := by decide +kernel
theorem dX12_readsThing_105 : decode cX12_readsThing 105 = .ok (.getfield 15, 3) := by decide +kernel
theorem dX12_readsThing_108 : decode cX12_readsThing 108 = .ok (.bipush 48, 2) := by decide +kernel
theorem dX12_readsThing_110 : decode cX12_readsThing 110 = .ok (.iload_n 2, 1) := by decide +kernel
theorem dX12_readsThing_111 : decode cX12_readsThing 111 = .ok (.iadd, 1) := by decide +kernel
theorem dX12_readsThing_112 : decode cX12_readsThing 112 = .ok (.iaload, 1) := by decide +kernel
theorem dX12_readsThing_113 : decode cX12_readsThing 113 = .ok (.iload_n 3, 1) := by decide +kernel
theorem dX12_readsThing_114 : decode cX12_readsThing 114 = .ok (.ifCond .ne 7, 3) := by decide +kernel
theorem dX12_readsThing_121 : decode cX12_readsThing 121 = .ok (.iconst 0, 1) := by decide +kernel
theorem dX12_readsThing_122 : decode cX12_readsThing 122 = .ok (.invokevirtual 506, 3) := by decide +kernel
theorem dX12_readsThing_125 : decode cX12_readsThing 125 = .ok (.ireturn, 1) := by decide +kernel
theorem dX12_readsThing_117 : decode cX12_readsThing 117 = .ok (.iconst 1, 1) := by decide +kernel
theorem dX12_readsThing_118 : decode cX12_readsThing 118 = .ok (.goto 4, 3) := by decide +kernel
theorem dX12_readsThing_90 : decode cX12_readsThing 90 = .ok (.iconst (-1), 1) := by decide +kernel
theorem dX12_readsThing_91 : decode cX12_readsThing 91 = .ok (.ireturn, 1) := by decide +kernel
theorem dX12_readsThing_56 : decode cX12_readsThing 56 = .ok (.aload_n 0, 1) := by decide +kernel
theorem dX12_readsThing_57 : decode cX12_readsThing 57 = .ok (.iload_n 2, 1) := by decide +kernel
theorem dX12_readsThing_58 : decode cX12_readsThing 58 = .ok (.invokevirtual 500, 3) := by decide +kernel
theorem wm_2318 : (Jvm.Cond.methodLink "GrownKindsModel" (500 : Nat) ({ cls := "GrownKindsModel", name := "readsMany", desc := "(I)I" } : Jvm.MethodName)) ∈ gT := gT_in (List.mem_of_getElem? (i := 2318) (by decide +kernel)) (by decide +kernel)
theorem wm_2320 : (Jvm.Cond.instanceMethod ({ cls := "GrownKindsModel", name := "readsMany", desc := "(I)I" } : Jvm.MethodName)) ∈ gT := gT_in (List.mem_of_getElem? (i := 2320) (by decide +kernel)) (by decide +kernel)
theorem wm_163 : Cond.selects "GrownKindsModel" ⟨"GrownKindsModel", "readsMany", "(I)I"⟩ ⟨"GrownKindsModel", "readsMany", "(I)I"⟩ ∈ gT := gT_in (List.mem_of_getElem? (i := 163) (by decide +kernel)) (by decide +kernel)
theorem wm_2321 : (Jvm.Cond.code ({ cls := "GrownKindsModel", name := "readsMany", desc := "(I)I" } : Jvm.MethodName) prog_14_method_120_code (7 : Nat) (Option.some Jvm.ClassFile.FieldType.int)) ∈ gT := gT_in (List.mem_of_getElem? (i := 2321) (by decide +kernel)) (by decide +kernel)
theorem dX12_readsThing_61 : decode cX12_readsThing 61 = .ok (.ireturn, 1) := by decide +kernel
theorem dX12_readsThing_24 : decode cX12_readsThing 24 = .ok (.iconst (-1), 1) := by decide +kernel
theorem dX12_readsThing_25 : decode cX12_readsThing 25 = .ok (.ireturn, 1) := by decide +kernel
theorem dX12_readsWhole_0 : decode cX12_readsWhole 0 = .ok (.aload_n 0, 1) := by decide +kernel
theorem dX12_readsWhole_1 : decode cX12_readsWhole 1 = .ok (.iconst 0, 1) := by decide +kernel
theorem dX12_readsWhole_2 : decode cX12_readsWhole 2 = .ok (.putfield 485, 3) := by decide +kernel
theorem dX12_readsWhole_5 : decode cX12_readsWhole 5 = .ok (.aload_n 0, 1) := by decide +kernel
theorem dX12_readsWhole_6 : decode cX12_readsWhole 6 = .ok (.getfield 15, 3) := by decide +kernel
theorem dX12_readsWhole_9 : decode cX12_readsWhole 9 = .ok (.sipush 198, 3) := by decide +kernel
theorem dX12_readsWhole_12 : decode cX12_readsWhole 12 = .ok (.iload_n 1, 1) := by decide +kernel
theorem dX12_readsWhole_13 : decode cX12_readsWhole 13 = .ok (.iadd, 1) := by decide +kernel
theorem dX12_readsWhole_14 : decode cX12_readsWhole 14 = .ok (.iaload, 1) := by decide +kernel
theorem dX12_readsWhole_15 : decode cX12_readsWhole 15 = .ok (.ifCond .le 20, 3) := by decide +kernel
theorem dX12_readsWhole_35 : decode cX12_readsWhole 35 = .ok (.iconst 0, 1) := by decide +kernel
theorem dX12_readsWhole_18 : decode cX12_readsWhole 18 = .ok (.aload_n 0, 1) := by decide +kernel
theorem dX12_readsWhole_19 : decode cX12_readsWhole 19 = .ok (.iload_n 1, 1) := by decide +kernel
theorem dX12_readsWhole_20 : decode cX12_readsWhole 20 = .ok (.iconst 0, 1) := by decide +kernel
theorem dX12_readsWhole_21 : decode cX12_readsWhole 21 = .ok (.bipush 7, 2) := by decide +kernel
theorem dX12_readsWhole_23 : decode cX12_readsWhole 23 = .ok (.invokevirtual 327, 3) := by decide +kernel
theorem dX12_readsWhole_26 : decode cX12_readsWhole 26 = .ok (.lconst 0, 1) := by decide +kernel
theorem dX12_readsWhole_27 : decode cX12_readsWhole 27 = .ok (.lcmp, 1) := by decide +kernel
theorem dX12_readsWhole_28 : decode cX12_readsWhole 28 = .ok (.ifCond .le 7, 3) := by decide +kernel
theorem dX12_readsWhole_31 : decode cX12_readsWhole 31 = .ok (.iconst 1, 1) := by decide +kernel
theorem dX12_readsWhole_32 : decode cX12_readsWhole 32 = .ok (.goto 4, 3) := by decide +kernel
theorem dX12_readsWhole_36 : decode cX12_readsWhole 36 = .ok (.istore_n 2, 1) := by decide +kernel
theorem dX12_readsWhole_37 : decode cX12_readsWhole 37 = .ok (.iload_n 2, 1) := by decide +kernel
theorem dX12_readsWhole_38 : decode cX12_readsWhole 38 = .ok (.ifCond .eq 11, 3) := by decide +kernel
theorem dX12_readsWhole_49 : decode cX12_readsWhole 49 = .ok (.iconst (-1), 1) := by decide +kernel
theorem dX12_readsWhole_41 : decode cX12_readsWhole 41 = .ok (.aload_n 0, 1) := by decide +kernel
theorem dX12_readsWhole_42 : decode cX12_readsWhole 42 = .ok (.iload_n 1, 1) := by decide +kernel
theorem dX12_readsWhole_43 : decode cX12_readsWhole 43 = .ok (.invokevirtual 497, 3) := by decide +kernel
theorem dX12_readsWhole_46 : decode cX12_readsWhole 46 = .ok (.goto 4, 3) := by decide +kernel
theorem dX12_readsWhole_50 : decode cX12_readsWhole 50 = .ok (.istore_n 3, 1) := by decide +kernel
theorem dX12_readsWhole_51 : decode cX12_readsWhole 51 = .ok (.iload_n 3, 1) := by decide +kernel
theorem dX12_readsWhole_52 : decode cX12_readsWhole 52 = .ok (.ifCond .lt 33, 3) := by decide +kernel
theorem dX12_readsWhole_85 : decode cX12_readsWhole 85 = .ok (.iconst (-1), 1) := by decide +kernel
theorem dX12_readsWhole_86 : decode cX12_readsWhole 86 = .ok (.ireturn, 1) := by decide +kernel
theorem dX12_readsWhole_55 : decode cX12_readsWhole 55 = .ok (.aload_n 0, 1) := by decide +kernel
theorem dX12_readsWhole_56 : decode cX12_readsWhole 56 = .ok (.getfield 485, 3) := by decide +kernel
theorem dX12_readsWhole_59 : decode cX12_readsWhole 59 = .ok (.aload_n 0, 1) := by decide +kernel
theorem dX12_readsWhole_60 : decode cX12_readsWhole 60 = .ok (.getfield 488, 3) := by decide +kernel
theorem dX12_readsWhole_63 : decode cX12_readsWhole 63 = .ok (.if_icmp .ne 22, 3) := by decide +kernel
theorem dX12_readsWhole_66 : decode cX12_readsWhole 66 = .ok (.aload_n 0, 1) := by decide +kernel
theorem dX12_readsWhole_67 : decode cX12_readsWhole 67 = .ok (.getfield 73, 3) := by decide +kernel
theorem dX12_readsWhole_70 : decode cX12_readsWhole 70 = .ok (.iload_n 3, 1) := by decide +kernel
theorem dX12_readsWhole_71 : decode cX12_readsWhole 71 = .ok (.iaload, 1) := by decide +kernel
theorem dX12_readsWhole_72 : decode cX12_readsWhole 72 = .ok (.aload_n 0, 1) := by decide +kernel
theorem dX12_readsWhole_73 : decode cX12_readsWhole 73 = .ok (.getfield 15, 3) := by decide +kernel
theorem dX12_readsWhole_76 : decode cX12_readsWhole 76 = .ok (.iconst 1, 1) := by decide +kernel
theorem dX12_readsWhole_77 : decode cX12_readsWhole 77 = .ok (.iaload, 1) := by decide +kernel
theorem dX12_readsWhole_78 : decode cX12_readsWhole 78 = .ok (.if_icmp .gt 7, 3) := by decide +kernel
theorem dX12_readsWhole_81 : decode cX12_readsWhole 81 = .ok (.iload_n 3, 1) := by decide +kernel
theorem dX12_readsWhole_82 : decode cX12_readsWhole 82 = .ok (.goto 4, 3) := by decide +kernel
theorem dX12_tells_0 : decode cX12_tells 0 = .ok (.aload_n 0, 1) := by decide +kernel
theorem dX12_tells_1 : decode cX12_tells 1 = .ok (.iload_n 1, 1) := by decide +kernel
theorem dX12_tells_2 : decode cX12_tells 2 = .ok (.invokevirtual 225, 3) := by decide +kernel
theorem dX12_tells_5 : decode cX12_tells 5 = .ok (.ifCond .ne 6, 3) := by decide +kernel
theorem dX12_tells_11 : decode cX12_tells 11 = .ok (.aload_n 0, 1) := by decide +kernel
theorem dX12_tells_12 : decode cX12_tells 12 = .ok (.getfield 94, 3) := by decide +kernel
theorem dX12_tells_15 : decode cX12_tells 15 = .ok (.istore_n 2, 1) := by decide +kernel
theorem dX12_tells_16 : decode cX12_tells 16 = .ok (.aload_n 0, 1) := by decide +kernel
theorem dX12_tells_17 : decode cX12_tells 17 = .ok (.iconst 0, 1) := by decide +kernel
theorem dX12_tells_18 : decode cX12_tells 18 = .ok (.putfield 94, 3) := by decide +kernel
theorem dX12_tells_21 : decode cX12_tells 21 = .ok (.iload_n 2, 1) := by decide +kernel
theorem dX12_tells_22 : decode cX12_tells 22 = .ok (.bipush 40, 2) := by decide +kernel
theorem dX12_tells_24 : decode cX12_tells 24 = .ok (.if_icmp .le 6, 3) := by decide +kernel
theorem dX12_tells_30 : decode cX12_tells 30 = .ok (.iconst 0, 1) := by decide +kernel
theorem dX12_tells_31 : decode cX12_tells 31 = .ok (.istore_n 3, 1) := by decide +kernel
theorem dX12_tells_32 : decode cX12_tells 32 = .ok (.iload_n 3, 1) := by decide +kernel
theorem dX12_tells_33 : decode cX12_tells 33 = .ok (.iload_n 2, 1) := by decide +kernel
theorem dX12_tells_34 : decode cX12_tells 34 = .ok (.if_icmp .ge 21, 3) := by decide +kernel
theorem dX12_tells_37 : decode cX12_tells 37 = .ok (.aload_n 0, 1) := by decide +kernel
theorem dX12_tells_38 : decode cX12_tells 38 = .ok (.getfield 82, 3) := by decide +kernel
theorem dX12_tells_41 : decode cX12_tells 41 = .ok (.iload_n 3, 1) := by decide +kernel
theorem dX12_tells_42 : decode cX12_tells 42 = .ok (.aload_n 0, 1) := by decide +kernel
theorem dX12_tells_43 : decode cX12_tells 43 = .ok (.getfield 22, 3) := by decide +kernel
theorem dX12_tells_46 : decode cX12_tells 46 = .ok (.iload_n 3, 1) := by decide +kernel
theorem dX12_tells_47 : decode cX12_tells 47 = .ok (.iaload, 1) := by decide +kernel
theorem dX12_tells_48 : decode cX12_tells 48 = .ok (.iastore, 1) := by decide +kernel
theorem dX12_tells_49 : decode cX12_tells 49 = .ok (.iinc 3 1, 3) := by decide +kernel
theorem dX12_tells_52 : decode cX12_tells 52 = .ok (.goto (-20), 3) := by decide +kernel
theorem dX12_tells_55 : decode cX12_tells 55 = .ok (.aload_n 0, 1) := by decide +kernel
theorem dX12_tells_56 : decode cX12_tells 56 = .ok (.iload_n 2, 1) := by decide +kernel
theorem dX12_tells_57 : decode cX12_tells 57 = .ok (.putfield 488, 3) := by decide +kernel
theorem dX12_tells_60 : decode cX12_tells 60 = .ok (.aload_n 0, 1) := by decide +kernel
theorem dX12_tells_61 : decode cX12_tells 61 = .ok (.iconst 0, 1) := by decide +kernel
theorem dX12_tells_62 : decode cX12_tells 62 = .ok (.putfield 482, 3) := by decide +kernel
theorem dX12_tells_65 : decode cX12_tells 65 = .ok (.aload_n 0, 1) := by decide +kernel
theorem dX12_tells_66 : decode cX12_tells 66 = .ok (.iconst (-1), 1) := by decide +kernel
theorem dX12_tells_67 : decode cX12_tells 67 = .ok (.invokevirtual 324, 3) := by decide +kernel
theorem dX12_tells_70 : decode cX12_tells 70 = .ok (.aload_n 0, 1) := by decide +kernel
theorem dX12_tells_71 : decode cX12_tells 71 = .ok (.iload_n 1, 1) := by decide +kernel
theorem dX12_tells_72 : decode cX12_tells 72 = .ok (.invokevirtual 528, 3) := by decide +kernel
theorem wm_2290 : (Jvm.Cond.methodLink "GrownKindsModel" (528 : Nat) ({ cls := "GrownKindsModel", name := "readsWhole", desc := "(I)I" } : Jvm.MethodName)) ∈ gT := gT_in (List.mem_of_getElem? (i := 2290) (by decide +kernel)) (by decide +kernel)
theorem wm_2292 : (Jvm.Cond.instanceMethod ({ cls := "GrownKindsModel", name := "readsWhole", desc := "(I)I" } : Jvm.MethodName)) ∈ gT := gT_in (List.mem_of_getElem? (i := 2292) (by decide +kernel)) (by decide +kernel)
theorem wm_156 : Cond.selects "GrownKindsModel" ⟨"GrownKindsModel", "readsWhole", "(I)I"⟩ ⟨"GrownKindsModel", "readsWhole", "(I)I"⟩ ∈ gT := gT_in (List.mem_of_getElem? (i := 156) (by decide +kernel)) (by decide +kernel)
theorem wm_2293 : (Jvm.Cond.code ({ cls := "GrownKindsModel", name := "readsWhole", desc := "(I)I" } : Jvm.MethodName) prog_14_method_125_code (4 : Nat) (Option.some Jvm.ClassFile.FieldType.int)) ∈ gT := gT_in (List.mem_of_getElem? (i := 2293) (by decide +kernel)) (by decide +kernel)
theorem dX12_tells_75 : decode cX12_tells 75 = .ok (.istore_n 3, 1) := by decide +kernel
theorem dX12_tells_76 : decode cX12_tells 76 = .ok (.iload_n 3, 1) := by decide +kernel
theorem dX12_tells_77 : decode cX12_tells 77 = .ok (.ifCond .ge 6, 3) := by decide +kernel
theorem dX12_tells_83 : decode cX12_tells 83 = .ok (.aload_n 0, 1) := by decide +kernel
theorem dX12_tells_84 : decode cX12_tells 84 = .ok (.getfield 73, 3) := by decide +kernel
theorem dX12_tells_87 : decode cX12_tells 87 = .ok (.iload_n 3, 1) := by decide +kernel
theorem dX12_tells_88 : decode cX12_tells 88 = .ok (.iaload, 1) := by decide +kernel
theorem dX12_tells_89 : decode cX12_tells 89 = .ok (.istore 4, 2) := by decide +kernel
theorem dX12_tells_91 : decode cX12_tells 91 = .ok (.aload_n 0, 1) := by decide +kernel
theorem dX12_tells_92 : decode cX12_tells 92 = .ok (.iload_n 1, 1) := by decide +kernel
theorem dX12_tells_93 : decode cX12_tells 93 = .ok (.iload 4, 2) := by decide +kernel
theorem dX12_tells_95 : decode cX12_tells 95 = .ok (.invokevirtual 320, 3) := by decide +kernel
theorem dX12_tells_98 : decode cX12_tells 98 = .ok (.ldc2_w 470, 3) := by decide +kernel
theorem dX12_tells_101 : decode cX12_tells 101 = .ok (.lcmp, 1) := by decide +kernel
theorem dX12_tells_102 : decode cX12_tells 102 = .ok (.ifCond .le 6, 3) := by decide +kernel
theorem dX12_tells_108 : decode cX12_tells 108 = .ok (.aload_n 0, 1) := by decide +kernel
theorem dX12_tells_109 : decode cX12_tells 109 = .ok (.getfield 482, 3) := by decide +kernel
theorem dX12_tells_112 : decode cX12_tells 112 = .ok (.istore 5, 2) := by decide +kernel
theorem dX12_tells_114 : decode cX12_tells 114 = .ok (.iconst 0, 1) := by decide +kernel
theorem dX12_tells_115 : decode cX12_tells 115 = .ok (.istore 6, 2) := by decide +kernel
theorem dX12_tells_117 : decode cX12_tells 117 = .ok (.iload 6, 2) := by decide +kernel
theorem dX12_tells_119 : decode cX12_tells 119 = .ok (.i2l, 1) := by decide +kernel
theorem dX12_tells_120 : decode cX12_tells 120 = .ok (.aload_n 0, 1) := by decide +kernel
theorem dX12_tells_121 : decode cX12_tells 121 = .ok (.iload_n 1, 1) := by decide +kernel
theorem dX12_tells_122 : decode cX12_tells 122 = .ok (.iload 4, 2) := by decide +kernel
theorem dX12_tells_124 : decode cX12_tells 124 = .ok (.invokevirtual 320, 3) := by decide +kernel
theorem dX12_tells_127 : decode cX12_tells 127 = .ok (.lcmp, 1) := by decide +kernel
theorem dX12_tells_128 : decode cX12_tells 128 = .ok (.ifCond .ge 69, 3) := by decide +kernel
theorem dX12_tells_131 : decode cX12_tells 131 = .ok (.aload_n 0, 1) := by decide +kernel
theorem dX12_tells_132 : decode cX12_tells 132 = .ok (.iload_n 1, 1) := by decide +kernel
theorem dX12_tells_133 : decode cX12_tells 133 = .ok (.iload 4, 2) := by decide +kernel
theorem dX12_tells_135 : decode cX12_tells 135 = .ok (.iload 6, 2) := by decide +kernel
theorem dX12_tells_137 : decode cX12_tells 137 = .ok (.iconst (-1), 1) := by decide +kernel
theorem dX12_tells_138 : decode cX12_tells 138 = .ok (.iconst (-1), 1) := by decide +kernel
theorem dX12_tells_139 : decode cX12_tells 139 = .ok (.invokevirtual 475, 3) := by decide +kernel
theorem dX12_tells_142 : decode cX12_tells 142 = .ok (.aload_n 0, 1) := by decide +kernel
theorem dX12_tells_143 : decode cX12_tells 143 = .ok (.getfield 374, 3) := by decide +kernel
theorem dX12_tells_146 : decode cX12_tells 146 = .ok (.iload_n 2, 1) := by decide +kernel
theorem dX12_tells_147 : decode cX12_tells 147 = .ok (.if_icmp .eq 6, 3) := by decide +kernel
theorem dX12_tells_153 : decode cX12_tells 153 = .ok (.aload_n 0, 1) := by decide +kernel
theorem dX12_tells_154 : decode cX12_tells 154 = .ok (.invokevirtual 531, 3) := by decide +kernel
theorem wm_2342 : (Jvm.Cond.methodLink "GrownKindsModel" (531 : Nat) ({ cls := "GrownKindsModel", name := "takesSpelled", desc := "()V" } : Jvm.MethodName)) ∈ gT := gT_in (List.mem_of_getElem? (i := 2342) (by decide +kernel)) (by decide +kernel)
theorem wm_2344 : (Jvm.Cond.instanceMethod ({ cls := "GrownKindsModel", name := "takesSpelled", desc := "()V" } : Jvm.MethodName)) ∈ gT := gT_in (List.mem_of_getElem? (i := 2344) (by decide +kernel)) (by decide +kernel)
theorem wm_169 : Cond.selects "GrownKindsModel" ⟨"GrownKindsModel", "takesSpelled", "()V"⟩ ⟨"GrownKindsModel", "takesSpelled", "()V"⟩ ∈ gT := gT_in (List.mem_of_getElem? (i := 169) (by decide +kernel)) (by decide +kernel)
theorem wm_2345 : (Jvm.Cond.code ({ cls := "GrownKindsModel", name := "takesSpelled", desc := "()V" } : Jvm.MethodName) prog_14_method_126_code (2 : Nat) (Option.none : Option Jvm.ClassFile.FieldType)) ∈ gT := gT_in (List.mem_of_getElem? (i := 2345) (by decide +kernel)) (by decide +kernel)
theorem dX12_tells_157 : decode cX12_tells 157 = .ok (.aload_n 0, 1) := by decide +kernel
theorem dX12_tells_158 : decode cX12_tells 158 = .ok (.iload 5, 2) := by decide +kernel
theorem dX12_tells_160 : decode cX12_tells 160 = .ok (.putfield 482, 3) := by decide +kernel
theorem dX12_tells_163 : decode cX12_tells 163 = .ok (.aload_n 0, 1) := by decide +kernel
theorem dX12_tells_164 : decode cX12_tells 164 = .ok (.iload_n 3, 1) := by decide +kernel
theorem dX12_tells_165 : decode cX12_tells 165 = .ok (.aload_n 0, 1) := by decide +kernel
theorem dX12_tells_166 : decode cX12_tells 166 = .ok (.iload_n 1, 1) := by decide +kernel
theorem dX12_tells_167 : decode cX12_tells 167 = .ok (.invokevirtual 528, 3) := by decide +kernel
theorem dX12_tells_170 : decode cX12_tells 170 = .ok (.invokevirtual 519, 3) := by decide +kernel
theorem dX12_tells_173 : decode cX12_tells 173 = .ok (.ifCond .eq 18, 3) := by decide +kernel
theorem dX12_tells_191 : decode cX12_tells 191 = .ok (.iinc 6 1, 3) := by decide +kernel
theorem dX12_tells_194 : decode cX12_tells 194 = .ok (.goto (-77), 3) := by decide +kernel
theorem dX12_tells_150 : decode cX12_tells 150 = .ok (.goto 41, 3) := by decide +kernel
theorem dX12_tells_176 : decode cX12_tells 176 = .ok (.aload_n 0, 1) := by decide +kernel
theorem dX12_tells_177 : decode cX12_tells 177 = .ok (.iload 4, 2) := by decide +kernel
theorem dX12_tells_179 : decode cX12_tells 179 = .ok (.putfield 85, 3) := by decide +kernel
theorem dX12_tells_182 : decode cX12_tells 182 = .ok (.aload_n 0, 1) := by decide +kernel
theorem dX12_tells_183 : decode cX12_tells 183 = .ok (.iload 6, 2) := by decide +kernel
theorem dX12_tells_185 : decode cX12_tells 185 = .ok (.putfield 88, 3) := by decide +kernel
theorem dX12_tells_188 : decode cX12_tells 188 = .ok (.iload 6, 2) := by decide +kernel
theorem dX12_tells_190 : decode cX12_tells 190 = .ok (.ireturn, 1) := by decide +kernel
theorem dX12_tells_197 : decode cX12_tells 197 = .ok (.bipush (-4), 2) := by decide +kernel
theorem dX12_tells_199 : decode cX12_tells 199 = .ok (.ireturn, 1) := by decide +kernel
theorem dX12_tells_105 : decode cX12_tells 105 = .ok (.bipush (-3), 2) := by decide +kernel
theorem dX12_tells_107 : decode cX12_tells 107 = .ok (.ireturn, 1) := by decide +kernel
theorem dX12_tells_80 : decode cX12_tells 80 = .ok (.bipush (-4), 2) := by decide +kernel
theorem dX12_tells_82 : decode cX12_tells 82 = .ok (.ireturn, 1) := by decide +kernel
theorem dX12_tells_27 : decode cX12_tells 27 = .ok (.bipush (-4), 2) := by decide +kernel
theorem dX12_tells_29 : decode cX12_tells 29 = .ok (.ireturn, 1) := by decide +kernel
theorem dX12_tells_8 : decode cX12_tells 8 = .ok (.bipush (-2), 2) := by decide +kernel
theorem dX12_tells_10 : decode cX12_tells 10 = .ok (.ireturn, 1) := by decide +kernel
theorem dX12_shared_0 : decode cX12_shared 0 = .ok (.aload_n 0, 1) := by decide +kernel
theorem dX12_shared_1 : decode cX12_shared 1 = .ok (.iload_n 2, 1) := by decide +kernel
theorem dX12_shared_2 : decode cX12_shared 2 = .ok (.invokevirtual 225, 3) := by decide +kernel
theorem dX12_shared_5 : decode cX12_shared 5 = .ok (.ifCond .eq 12, 3) := by decide +kernel
theorem dX12_shared_17 : decode cX12_shared 17 = .ok (.bipush (-2), 2) := by decide +kernel
theorem dX12_shared_8 : decode cX12_shared 8 = .ok (.aload_n 0, 1) := by decide +kernel
theorem dX12_shared_9 : decode cX12_shared 9 = .ok (.iload_n 1, 1) := by decide +kernel
theorem dX12_shared_10 : decode cX12_shared 10 = .ok (.iload_n 3, 1) := by decide +kernel
theorem dX12_shared_11 : decode cX12_shared 11 = .ok (.invokevirtual 534, 3) := by decide +kernel
theorem dX12_shared_14 : decode cX12_shared 14 = .ok (.goto 5, 3) := by decide +kernel
theorem dX12_shared_19 : decode cX12_shared 19 = .ok (.istore 4, 2) := by decide +kernel
theorem dX12_shared_21 : decode cX12_shared 21 = .ok (.iload 4, 2) := by decide +kernel
theorem dX12_shared_23 : decode cX12_shared 23 = .ok (.iconst (-1), 1) := by decide +kernel
theorem dX12_shared_24 : decode cX12_shared 24 = .ok (.if_icmp .ge 6, 3) := by decide +kernel
theorem dX12_shared_30 : decode cX12_shared 30 = .ok (.iconst 0, 1) := by decide +kernel
theorem dX12_shared_31 : decode cX12_shared 31 = .ok (.istore 5, 2) := by decide +kernel
theorem dX12_shared_33 : decode cX12_shared 33 = .ok (.iconst 0, 1) := by decide +kernel
theorem dX12_shared_34 : decode cX12_shared 34 = .ok (.istore 6, 2) := by decide +kernel
theorem dX12_shared_36 : decode cX12_shared 36 = .ok (.iload 6, 2) := by decide +kernel
theorem dX12_shared_38 : decode cX12_shared 38 = .ok (.i2l, 1) := by decide +kernel
theorem dX12_shared_39 : decode cX12_shared 39 = .ok (.aload_n 0, 1) := by decide +kernel
theorem dX12_shared_40 : decode cX12_shared 40 = .ok (.iload_n 1, 1) := by decide +kernel
theorem dX12_shared_41 : decode cX12_shared 41 = .ok (.iload_n 3, 1) := by decide +kernel
theorem dX12_shared_42 : decode cX12_shared 42 = .ok (.invokevirtual 320, 3) := by decide +kernel
theorem dX12_shared_45 : decode cX12_shared 45 = .ok (.lcmp, 1) := by decide +kernel
theorem dX12_shared_46 : decode cX12_shared 46 = .ok (.ifCond .ge 55, 3) := by decide +kernel
theorem dX12_shared_49 : decode cX12_shared 49 = .ok (.aload_n 0, 1) := by decide +kernel
theorem dX12_shared_50 : decode cX12_shared 50 = .ok (.iload_n 1, 1) := by decide +kernel
theorem dX12_shared_51 : decode cX12_shared 51 = .ok (.iload_n 3, 1) := by decide +kernel
theorem dX12_shared_52 : decode cX12_shared 52 = .ok (.iload 6, 2) := by decide +kernel
theorem dX12_shared_54 : decode cX12_shared 54 = .ok (.iconst (-1), 1) := by decide +kernel
theorem dX12_shared_55 : decode cX12_shared 55 = .ok (.iconst (-1), 1) := by decide +kernel
theorem dX12_shared_56 : decode cX12_shared 56 = .ok (.invokevirtual 475, 3) := by decide +kernel
theorem dX12_shared_59 : decode cX12_shared 59 = .ok (.aload_n 0, 1) := by decide +kernel
theorem dX12_shared_60 : decode cX12_shared 60 = .ok (.getfield 374, 3) := by decide +kernel
theorem dX12_shared_63 : decode cX12_shared 63 = .ok (.bipush 40, 2) := by decide +kernel
theorem dX12_shared_65 : decode cX12_shared 65 = .ok (.if_icmp .gt 30, 3) := by decide +kernel
theorem dX12_shared_95 : decode cX12_shared 95 = .ok (.iinc 6 1, 3) := by decide +kernel
theorem dX12_shared_98 : decode cX12_shared 98 = .ok (.goto (-62), 3) := by decide +kernel
theorem dX12_shared_68 : decode cX12_shared 68 = .ok (.aload_n 0, 1) := by decide +kernel
theorem dX12_shared_69 : decode cX12_shared 69 = .ok (.invokevirtual 531, 3) := by decide +kernel
theorem dX12_shared_72 : decode cX12_shared 72 = .ok (.aload_n 0, 1) := by decide +kernel
theorem dX12_shared_73 : decode cX12_shared 73 = .ok (.iconst 0, 1) := by decide +kernel
theorem dX12_shared_74 : decode cX12_shared 74 = .ok (.putfield 482, 3) := by decide +kernel
theorem dX12_shared_77 : decode cX12_shared 77 = .ok (.iload 5, 2) := by decide +kernel
theorem dX12_shared_79 : decode cX12_shared 79 = .ok (.aload_n 0, 1) := by decide +kernel
theorem dX12_shared_80 : decode cX12_shared 80 = .ok (.iload_n 2, 1) := by decide +kernel
theorem dX12_shared_81 : decode cX12_shared 81 = .ok (.invokevirtual 528, 3) := by decide +kernel
theorem dX12_shared_84 : decode cX12_shared 84 = .ok (.ifCond .ge 7, 3) := by decide +kernel
theorem dX12_shared_91 : decode cX12_shared 91 = .ok (.iconst 1, 1) := by decide +kernel
theorem dX12_shared_92 : decode cX12_shared 92 = .ok (.iadd, 1) := by decide +kernel
theorem dX12_shared_93 : decode cX12_shared 93 = .ok (.istore 5, 2) := by decide +kernel
theorem dX12_shared_87 : decode cX12_shared 87 = .ok (.iconst 0, 1) := by decide +kernel
theorem dX12_shared_88 : decode cX12_shared 88 = .ok (.goto 4, 3) := by decide +kernel
theorem dX12_shared_101 : decode cX12_shared 101 = .ok (.iload 5, 2) := by decide +kernel
theorem dX12_shared_103 : decode cX12_shared 103 = .ok (.ireturn, 1) := by decide +kernel
theorem dX12_shared_27 : decode cX12_shared 27 = .ok (.iload 4, 2) := by decide +kernel
theorem dX12_shared_29 : decode cX12_shared 29 = .ok (.ireturn, 1) := by decide +kernel
theorem wV_12_503 : gWV "GrownKindsModel" 503 yX12_here cX12_here 1 (some .int) := ⟨wm_2298, wm_2300, wm_158, wm_188, wm_2301, by decide +kernel, by decide +kernel⟩
theorem wV_12_506 : gWV "GrownKindsModel" 506 yX12_node cX12_node 4 (some .int) := ⟨wm_2302, wm_2304, wm_159, wm_188, wm_2305, by decide +kernel, by decide +kernel⟩
theorem wV_12_509 : gWV "GrownKindsModel" 509 yX12_readsThing cX12_readsThing 4 (some .int) := ⟨wm_2306, wm_2308, wm_160, wm_188, wm_2309, by decide +kernel, by decide +kernel⟩
theorem wV_12_516 : gWV "GrownKindsModel" 516 yX12_isAmong cX12_isAmong 4 (some .boolean) := ⟨wm_2322, wm_2324, wm_164, wm_188, wm_2325, by decide +kernel, by decide +kernel⟩
theorem wV_12_512 : gWV "GrownKindsModel" 512 yX12_comesBehind cX12_comesBehind 5 (some .int) := ⟨wm_2338, wm_2340, wm_168, wm_188, wm_2341, by decide +kernel, by decide +kernel⟩
theorem wV_12_494 : gWV "GrownKindsModel" 494 yX12_partOf cX12_partOf 4 (some .int) := ⟨wm_2310, wm_2312, wm_161, wm_188, wm_2313, by decide +kernel, by decide +kernel⟩
theorem wV_12_497 : gWV "GrownKindsModel" 497 yX12_readsTerm cX12_readsTerm 7 (some .int) := ⟨wm_2294, wm_2296, wm_157, wm_188, wm_2297, by decide +kernel, by decide +kernel⟩
theorem wV_12_500 : gWV "GrownKindsModel" 500 yX12_readsMany cX12_readsMany 7 (some .int) := ⟨wm_2318, wm_2320, wm_163, wm_188, wm_2321, by decide +kernel, by decide +kernel⟩
def mX12_readsMany_60 (rec : Nat → Int → St → Option (Int × St)) (r_13 : Int) (r_11 : Int) (x_2 : Int) (a1 : Int) : Nat → Int → St → Option (Int × St)
  | 0, _, _ => none
  | f + 1, v_15, S_16 => bd1 (mX12_here S_16) fun r_42 => gd ((inI r_42) ∧ (inI r_11)) <| if r_42 = r_11 then (some (1, S_16)) else (bd1 (mX12_here S_16) fun r_46 => bd2 (gd (inI r_46) <| if 0 ≤ r_46 then (gd (0 ≤ (72 + a1) ∧ (72 + a1) < 228) <| bd2 (rec 2 (S_16 84 (72 + a1)) S_16) fun r_73 S_74 => some (r_73, S_74)) else (some ((-1), S_16))) fun z_47 S_48 => gd (inI z_47) <| if z_47 < 0 then (some (0, S_48)) else (bd1 (gd (inI x_2) <| if x_2 = 5 then (bd1 (mX12_isAmong S_48 r_13 z_47) fun r_66 => gd (inI r_66) <| if r_66 = 0 then (some (1)) else (some (0))) else (some (1))) fun t_53 => if t_53 = 0 then (some (0, S_48)) else (gd (0 ≤ z_47 ∧ z_47 < 1024) <| bd2 (mX12_comesBehind S_48 r_13 v_15 z_47 (S_48 101 z_47)) fun r_59 S_60 => gd (0 ≤ r_13 ∧ r_13 < 1024) <| nx (up S_60 100 r_13 ((S_60 100 r_13) + 1)) fun S_62 => mX12_readsMany_60 rec r_13 r_11 x_2 a1 f r_59 S_62)))
def bX12_readsMany (rec : Nat → Int → St → Option (Int × St)) (S0 : St) (a1 : Int) : Option (Int × St) := gd (0 ≤ (24 + a1) ∧ (24 + a1) < 228) <| nx (S0 84 (24 + a1)) fun x_2 => bd1 (mX12_here S0) fun r_4 => bd1 (mJ0_charAt_5068e tx20 (x_2 - 3)) fun r_6 => gd ((inI r_4) ∧ (inI r_6)) <| if r_4 = r_6 then (nx (up S0 83 41 ((S0 83 41) + 1)) fun S_9 => bd1 (mJ0_charAt_5068e tx21 (x_2 - 3)) fun r_11 => bd2 (mX12_node S_9 x_2 0 0) fun r_13 S_14 => bd2 (mX12_readsMany_60 rec r_13 r_11 x_2 a1 FU (-1) S_14) fun t_17 S_18 => if t_17 = 0 then (some ((-1), S_18)) else (nx (up S_18 83 41 ((S_18 83 41) + 1)) fun S_22 => gd (0 ≤ (48 + a1) ∧ (48 + a1) < 228) <| nx (S_22 84 (48 + a1)) fun x_24 => gd (inI x_24) <| if x_24 ≤ 0 then (gd (inI x_2) <| if x_2 = 6 then (gd (0 ≤ r_13 ∧ r_13 < 1024) <| gd (inI (S_22 100 r_13)) <| if (S_22 100 r_13) = 0 then (some ((-1), S_22)) else (some (r_13, S_22))) else (some (r_13, S_22))) else (gd (0 ≤ r_13 ∧ r_13 < 1024) <| gd (inI (S_22 100 r_13)) <| if (S_22 100 r_13) = x_24 then (gd (inI x_2) <| if x_2 = 6 then (if (S_22 100 r_13) = 0 then (some ((-1), S_22)) else (some (r_13, S_22))) else (some (r_13, S_22))) else (some ((-1), S_22))))) else (some ((-1), S0))
set_option maxHeartbeats 4000000 in
set_option maxRecDepth 100000 in
theorem spX12_readsMany (l : Launch) {D : va_G} {cy : Nat → ClassId} {b n : Nat} (hn : 102 ≤ n) {X : Nat → va_E} (rec : Nat → Int → St → Option (Int × St)) (d : Nat) (hd : 203 ≤ d) (hr0 : ∀ (S0 : St) (a1 : Int) (o1 : Int) (o2 : St), rec 0 a1 S0 = some (o1, o2) → gI l yX12_readsMany cX12_readsMany 7 (some .int) d 0 0 D cy b n (enc b cy X S0) [.ref (b + 80), .int (iI a1)] (fun r u => r = iI o1 ∧ u = (n, enc b cy X o2))) (hr1 : ∀ (S0 : St) (a1 : Int) (o1 : Int) (o2 : St), rec 1 a1 S0 = some (o1, o2) → gI l yX12_readsTerm cX12_readsTerm 7 (some .int) d 0 0 D cy b n (enc b cy X S0) [.ref (b + 80), .int (iI a1)] (fun r u => r = iI o1 ∧ u = (n, enc b cy X o2))) (hr2 : ∀ (S0 : St) (a1 : Int) (o1 : Int) (o2 : St), rec 2 a1 S0 = some (o1, o2) → gI l yX12_readsThing cX12_readsThing 4 (some .int) d 0 0 D cy b n (enc b cy X S0) [.ref (b + 80), .int (iI a1)] (fun r u => r = iI o1 ∧ u = (n, enc b cy X o2))) (S0 : St) (a1 : Int) (o1 : Int) (o2 : St) (hM : bX12_readsMany rec S0 a1 = some (o1, o2)) : gI l yX12_readsMany cX12_readsMany 7 (some .int) (d + 1) 0 0 D cy b n (enc b cy X S0) [.ref (b + 80), .int (iI a1)] (fun r u => r = iI o1 ∧ u = (n, enc b cy X o2)) := by
  refine gI_of (by decide) (Nat.le_of_ble_eq_true rfl) ?_
  intro p e s m args below meth c S hr hlk hin hsz ls hl hG
  have hx := S.1
  have hb := S.2.1
  have hl : lv_has ls 7 [(0, .ref (b + 80)), (1, .int (iI a1))] := hl
  replace hG : gW D cy b n s s.heap [] (enc b cy X S0) := hG
  obtain ⟨H, eH⟩ : ∃ H, H = s.heap := ⟨_, rfl⟩
  obtain ⟨locs, elocs⟩ : ∃ locs : List Loc, locs = [] := ⟨_, rfl⟩
  rw [← eH, ← elocs] at hG
  rw [← eH, ← elocs]
  clear eH elocs
  unfold bX12_readsMany at hM
  refine lv_aload_n hx hb dX12_readsMany_0 rfl (lv_at hl 0 rfl) ?_
  refine m_get S hG 80 83 0 rfl ec_83 cpX12 wm_1673 dX12_readsMany_1 rfl (Nat.lt_of_lt_of_le (Nat.le_of_ble_eq_true rfl) hn) (by decide) ?_
  refine lv_bipush (v := iI 24) hx hb dX12_readsMany_4 (by decide) ?_
  refine lv_iload_n hx hb dX12_readsMany_6 rfl (lv_at hl 1 rfl) ?_
  refine gi_add hx hb dX12_readsMany_7 ?_
  obtain ⟨hg_1, hM⟩ := gd_some hM
  refine mi_ald S hG 81 84 rfl ec_84 (Nat.lt_of_lt_of_le (Nat.le_of_ble_eq_true rfl) hn) dX12_readsMany_8 hg_1 (by decide) ?_
  refine gi_nm (fun x_2 ex_2 => ?_)
  replace hM := nx_at hM ex_2
  clear ex_2
  refine lv_istore_n (lv' := [(2, .int (iI x_2)), (0, .ref (b + 80)), (1, .int (iI a1))]) hx hb dX12_readsMany_9 rfl hl (by decide) rfl (fun ls hl => ?_)
  refine lv_aload_n hx hb dX12_readsMany_10 rfl (lv_at hl 1 rfl) ?_
  obtain ⟨r_4, hc_3, hM⟩ := bd1_some hM
  refine g_vi (As := []) (rest := []) S hG hsz (vX12_here l hn  hc_3) wV_12_503 (ec_83 _) cpX12 (Nat.lt_of_lt_of_le (Nat.le_of_ble_eq_true rfl) hn) dX12_readsMany_11 rfl hl.1 (ar := 0) (by decide +kernel) rfl (by refine ⟨?_, ?_, ?_, ?_⟩ <;> first | exact Nat.le_of_ble_eq_true rfl | (simp only [gRm]; omega)) (Nat.le_of_ble_eq_true rfl) (fun rv uu H locs hp hG => ?_)
  obtain ⟨rfl, rfl⟩ := hp
  replace hG : gW D cy b n s H locs (enc b cy X S0) := hG
  refine va_ldcwS (own := "GrownKindsModel") (index := 443) (tx := "[{<(") hx hb S.2.2.2.1 (hG.1.2.1.2.1 20 _ rfl).1 dX12_readsMany_14 ?_
  refine lv_iload_n hx hb dX12_readsMany_17 rfl (lv_at hl 0 rfl) ?_
  refine lv_iconst (v := iI 3) hx hb dX12_readsMany_18 (by decide) ?_
  refine gi_sub hx hb dX12_readsMany_19 ?_
  obtain ⟨r_6, hc_5, hM⟩ := bd1_some hM
  refine g_viS (As := [.int (iI (x_2 - 3))]) (rest := [.int (iI r_4)]) S hG hsz (vJ0_charAt_5068e l hn hs20  (x_2 - 3) hc_5) wV_12_157 hs20 rfl dX12_readsMany_20 rfl hl.1 (ar := 1) (by decide +kernel) rfl (by refine ⟨?_, ?_, ?_, ?_⟩ <;> first | exact Nat.le_of_ble_eq_true rfl | (simp only [gRm]; omega)) (Nat.le_of_ble_eq_true rfl) (fun rv uu H locs hp hG => ?_)
  obtain ⟨rfl, rfl⟩ := hp
  replace hG : gW D cy b n s H locs (enc b cy X S0) := hG
  obtain ⟨hg_7, hM⟩ := gd_some hM
  refine gi_icmp_eq (tgt := 28) hx hb dX12_readsMany_23 (by decide) hg_7.1 hg_7.2 (fun c_8 => ?_) (fun c_8 => ?_)
  · replace hM := ifp hM c_8
    refine lv_aload_n hx hb dX12_readsMany_28 rfl (lv_at hl 1 rfl) ?_
    refine lv_dup hx hb dX12_readsMany_29 rfl ?_
    refine m_get S hG 80 83 41 rfl ec_83 cpX12 wm_1714 dX12_readsMany_30 rfl (Nat.lt_of_lt_of_le (Nat.le_of_ble_eq_true rfl) hn) (by decide) ?_
    refine lv_iconst (v := iI 1) hx hb dX12_readsMany_33 (by decide) ?_
    refine gi_add hx hb dX12_readsMany_34 ?_
    refine m_put S hG 80 83 41 rfl 41 ((S0 83 41) + 1) ec_83 cpX12 wm_1714 dX12_readsMany_35 (pf_83_41) (Nat.lt_of_lt_of_le (Nat.le_of_ble_eq_true rfl) hn) (by decide) (Nat.le_of_ble_eq_true rfl) rfl rfl rfl (fun H locs S_9 eS_9 hG => ?_)
    replace hM := nx_at hM eS_9
    clear eS_9
    refine va_ldcwS (own := "GrownKindsModel") (index := 445) (tx := "]}>)") hx hb S.2.2.2.1 (hG.1.2.1.2.1 21 _ rfl).1 dX12_readsMany_38 ?_
    refine lv_iload_n hx hb dX12_readsMany_41 rfl (lv_at hl 0 rfl) ?_
    refine lv_iconst (v := iI 3) hx hb dX12_readsMany_42 (by decide) ?_
    refine gi_sub hx hb dX12_readsMany_43 ?_
    obtain ⟨r_11, hc_10, hM⟩ := bd1_some hM
    refine g_viS (As := [.int (iI (x_2 - 3))]) (rest := []) S hG hsz (vJ0_charAt_5068e l hn hs21  (x_2 - 3) hc_10) wV_12_157 hs21 rfl dX12_readsMany_44 rfl hl.1 (ar := 1) (by decide +kernel) rfl (by refine ⟨?_, ?_, ?_, ?_⟩ <;> first | exact Nat.le_of_ble_eq_true rfl | (simp only [gRm]; omega)) (Nat.le_of_ble_eq_true rfl) (fun rv uu H locs hp hG => ?_)
    obtain ⟨rfl, rfl⟩ := hp
    replace hG : gW D cy b n s H locs (enc b cy X S_9) := hG
    refine lv_istore_n (lv' := [(3, .int (iI r_11)), (2, .int (iI x_2)), (0, .ref (b + 80)), (1, .int (iI a1))]) hx hb dX12_readsMany_47 rfl hl (by decide) rfl (fun ls hl => ?_)
    refine lv_aload_n hx hb dX12_readsMany_48 rfl (lv_at hl 2 rfl) ?_
    refine lv_iload_n hx hb dX12_readsMany_49 rfl (lv_at hl 1 rfl) ?_
    refine lv_iconst (v := iI 0) hx hb dX12_readsMany_50 (by decide) ?_
    refine lv_iconst (v := iI 0) hx hb dX12_readsMany_51 (by decide) ?_
    obtain ⟨r_13, S_14, hc_12, hM⟩ := bd2_some hM
    refine g_vi (As := [.int (iI x_2), .int (iI 0), .int (iI 0)]) (rest := []) S hG hsz (vX12_node l hn x_2 0 0 hc_12) wV_12_506 (ec_83 _) cpX12 (Nat.lt_of_lt_of_le (Nat.le_of_ble_eq_true rfl) hn) dX12_readsMany_52 rfl hl.1 (ar := 3) (by decide +kernel) rfl (by refine ⟨?_, ?_, ?_, ?_⟩ <;> first | exact Nat.le_of_ble_eq_true rfl | (simp only [gRm]; omega)) (Nat.le_of_ble_eq_true rfl) (fun rv uu H locs hp hG => ?_)
    obtain ⟨rfl, rfl⟩ := hp
    replace hG : gW D cy b n s H locs (enc b cy X S_14) := hG
    refine lv_istore (lv' := [(4, .int (iI r_13)), (3, .int (iI r_11)), (2, .int (iI x_2)), (0, .ref (b + 80)), (1, .int (iI a1))]) hx hb dX12_readsMany_55 hl (by decide) rfl (fun ls hl => ?_)
    refine lv_iconst (v := iI (-1)) hx hb dX12_readsMany_57 (by decide) ?_
    refine lv_istore (lv' := [(5, .int (iI (-1))), (4, .int (iI r_13)), (3, .int (iI r_11)), (2, .int (iI x_2)), (0, .ref (b + 80)), (1, .int (iI a1))]) hx hb dX12_readsMany_58 hl (by decide) rfl (fun ls hl => ?_)
    obtain ⟨t_17, S_18, hc_19, hM⟩ := bd2_some hM
    have hK_20 : ∀ (H : Heap) (locs : List Loc) (ls : Array Slot), t_17 = 0 → gW D cy b n s H locs (enc b cy X S_18) → lv_has ls 7 [] → W p l e (gRm (d + 1) 0 0) s m args below meth c H locs 0 0 (gQI D cy b s args below 0 0 (fun r u => r = iI o1 ∧ u = (n, enc b cy X o2))) (F0 m 115 ls []) := by
      intro H locs ls ht hG hl
      subst ht
      replace hM := ifp hM rfl
      refine lv_iconst (v := iI (-1)) hx hb dX12_readsMany_115 (by decide) ?_
      cases hM
      exact g_iret S hr hlk hG hsz dX12_readsMany_116 ⟨Nat.le_of_ble_eq_true rfl, Nat.le_of_ble_eq_true rfl⟩ ⟨rfl, rfl⟩
    have hK_21 : ∀ (H : Heap) (locs : List Loc) (ls : Array Slot), t_17 = 1 → gW D cy b n s H locs (enc b cy X S_18) → lv_has ls 7 [(4, .int (iI r_13)), (2, .int (iI x_2)), (0, .ref (b + 80)), (1, .int (iI a1))] → W p l e (gRm (d + 1) 0 0) s m args below meth c H locs 0 0 (gQI D cy b s args below 0 0 (fun r u => r = iI o1 ∧ u = (n, enc b cy X o2))) (F0 m 150 ls []) := by
      intro H locs ls ht hG hl
      subst ht
      replace hM := ifn hM (by decide)
      refine lv_aload_n hx hb dX12_readsMany_150 rfl (lv_at hl 2 rfl) ?_
      refine lv_dup hx hb dX12_readsMany_151 rfl ?_
      refine m_get S hG 80 83 41 rfl ec_83 cpX12 wm_1714 dX12_readsMany_152 rfl (Nat.lt_of_lt_of_le (Nat.le_of_ble_eq_true rfl) hn) (by decide) ?_
      refine lv_iconst (v := iI 1) hx hb dX12_readsMany_155 (by decide) ?_
      refine gi_add hx hb dX12_readsMany_156 ?_
      refine m_put S hG 80 83 41 rfl 41 ((S_18 83 41) + 1) ec_83 cpX12 wm_1714 dX12_readsMany_157 (pf_83_41) (Nat.lt_of_lt_of_le (Nat.le_of_ble_eq_true rfl) hn) (by decide) (Nat.le_of_ble_eq_true rfl) rfl rfl rfl (fun H locs S_22 eS_22 hG => ?_)
      replace hM := nx_at hM eS_22
      clear eS_22
      refine lv_aload_n hx hb dX12_readsMany_160 rfl (lv_at hl 2 rfl) ?_
      refine m_get S hG 80 83 0 rfl ec_83 cpX12 wm_1673 dX12_readsMany_161 rfl (Nat.lt_of_lt_of_le (Nat.le_of_ble_eq_true rfl) hn) (by decide) ?_
      refine lv_bipush (v := iI 48) hx hb dX12_readsMany_164 (by decide) ?_
      refine lv_iload_n hx hb dX12_readsMany_166 rfl (lv_at hl 3 rfl) ?_
      refine gi_add hx hb dX12_readsMany_167 ?_
      obtain ⟨hg_23, hM⟩ := gd_some hM
      refine mi_ald S hG 81 84 rfl ec_84 (Nat.lt_of_lt_of_le (Nat.le_of_ble_eq_true rfl) hn) dX12_readsMany_168 hg_23 (by decide) ?_
      refine gi_nm (fun x_24 ex_24 => ?_)
      replace hM := nx_at hM ex_24
      clear ex_24
      refine lv_istore (lv' := [(6, .int (iI x_24)), (4, .int (iI r_13)), (2, .int (iI x_2)), (0, .ref (b + 80)), (1, .int (iI a1))]) hx hb dX12_readsMany_169 hl (by decide) rfl (fun ls hl => ?_)
      refine lv_iload hx hb dX12_readsMany_171 (lv_at hl 0 rfl) ?_
      obtain ⟨hg_25, hM⟩ := gd_some hM
      refine gi_if_le (tgt := 188) hx hb dX12_readsMany_173 (by decide) hg_25 (fun c_26 => ?_) (fun c_26 => ?_)
      · replace hM := ifp hM c_26
        refine lv_iload_n hx hb dX12_readsMany_188 rfl (lv_at hl 2 rfl) ?_
        refine lv_bipush (v := iI 6) hx hb dX12_readsMany_189 (by decide) ?_
        obtain ⟨hg_27, hM⟩ := gd_some hM
        refine gi_icmp_ne (tgt := 208) hx hb dX12_readsMany_191 (by decide) hg_27 (by decide) (fun c_28 => ?_) (fun c_28 => ?_)
        · replace hM := ifn hM c_28
          refine lv_iload hx hb dX12_readsMany_208 (lv_at hl 1 rfl) ?_
          cases hM
          exact g_iret S hr hlk hG hsz dX12_readsMany_210 ⟨Nat.le_of_ble_eq_true rfl, Nat.le_of_ble_eq_true rfl⟩ ⟨rfl, rfl⟩
        · replace hM := ifp hM c_28
          refine lv_aload_n hx hb dX12_readsMany_194 rfl (lv_at hl 3 rfl) ?_
          refine m_get S hG 80 83 34 rfl ec_83 cpX12 wm_1707 dX12_readsMany_195 rfl (Nat.lt_of_lt_of_le (Nat.le_of_ble_eq_true rfl) hn) (by decide) ?_
          refine lv_iload hx hb dX12_readsMany_198 (lv_at hl 1 rfl) ?_
          obtain ⟨hg_29, hM⟩ := gd_some hM
          refine mi_ald S hG 97 100 rfl ec_100 (Nat.lt_of_lt_of_le (Nat.le_of_ble_eq_true rfl) hn) dX12_readsMany_200 hg_29 (by decide) ?_
          obtain ⟨hg_30, hM⟩ := gd_some hM
          refine gi_if_ne (tgt := 208) hx hb dX12_readsMany_201 (by decide) hg_30 (fun c_31 => ?_) (fun c_31 => ?_)
          · replace hM := ifn hM c_31
            refine lv_iload hx hb dX12_readsMany_208 (lv_at hl 1 rfl) ?_
            cases hM
            exact g_iret S hr hlk hG hsz dX12_readsMany_210 ⟨Nat.le_of_ble_eq_true rfl, Nat.le_of_ble_eq_true rfl⟩ ⟨rfl, rfl⟩
          · replace hM := ifp hM c_31
            refine lv_iconst (v := iI (-1)) hx hb dX12_readsMany_204 (by decide) ?_
            refine lv_goto (tgt := 210) hx hb dX12_readsMany_205 (by decide) ?_
            cases hM
            exact g_iret S hr hlk hG hsz dX12_readsMany_210 ⟨Nat.le_of_ble_eq_true rfl, Nat.le_of_ble_eq_true rfl⟩ ⟨rfl, rfl⟩
      · replace hM := ifn hM c_26
        refine lv_aload_n hx hb dX12_readsMany_176 rfl (lv_at hl 3 rfl) ?_
        refine m_get S hG 80 83 34 rfl ec_83 cpX12 wm_1707 dX12_readsMany_177 rfl (Nat.lt_of_lt_of_le (Nat.le_of_ble_eq_true rfl) hn) (by decide) ?_
        refine lv_iload hx hb dX12_readsMany_180 (lv_at hl 1 rfl) ?_
        obtain ⟨hg_32, hM⟩ := gd_some hM
        refine mi_ald S hG 97 100 rfl ec_100 (Nat.lt_of_lt_of_le (Nat.le_of_ble_eq_true rfl) hn) dX12_readsMany_182 hg_32 (by decide) ?_
        refine lv_iload hx hb dX12_readsMany_183 (lv_at hl 0 rfl) ?_
        obtain ⟨hg_33, hM⟩ := gd_some hM
        refine gi_icmp_ne (tgt := 204) hx hb dX12_readsMany_185 (by decide) hg_33 hg_25 (fun c_34 => ?_) (fun c_34 => ?_)
        · replace hM := ifn hM c_34
          refine lv_iconst (v := iI (-1)) hx hb dX12_readsMany_204 (by decide) ?_
          refine lv_goto (tgt := 210) hx hb dX12_readsMany_205 (by decide) ?_
          cases hM
          exact g_iret S hr hlk hG hsz dX12_readsMany_210 ⟨Nat.le_of_ble_eq_true rfl, Nat.le_of_ble_eq_true rfl⟩ ⟨rfl, rfl⟩
        · replace hM := ifp hM c_34
          refine lv_iload_n hx hb dX12_readsMany_188 rfl (lv_at hl 2 rfl) ?_
          refine lv_bipush (v := iI 6) hx hb dX12_readsMany_189 (by decide) ?_
          obtain ⟨hg_35, hM⟩ := gd_some hM
          refine gi_icmp_ne (tgt := 208) hx hb dX12_readsMany_191 (by decide) hg_35 (by decide) (fun c_36 => ?_) (fun c_36 => ?_)
          · replace hM := ifn hM c_36
            refine lv_iload hx hb dX12_readsMany_208 (lv_at hl 1 rfl) ?_
            cases hM
            exact g_iret S hr hlk hG hsz dX12_readsMany_210 ⟨Nat.le_of_ble_eq_true rfl, Nat.le_of_ble_eq_true rfl⟩ ⟨rfl, rfl⟩
          · replace hM := ifp hM c_36
            refine lv_aload_n hx hb dX12_readsMany_194 rfl (lv_at hl 3 rfl) ?_
            refine m_get S hG 80 83 34 rfl ec_83 cpX12 wm_1707 dX12_readsMany_195 rfl (Nat.lt_of_lt_of_le (Nat.le_of_ble_eq_true rfl) hn) (by decide) ?_
            refine lv_iload hx hb dX12_readsMany_198 (lv_at hl 1 rfl) ?_
            refine mi_ald S hG 97 100 rfl ec_100 (Nat.lt_of_lt_of_le (Nat.le_of_ble_eq_true rfl) hn) dX12_readsMany_200 hg_32 (by decide) ?_
            refine gi_if_ne (tgt := 208) hx hb dX12_readsMany_201 (by decide) hg_33 (fun c_37 => ?_) (fun c_37 => ?_)
            · replace hM := ifn hM c_37
              refine lv_iload hx hb dX12_readsMany_208 (lv_at hl 1 rfl) ?_
              cases hM
              exact g_iret S hr hlk hG hsz dX12_readsMany_210 ⟨Nat.le_of_ble_eq_true rfl, Nat.le_of_ble_eq_true rfl⟩ ⟨rfl, rfl⟩
            · replace hM := ifp hM c_37
              refine lv_iconst (v := iI (-1)) hx hb dX12_readsMany_204 (by decide) ?_
              refine lv_goto (tgt := 210) hx hb dX12_readsMany_205 (by decide) ?_
              cases hM
              exact g_iret S hr hlk hG hsz dX12_readsMany_210 ⟨Nat.le_of_ble_eq_true rfl, Nat.le_of_ble_eq_true rfl⟩ ⟨rfl, rfl⟩
    have loop_38 : ∀ (f : Nat) (v_15 : Int) (S_16 : St) (H : Heap) (locs : List Loc) (ls : Array Slot), mX12_readsMany_60 rec r_13 r_11 x_2 a1 f v_15 S_16 = some (t_17, S_18) → gW D cy b n s H locs (enc b cy X S_16) → lv_has ls 7 [(5, .int (iI v_15)), (4, .int (iI r_13)), (3, .int (iI r_11)), (2, .int (iI x_2)), (0, .ref (b + 80)), (1, .int (iI a1))] → W p l e (gRm (d + 1) 0 0) s m args below meth c H locs 0 0 (gQI D cy b s args below 0 0 (fun r u => r = iI o1 ∧ u = (n, enc b cy X o2))) (F0 m 60 ls []) := by
      clear hM
      intro f
      induction f with
      | zero => intro v_15 S_16 H locs ls hM; rw [mX12_readsMany_60] at hM; cases hM
      | succ f_40 ih_39 =>
        intro v_15 S_16 H locs ls hM hG hl
        rw [mX12_readsMany_60] at hM
        refine lv_aload_n hx hb dX12_readsMany_60 rfl (lv_at hl 4 rfl) ?_
        obtain ⟨r_42, hc_41, hM⟩ := bd1_some hM
        refine g_vi (As := []) (rest := []) S hG hsz (vX12_here l hn  hc_41) wV_12_503 (ec_83 _) cpX12 (Nat.lt_of_lt_of_le (Nat.le_of_ble_eq_true rfl) hn) dX12_readsMany_61 rfl hl.1 (ar := 0) (by decide +kernel) rfl (by refine ⟨?_, ?_, ?_, ?_⟩ <;> first | exact Nat.le_of_ble_eq_true rfl | (simp only [gRm]; omega)) (Nat.le_of_ble_eq_true rfl) (fun rv uu H locs hp hG => ?_)
        obtain ⟨rfl, rfl⟩ := hp
        replace hG : gW D cy b n s H locs (enc b cy X S_16) := hG
        refine lv_iload_n hx hb dX12_readsMany_64 rfl (lv_at hl 2 rfl) ?_
        obtain ⟨hg_43, hM⟩ := gd_some hM
        refine gi_icmp_eq (tgt := 150) hx hb dX12_readsMany_65 (by decide) hg_43.1 hg_43.2 (fun c_44 => ?_) (fun c_44 => ?_)
        · replace hM := ifp hM c_44
          cases hM
          exact hK_21 H locs ls rfl hG (lv_sub hl [1, 3, 4, 5] rfl)
        · replace hM := ifn hM c_44
          refine lv_aload_n hx hb dX12_readsMany_68 rfl (lv_at hl 4 rfl) ?_
          obtain ⟨r_46, hc_45, hM⟩ := bd1_some hM
          refine g_vi (As := []) (rest := []) S hG hsz (vX12_here l hn  hc_45) wV_12_503 (ec_83 _) cpX12 (Nat.lt_of_lt_of_le (Nat.le_of_ble_eq_true rfl) hn) dX12_readsMany_69 rfl hl.1 (ar := 0) (by decide +kernel) rfl (by refine ⟨?_, ?_, ?_, ?_⟩ <;> first | exact Nat.le_of_ble_eq_true rfl | (simp only [gRm]; omega)) (Nat.le_of_ble_eq_true rfl) (fun rv uu H locs hp hG => ?_)
          obtain ⟨rfl, rfl⟩ := hp
          replace hG : gW D cy b n s H locs (enc b cy X S_16) := hG
          obtain ⟨z_47, S_48, hc_49, hM⟩ := bd2_some hM
          have hK_50 : ∀ (H : Heap) (locs : List Loc) (ls : Array Slot), gW D cy b n s H locs (enc b cy X S_48) → lv_has ls 7 [(5, .int (iI v_15)), (4, .int (iI r_13)), (3, .int (iI r_11)), (2, .int (iI x_2)), (0, .ref (b + 80)), (1, .int (iI a1))] → W p l e (gRm (d + 1) 0 0) s m args below meth c H locs 0 0 (gQI D cy b s args below 0 0 (fun r u => r = iI o1 ∧ u = (n, enc b cy X o2))) (F0 m 92 ls [.int (iI z_47)]) := by
            intro H locs ls hG hl
            refine lv_istore (lv' := [(6, .int (iI z_47)), (5, .int (iI v_15)), (4, .int (iI r_13)), (3, .int (iI r_11)), (2, .int (iI x_2)), (0, .ref (b + 80)), (1, .int (iI a1))]) hx hb dX12_readsMany_92 hl (by decide) rfl (fun ls hl => ?_)
            refine lv_iload hx hb dX12_readsMany_94 (lv_at hl 0 rfl) ?_
            obtain ⟨hg_51, hM⟩ := gd_some hM
            refine gi_if_lt (tgt := 115) hx hb dX12_readsMany_96 (by decide) hg_51 (fun c_52 => ?_) (fun c_52 => ?_)
            · replace hM := ifp hM c_52
              cases hM
              exact hK_20 H locs ls rfl hG (lv_sub hl [] rfl)
            · replace hM := ifn hM c_52
              refine lv_iload_n hx hb dX12_readsMany_99 rfl (lv_at hl 4 rfl) ?_
              refine lv_iconst (v := iI 5) hx hb dX12_readsMany_100 (by decide) ?_
              obtain ⟨t_53, hc_54, hM⟩ := bd1_some hM
              have hK_55 : ∀ (H : Heap) (locs : List Loc) (ls : Array Slot), t_53 = 0 → gW D cy b n s H locs (enc b cy X S_48) → lv_has ls 7 [] → W p l e (gRm (d + 1) 0 0) s m args below meth c H locs 0 0 (gQI D cy b s args below 0 0 (fun r u => r = iI o1 ∧ u = (n, enc b cy X o2))) (F0 m 115 ls []) := by
                intro H locs ls ht hG hl
                subst ht
                replace hM := ifp hM rfl
                cases hM
                exact hK_20 H locs ls rfl hG (lv_sub hl [] rfl)
              have hK_56 : ∀ (H : Heap) (locs : List Loc) (ls : Array Slot), t_53 = 1 → gW D cy b n s H locs (enc b cy X S_48) → lv_has ls 7 [(6, .int (iI z_47)), (5, .int (iI v_15)), (4, .int (iI r_13)), (3, .int (iI r_11)), (2, .int (iI x_2)), (0, .ref (b + 80)), (1, .int (iI a1))] → W p l e (gRm (d + 1) 0 0) s m args below meth c H locs 0 0 (gQI D cy b s args below 0 0 (fun r u => r = iI o1 ∧ u = (n, enc b cy X o2))) (F0 m 117 ls []) := by
                intro H locs ls ht hG hl
                subst ht
                replace hM := ifn hM (by decide)
                refine lv_aload_n hx hb dX12_readsMany_117 rfl (lv_at hl 5 rfl) ?_
                refine lv_iload hx hb dX12_readsMany_118 (lv_at hl 2 rfl) ?_
                refine lv_iload hx hb dX12_readsMany_120 (lv_at hl 1 rfl) ?_
                refine lv_iload hx hb dX12_readsMany_122 (lv_at hl 0 rfl) ?_
                refine lv_aload_n hx hb dX12_readsMany_124 rfl (lv_at hl 5 rfl) ?_
                refine m_get S hG 80 83 35 rfl ec_83 cpX12 wm_1708 dX12_readsMany_125 rfl (Nat.lt_of_lt_of_le (Nat.le_of_ble_eq_true rfl) hn) (by decide) ?_
                refine lv_iload hx hb dX12_readsMany_128 (lv_at hl 0 rfl) ?_
                obtain ⟨hg_57, hM⟩ := gd_some hM
                refine mi_ald S hG 98 101 rfl ec_101 (Nat.lt_of_lt_of_le (Nat.le_of_ble_eq_true rfl) hn) dX12_readsMany_130 hg_57 (by decide) ?_
                obtain ⟨r_59, S_60, hc_58, hM⟩ := bd2_some hM
                refine g_vi (As := [.int (iI r_13), .int (iI v_15), .int (iI z_47), .int (iI (S_48 101 z_47))]) (rest := []) S hG hsz (vX12_comesBehind l hn r_13 v_15 z_47 (S_48 101 z_47) hc_58) wV_12_512 (ec_83 _) cpX12 (Nat.lt_of_lt_of_le (Nat.le_of_ble_eq_true rfl) hn) dX12_readsMany_131 rfl hl.1 (ar := 4) (by decide +kernel) rfl (by refine ⟨?_, ?_, ?_, ?_⟩ <;> first | exact Nat.le_of_ble_eq_true rfl | (simp only [gRm]; omega)) (Nat.le_of_ble_eq_true rfl) (fun rv uu H locs hp hG => ?_)
                obtain ⟨rfl, rfl⟩ := hp
                replace hG : gW D cy b n s H locs (enc b cy X S_60) := hG
                refine lv_istore (lv' := [(5, .int (iI r_59)), (6, .int (iI z_47)), (4, .int (iI r_13)), (3, .int (iI r_11)), (2, .int (iI x_2)), (0, .ref (b + 80)), (1, .int (iI a1))]) hx hb dX12_readsMany_134 hl (by decide) rfl (fun ls hl => ?_)
                refine lv_aload_n hx hb dX12_readsMany_136 rfl (lv_at hl 5 rfl) ?_
                refine m_get S hG 80 83 34 rfl ec_83 cpX12 wm_1707 dX12_readsMany_137 rfl (Nat.lt_of_lt_of_le (Nat.le_of_ble_eq_true rfl) hn) (by decide) ?_
                refine lv_iload hx hb dX12_readsMany_140 (lv_at hl 2 rfl) ?_
                refine lv_dup2_11 hx hb dX12_readsMany_142 rfl rfl ?_
                obtain ⟨hg_61, hM⟩ := gd_some hM
                refine mi_ald S hG 97 100 rfl ec_100 (Nat.lt_of_lt_of_le (Nat.le_of_ble_eq_true rfl) hn) dX12_readsMany_143 hg_61 (by decide) ?_
                refine lv_iconst (v := iI 1) hx hb dX12_readsMany_144 (by decide) ?_
                refine gi_add hx hb dX12_readsMany_145 ?_
                refine mi_ast S hG 97 100 rfl ec_100 (Nat.lt_of_lt_of_le (Nat.le_of_ble_eq_true rfl) hn) dX12_readsMany_146 hg_61 (by decide) (fun H locs S_62 eS_62 hG => ?_)
                replace hM := nx_at hM eS_62
                clear eS_62
                refine lv_goto (tgt := 60) hx hb dX12_readsMany_147 (by decide) ?_
                exact ih_39 r_59 S_62 H locs ls hM hG (lv_sub hl [0, 2, 3, 4, 5, 6] rfl)
              clear hM
              replace hM := hc_54
              obtain ⟨hg_63, hM⟩ := gd_some hM
              refine gi_icmp_ne (tgt := 117) hx hb dX12_readsMany_101 (by decide) hg_63 (by decide) (fun c_64 => ?_) (fun c_64 => ?_)
              · replace hM := ifn hM c_64
                cases hM
                exact hK_56 H locs ls rfl hG (lv_sub hl [0, 1, 2, 3, 4, 5, 6] rfl)
              · replace hM := ifp hM c_64
                refine lv_aload_n hx hb dX12_readsMany_104 rfl (lv_at hl 5 rfl) ?_
                refine lv_iload hx hb dX12_readsMany_105 (lv_at hl 2 rfl) ?_
                refine lv_iload hx hb dX12_readsMany_107 (lv_at hl 0 rfl) ?_
                obtain ⟨r_66, hc_65, hM⟩ := bd1_some hM
                refine g_vi (As := [.int (iI r_13), .int (iI z_47)]) (rest := []) S hG hsz (vX12_isAmong l hn r_13 z_47 hc_65) wV_12_516 (ec_83 _) cpX12 (Nat.lt_of_lt_of_le (Nat.le_of_ble_eq_true rfl) hn) dX12_readsMany_109 rfl hl.1 (ar := 2) (by decide +kernel) rfl (by refine ⟨?_, ?_, ?_, ?_⟩ <;> first | exact Nat.le_of_ble_eq_true rfl | (simp only [gRm]; omega)) (Nat.le_of_ble_eq_true rfl) (fun rv uu H locs hp hG => ?_)
                obtain ⟨rfl, rfl⟩ := hp
                replace hG : gW D cy b n s H locs (enc b cy X S_48) := hG
                obtain ⟨hg_67, hM⟩ := gd_some hM
                refine gi_if_eq (tgt := 117) hx hb dX12_readsMany_112 (by decide) hg_67 (fun c_68 => ?_) (fun c_68 => ?_)
                · replace hM := ifp hM c_68
                  cases hM
                  exact hK_56 H locs ls rfl hG (lv_sub hl [0, 1, 2, 3, 4, 5, 6] rfl)
                · replace hM := ifn hM c_68
                  cases hM
                  exact hK_55 H locs ls rfl hG (lv_sub hl [] rfl)
          clear hM
          replace hM := hc_49
          obtain ⟨hg_69, hM⟩ := gd_some hM
          refine gi_if_ge (tgt := 79) hx hb dX12_readsMany_72 (by decide) hg_69 (fun c_70 => ?_) (fun c_70 => ?_)
          · replace hM := ifp hM c_70
            refine lv_aload_n hx hb dX12_readsMany_79 rfl (lv_at hl 4 rfl) ?_
            refine lv_aload_n hx hb dX12_readsMany_80 rfl (lv_at hl 4 rfl) ?_
            refine m_get S hG 80 83 0 rfl ec_83 cpX12 wm_1673 dX12_readsMany_81 rfl (Nat.lt_of_lt_of_le (Nat.le_of_ble_eq_true rfl) hn) (by decide) ?_
            refine lv_bipush (v := iI 72) hx hb dX12_readsMany_84 (by decide) ?_
            refine lv_iload_n hx hb dX12_readsMany_86 rfl (lv_at hl 5 rfl) ?_
            refine gi_add hx hb dX12_readsMany_87 ?_
            obtain ⟨hg_71, hM⟩ := gd_some hM
            refine mi_ald S hG 81 84 rfl ec_84 (Nat.lt_of_lt_of_le (Nat.le_of_ble_eq_true rfl) hn) dX12_readsMany_88 hg_71 (by decide) ?_
            obtain ⟨r_73, S_74, hc_72, hM⟩ := bd2_some hM
            refine g_vi (As := [.int (iI (S_16 84 (72 + a1)))]) (rest := []) S hG hsz (hr2 _ (S_16 84 (72 + a1)) _ _ hc_72) wV_12_509 (ec_83 _) cpX12 (Nat.lt_of_lt_of_le (Nat.le_of_ble_eq_true rfl) hn) dX12_readsMany_89 rfl hl.1 (ar := 1) (by decide +kernel) rfl (by refine ⟨?_, ?_, ?_, ?_⟩ <;> first | exact Nat.le_of_ble_eq_true rfl | (simp only [gRm]; omega)) (Nat.le_of_ble_eq_true rfl) (fun rv uu H locs hp hG => ?_)
            obtain ⟨rfl, rfl⟩ := hp
            replace hG : gW D cy b n s H locs (enc b cy X S_74) := hG
            cases hM
            exact hK_50 H locs ls hG (lv_sub hl [0, 1, 2, 3, 4, 5] rfl)
          · replace hM := ifn hM c_70
            refine lv_iconst (v := iI (-1)) hx hb dX12_readsMany_75 (by decide) ?_
            refine lv_goto (tgt := 92) hx hb dX12_readsMany_76 (by decide) ?_
            cases hM
            exact hK_50 H locs ls hG (lv_sub hl [0, 1, 2, 3, 4, 5] rfl)
    exact loop_38 FU (-1) S_14 H locs ls hc_19 hG (lv_sub hl [0, 1, 2, 3, 4, 5] rfl)
  · replace hM := ifn hM c_8
    refine lv_iconst (v := iI (-1)) hx hb dX12_readsMany_26 (by decide) ?_
    cases hM
    exact g_iret S hr hlk hG hsz dX12_readsMany_27 ⟨Nat.le_of_ble_eq_true rfl, Nat.le_of_ble_eq_true rfl⟩ ⟨rfl, rfl⟩
def mX12_readsTerm_97 (rec : Nat → Int → St → Option (Int × St)) (r_13 : Int) : Nat → Int → Int → St → Option (Int × St)
  | 0, _, _, _ => none
  | f + 1, v_19, v_20, S_21 => gd (inI v_19) <| if v_19 < 0 then (some (1, S_21)) else (bd2 (rec 2 v_19 S_21) fun r_33 S_34 => gd (inI r_33) <| if 0 ≤ r_33 then (gd (0 ≤ r_33 ∧ r_33 < 1024) <| bd2 (mX12_comesBehind S_34 r_13 v_20 r_33 (S_34 101 r_33)) fun r_39 S_40 => gd (0 ≤ (96 + v_19) ∧ (96 + v_19) < 228) <| nx (S_40 84 (96 + v_19)) fun x_42 => mX12_readsTerm_97 rec r_13 f x_42 r_39 S_40) else (some (0, S_34)))
def bX12_readsTerm (rec : Nat → Int → St → Option (Int × St)) (S0 : St) (a1 : Int) : Option (Int × St) := gd (0 ≤ (198 + a1) ∧ (198 + a1) < 228) <| bd3 (gd (inI (S0 84 (198 + a1))) <| if (S0 84 (198 + a1)) = 1 then (some (1, 0, S0)) else (bd1 (mX12_here S0) fun r_46 => nx (r_46 - 48) fun x_47 => gd (inI x_47) <| gd (inI ((S0 84 (198 + a1)) - 1)) <| bd1 (mX12_in x_47 0 ((S0 84 (198 + a1)) - 1)) fun r_51 => gd (inI r_51) <| if r_51 = 0 then (some (0, x_47, S0)) else (nx (up S0 83 41 ((S0 83 41) + 1)) fun S_54 => some (1, x_47, S_54)))) fun t_2 y_3 S_4 => if t_2 = 0 then (some ((-1), S_4)) else (bd1 (mX12_isOff S_4 a1 y_3) fun r_9 => gd (inI r_9) <| if r_9 = 0 then (bd2 (mX12_node S_4 7 y_3 0) fun r_13 S_14 => bd1 (mX12_termAt S_14 a1 y_3) fun r_16 => gd (0 ≤ (120 + r_16) ∧ (120 + r_16) < 228) <| nx (S_14 84 (120 + r_16)) fun x_18 => bd2 (mX12_readsTerm_97 rec r_13 FU x_18 (-1) S_14) fun t_22 S_23 => if t_22 = 0 then (some ((-1), S_23)) else (some (r_13, S_23))) else (some ((-1), S_4)))
set_option maxHeartbeats 4000000 in
set_option maxRecDepth 100000 in
theorem spX12_readsTerm (l : Launch) {D : va_G} {cy : Nat → ClassId} {b n : Nat} (hn : 102 ≤ n) {X : Nat → va_E} (rec : Nat → Int → St → Option (Int × St)) (d : Nat) (hd : 203 ≤ d) (hr0 : ∀ (S0 : St) (a1 : Int) (o1 : Int) (o2 : St), rec 0 a1 S0 = some (o1, o2) → gI l yX12_readsMany cX12_readsMany 7 (some .int) d 0 0 D cy b n (enc b cy X S0) [.ref (b + 80), .int (iI a1)] (fun r u => r = iI o1 ∧ u = (n, enc b cy X o2))) (hr1 : ∀ (S0 : St) (a1 : Int) (o1 : Int) (o2 : St), rec 1 a1 S0 = some (o1, o2) → gI l yX12_readsTerm cX12_readsTerm 7 (some .int) d 0 0 D cy b n (enc b cy X S0) [.ref (b + 80), .int (iI a1)] (fun r u => r = iI o1 ∧ u = (n, enc b cy X o2))) (hr2 : ∀ (S0 : St) (a1 : Int) (o1 : Int) (o2 : St), rec 2 a1 S0 = some (o1, o2) → gI l yX12_readsThing cX12_readsThing 4 (some .int) d 0 0 D cy b n (enc b cy X S0) [.ref (b + 80), .int (iI a1)] (fun r u => r = iI o1 ∧ u = (n, enc b cy X o2))) (S0 : St) (a1 : Int) (o1 : Int) (o2 : St) (hM : bX12_readsTerm rec S0 a1 = some (o1, o2)) : gI l yX12_readsTerm cX12_readsTerm 7 (some .int) (d + 1) 0 0 D cy b n (enc b cy X S0) [.ref (b + 80), .int (iI a1)] (fun r u => r = iI o1 ∧ u = (n, enc b cy X o2)) := by
  refine gI_of (by decide) (Nat.le_of_ble_eq_true rfl) ?_
  intro p e s m args below meth c S hr hlk hin hsz ls hl hG
  have hx := S.1
  have hb := S.2.1
  have hl : lv_has ls 7 [(0, .ref (b + 80)), (1, .int (iI a1))] := hl
  replace hG : gW D cy b n s s.heap [] (enc b cy X S0) := hG
  obtain ⟨H, eH⟩ : ∃ H, H = s.heap := ⟨_, rfl⟩
  obtain ⟨locs, elocs⟩ : ∃ locs : List Loc, locs = [] := ⟨_, rfl⟩
  rw [← eH, ← elocs] at hG
  rw [← eH, ← elocs]
  clear eH elocs
  unfold bX12_readsTerm at hM
  refine lv_iconst (v := iI 0) hx hb dX12_readsTerm_0 (by decide) ?_
  refine lv_istore_n (lv' := [(2, .int (iI 0)), (0, .ref (b + 80)), (1, .int (iI a1))]) hx hb dX12_readsTerm_1 rfl hl (by decide) rfl (fun ls hl => ?_)
  refine lv_aload_n hx hb dX12_readsTerm_2 rfl (lv_at hl 1 rfl) ?_
  refine m_get S hG 80 83 0 rfl ec_83 cpX12 wm_1673 dX12_readsTerm_3 rfl (Nat.lt_of_lt_of_le (Nat.le_of_ble_eq_true rfl) hn) (by decide) ?_
  refine lv_sipush (v := iI 198) hx hb dX12_readsTerm_6 (by decide) ?_
  refine lv_iload_n hx hb dX12_readsTerm_9 rfl (lv_at hl 2 rfl) ?_
  refine gi_add hx hb dX12_readsTerm_10 ?_
  obtain ⟨hg_1, hM⟩ := gd_some hM
  refine mi_ald S hG 81 84 rfl ec_84 (Nat.lt_of_lt_of_le (Nat.le_of_ble_eq_true rfl) hn) dX12_readsTerm_11 hg_1 (by decide) ?_
  refine lv_iconst (v := iI 1) hx hb dX12_readsTerm_12 (by decide) ?_
  obtain ⟨t_2, y_3, S_4, hc_5, hM⟩ := bd3_some hM
  have hK_6 : ∀ (H : Heap) (locs : List Loc) (ls : Array Slot), t_2 = 0 → gW D cy b n s H locs (enc b cy X S_4) → lv_has ls 7 [] → W p l e (gRm (d + 1) 0 0) s m args below meth c H locs 0 0 (gQI D cy b s args below 0 0 (fun r u => r = iI o1 ∧ u = (n, enc b cy X o2))) (F0 m 46 ls []) := by
    intro H locs ls ht hG hl
    subst ht
    replace hM := ifp hM rfl
    refine lv_iconst (v := iI (-1)) hx hb dX12_readsTerm_46 (by decide) ?_
    cases hM
    exact g_iret S hr hlk hG hsz dX12_readsTerm_47 ⟨Nat.le_of_ble_eq_true rfl, Nat.le_of_ble_eq_true rfl⟩ ⟨rfl, rfl⟩
  have hK_7 : ∀ (H : Heap) (locs : List Loc) (ls : Array Slot), t_2 = 1 → gW D cy b n s H locs (enc b cy X S_4) → lv_has ls 7 [(0, .ref (b + 80)), (1, .int (iI a1)), (2, .int (iI y_3))] → W p l e (gRm (d + 1) 0 0) s m args below meth c H locs 0 0 (gQI D cy b s args below 0 0 (fun r u => r = iI o1 ∧ u = (n, enc b cy X o2))) (F0 m 58 ls []) := by
    intro H locs ls ht hG hl
    subst ht
    replace hM := ifn hM (by decide)
    refine lv_aload_n hx hb dX12_readsTerm_58 rfl (lv_at hl 0 rfl) ?_
    refine lv_iload_n hx hb dX12_readsTerm_59 rfl (lv_at hl 1 rfl) ?_
    refine lv_iload_n hx hb dX12_readsTerm_60 rfl (lv_at hl 2 rfl) ?_
    obtain ⟨r_9, hc_8, hM⟩ := bd1_some hM
    refine g_vi (As := [.int (iI a1), .int (iI y_3)]) (rest := []) S hG hsz (vX12_isOff l hn a1 y_3 hc_8) wV_12_231 (ec_83 _) cpX12 (Nat.lt_of_lt_of_le (Nat.le_of_ble_eq_true rfl) hn) dX12_readsTerm_61 rfl hl.1 (ar := 2) (by decide +kernel) rfl (by refine ⟨?_, ?_, ?_, ?_⟩ <;> first | exact Nat.le_of_ble_eq_true rfl | (simp only [gRm]; omega)) (Nat.le_of_ble_eq_true rfl) (fun rv uu H locs hp hG => ?_)
    obtain ⟨rfl, rfl⟩ := hp
    replace hG : gW D cy b n s H locs (enc b cy X S_4) := hG
    obtain ⟨hg_10, hM⟩ := gd_some hM
    refine gi_if_eq (tgt := 69) hx hb dX12_readsTerm_64 (by decide) hg_10 (fun c_11 => ?_) (fun c_11 => ?_)
    · replace hM := ifp hM c_11
      refine lv_aload_n hx hb dX12_readsTerm_69 rfl (lv_at hl 0 rfl) ?_
      refine lv_bipush (v := iI 7) hx hb dX12_readsTerm_70 (by decide) ?_
      refine lv_iload_n hx hb dX12_readsTerm_72 rfl (lv_at hl 2 rfl) ?_
      refine lv_iconst (v := iI 0) hx hb dX12_readsTerm_73 (by decide) ?_
      obtain ⟨r_13, S_14, hc_12, hM⟩ := bd2_some hM
      refine g_vi (As := [.int (iI 7), .int (iI y_3), .int (iI 0)]) (rest := []) S hG hsz (vX12_node l hn 7 y_3 0 hc_12) wV_12_506 (ec_83 _) cpX12 (Nat.lt_of_lt_of_le (Nat.le_of_ble_eq_true rfl) hn) dX12_readsTerm_74 rfl hl.1 (ar := 3) (by decide +kernel) rfl (by refine ⟨?_, ?_, ?_, ?_⟩ <;> first | exact Nat.le_of_ble_eq_true rfl | (simp only [gRm]; omega)) (Nat.le_of_ble_eq_true rfl) (fun rv uu H locs hp hG => ?_)
      obtain ⟨rfl, rfl⟩ := hp
      replace hG : gW D cy b n s H locs (enc b cy X S_14) := hG
      refine lv_istore_n (lv' := [(3, .int (iI r_13)), (0, .ref (b + 80)), (1, .int (iI a1)), (2, .int (iI y_3))]) hx hb dX12_readsTerm_77 rfl hl (by decide) rfl (fun ls hl => ?_)
      refine lv_iconst (v := iI (-1)) hx hb dX12_readsTerm_78 (by decide) ?_
      refine lv_istore (lv' := [(4, .int (iI (-1))), (3, .int (iI r_13)), (0, .ref (b + 80)), (1, .int (iI a1)), (2, .int (iI y_3))]) hx hb dX12_readsTerm_79 hl (by decide) rfl (fun ls hl => ?_)
      refine lv_aload_n hx hb dX12_readsTerm_81 rfl (lv_at hl 2 rfl) ?_
      refine m_get S hG 80 83 0 rfl ec_83 cpX12 wm_1673 dX12_readsTerm_82 rfl (Nat.lt_of_lt_of_le (Nat.le_of_ble_eq_true rfl) hn) (by decide) ?_
      refine lv_bipush (v := iI 120) hx hb dX12_readsTerm_85 (by decide) ?_
      refine lv_aload_n hx hb dX12_readsTerm_87 rfl (lv_at hl 2 rfl) ?_
      refine lv_iload_n hx hb dX12_readsTerm_88 rfl (lv_at hl 3 rfl) ?_
      refine lv_iload_n hx hb dX12_readsTerm_89 rfl (lv_at hl 4 rfl) ?_
      obtain ⟨r_16, hc_15, hM⟩ := bd1_some hM
      refine g_vi (As := [.int (iI a1), .int (iI y_3)]) (rest := [.int (iI 120), .ref (b + 81)]) S hG hsz (vX12_termAt l hn a1 y_3 hc_15) wV_12_341 (ec_83 _) cpX12 (Nat.lt_of_lt_of_le (Nat.le_of_ble_eq_true rfl) hn) dX12_readsTerm_90 rfl hl.1 (ar := 2) (by decide +kernel) rfl (by refine ⟨?_, ?_, ?_, ?_⟩ <;> first | exact Nat.le_of_ble_eq_true rfl | (simp only [gRm]; omega)) (Nat.le_of_ble_eq_true rfl) (fun rv uu H locs hp hG => ?_)
      obtain ⟨rfl, rfl⟩ := hp
      replace hG : gW D cy b n s H locs (enc b cy X S_14) := hG
      refine gi_add hx hb dX12_readsTerm_93 ?_
      obtain ⟨hg_17, hM⟩ := gd_some hM
      refine mi_ald S hG 81 84 rfl ec_84 (Nat.lt_of_lt_of_le (Nat.le_of_ble_eq_true rfl) hn) dX12_readsTerm_94 hg_17 (by decide) ?_
      refine gi_nm (fun x_18 ex_18 => ?_)
      replace hM := nx_at hM ex_18
      clear ex_18
      refine lv_istore (lv' := [(5, .int (iI x_18)), (4, .int (iI (-1))), (3, .int (iI r_13)), (0, .ref (b + 80)), (1, .int (iI a1)), (2, .int (iI y_3))]) hx hb dX12_readsTerm_95 hl (by decide) rfl (fun ls hl => ?_)
      obtain ⟨t_22, S_23, hc_24, hM⟩ := bd2_some hM
      have hK_25 : ∀ (H : Heap) (locs : List Loc) (ls : Array Slot), t_22 = 0 → gW D cy b n s H locs (enc b cy X S_23) → lv_has ls 7 [] → W p l e (gRm (d + 1) 0 0) s m args below meth c H locs 0 0 (gQI D cy b s args below 0 0 (fun r u => r = iI o1 ∧ u = (n, enc b cy X o2))) (F0 m 115 ls []) := by
        intro H locs ls ht hG hl
        subst ht
        replace hM := ifp hM rfl
        refine lv_iconst (v := iI (-1)) hx hb dX12_readsTerm_115 (by decide) ?_
        cases hM
        exact g_iret S hr hlk hG hsz dX12_readsTerm_116 ⟨Nat.le_of_ble_eq_true rfl, Nat.le_of_ble_eq_true rfl⟩ ⟨rfl, rfl⟩
      have hK_26 : ∀ (H : Heap) (locs : List Loc) (ls : Array Slot), t_22 = 1 → gW D cy b n s H locs (enc b cy X S_23) → lv_has ls 7 [(3, .int (iI r_13))] → W p l e (gRm (d + 1) 0 0) s m args below meth c H locs 0 0 (gQI D cy b s args below 0 0 (fun r u => r = iI o1 ∧ u = (n, enc b cy X o2))) (F0 m 150 ls []) := by
        intro H locs ls ht hG hl
        subst ht
        replace hM := ifn hM (by decide)
        refine lv_iload_n hx hb dX12_readsTerm_150 rfl (lv_at hl 0 rfl) ?_
        cases hM
        exact g_iret S hr hlk hG hsz dX12_readsTerm_151 ⟨Nat.le_of_ble_eq_true rfl, Nat.le_of_ble_eq_true rfl⟩ ⟨rfl, rfl⟩
      have loop_27 : ∀ (f : Nat) (v_19 : Int) (v_20 : Int) (S_21 : St) (H : Heap) (locs : List Loc) (ls : Array Slot), mX12_readsTerm_97 rec r_13 f v_19 v_20 S_21 = some (t_22, S_23) → gW D cy b n s H locs (enc b cy X S_21) → lv_has ls 7 [(5, .int (iI v_19)), (4, .int (iI v_20)), (3, .int (iI r_13)), (0, .ref (b + 80))] → W p l e (gRm (d + 1) 0 0) s m args below meth c H locs 0 0 (gQI D cy b s args below 0 0 (fun r u => r = iI o1 ∧ u = (n, enc b cy X o2))) (F0 m 97 ls []) := by
        clear hM
        intro f
        induction f with
        | zero => intro v_19 v_20 S_21 H locs ls hM; rw [mX12_readsTerm_97] at hM; cases hM
        | succ f_29 ih_28 =>
          intro v_19 v_20 S_21 H locs ls hM hG hl
          rw [mX12_readsTerm_97] at hM
          refine lv_iload hx hb dX12_readsTerm_97 (lv_at hl 0 rfl) ?_
          obtain ⟨hg_30, hM⟩ := gd_some hM
          refine gi_if_lt (tgt := 150) hx hb dX12_readsTerm_99 (by decide) hg_30 (fun c_31 => ?_) (fun c_31 => ?_)
          · replace hM := ifp hM c_31
            cases hM
            exact hK_26 H locs ls rfl hG (lv_sub hl [2] rfl)
          · replace hM := ifn hM c_31
            refine lv_aload_n hx hb dX12_readsTerm_102 rfl (lv_at hl 3 rfl) ?_
            refine lv_iload hx hb dX12_readsTerm_103 (lv_at hl 0 rfl) ?_
            obtain ⟨r_33, S_34, hc_32, hM⟩ := bd2_some hM
            refine g_vi (As := [.int (iI v_19)]) (rest := []) S hG hsz (hr2 _ v_19 _ _ hc_32) wV_12_509 (ec_83 _) cpX12 (Nat.lt_of_lt_of_le (Nat.le_of_ble_eq_true rfl) hn) dX12_readsTerm_105 rfl hl.1 (ar := 1) (by decide +kernel) rfl (by refine ⟨?_, ?_, ?_, ?_⟩ <;> first | exact Nat.le_of_ble_eq_true rfl | (simp only [gRm]; omega)) (Nat.le_of_ble_eq_true rfl) (fun rv uu H locs hp hG => ?_)
            obtain ⟨rfl, rfl⟩ := hp
            replace hG : gW D cy b n s H locs (enc b cy X S_34) := hG
            refine lv_istore (lv' := [(6, .int (iI r_33)), (5, .int (iI v_19)), (4, .int (iI v_20)), (3, .int (iI r_13)), (0, .ref (b + 80))]) hx hb dX12_readsTerm_108 hl (by decide) rfl (fun ls hl => ?_)
            refine lv_iload hx hb dX12_readsTerm_110 (lv_at hl 0 rfl) ?_
            obtain ⟨hg_35, hM⟩ := gd_some hM
            refine gi_if_ge (tgt := 117) hx hb dX12_readsTerm_112 (by decide) hg_35 (fun c_36 => ?_) (fun c_36 => ?_)
            · replace hM := ifp hM c_36
              refine lv_aload_n hx hb dX12_readsTerm_117 rfl (lv_at hl 4 rfl) ?_
              refine lv_iload_n hx hb dX12_readsTerm_118 rfl (lv_at hl 3 rfl) ?_
              refine lv_iload hx hb dX12_readsTerm_119 (lv_at hl 2 rfl) ?_
              refine lv_iload hx hb dX12_readsTerm_121 (lv_at hl 0 rfl) ?_
              refine lv_aload_n hx hb dX12_readsTerm_123 rfl (lv_at hl 4 rfl) ?_
              refine m_get S hG 80 83 35 rfl ec_83 cpX12 wm_1708 dX12_readsTerm_124 rfl (Nat.lt_of_lt_of_le (Nat.le_of_ble_eq_true rfl) hn) (by decide) ?_
              refine lv_iload hx hb dX12_readsTerm_127 (lv_at hl 0 rfl) ?_
              obtain ⟨hg_37, hM⟩ := gd_some hM
              refine mi_ald S hG 98 101 rfl ec_101 (Nat.lt_of_lt_of_le (Nat.le_of_ble_eq_true rfl) hn) dX12_readsTerm_129 hg_37 (by decide) ?_
              obtain ⟨r_39, S_40, hc_38, hM⟩ := bd2_some hM
              refine g_vi (As := [.int (iI r_13), .int (iI v_20), .int (iI r_33), .int (iI (S_34 101 r_33))]) (rest := []) S hG hsz (vX12_comesBehind l hn r_13 v_20 r_33 (S_34 101 r_33) hc_38) wV_12_512 (ec_83 _) cpX12 (Nat.lt_of_lt_of_le (Nat.le_of_ble_eq_true rfl) hn) dX12_readsTerm_130 rfl hl.1 (ar := 4) (by decide +kernel) rfl (by refine ⟨?_, ?_, ?_, ?_⟩ <;> first | exact Nat.le_of_ble_eq_true rfl | (simp only [gRm]; omega)) (Nat.le_of_ble_eq_true rfl) (fun rv uu H locs hp hG => ?_)
              obtain ⟨rfl, rfl⟩ := hp
              replace hG : gW D cy b n s H locs (enc b cy X S_40) := hG
              refine lv_istore (lv' := [(4, .int (iI r_39)), (6, .int (iI r_33)), (5, .int (iI v_19)), (3, .int (iI r_13)), (0, .ref (b + 80))]) hx hb dX12_readsTerm_133 hl (by decide) rfl (fun ls hl => ?_)
              refine lv_aload_n hx hb dX12_readsTerm_135 rfl (lv_at hl 4 rfl) ?_
              refine m_get S hG 80 83 0 rfl ec_83 cpX12 wm_1673 dX12_readsTerm_136 rfl (Nat.lt_of_lt_of_le (Nat.le_of_ble_eq_true rfl) hn) (by decide) ?_
              refine lv_bipush (v := iI 96) hx hb dX12_readsTerm_139 (by decide) ?_
              refine lv_iload hx hb dX12_readsTerm_141 (lv_at hl 2 rfl) ?_
              refine gi_add hx hb dX12_readsTerm_143 ?_
              obtain ⟨hg_41, hM⟩ := gd_some hM
              refine mi_ald S hG 81 84 rfl ec_84 (Nat.lt_of_lt_of_le (Nat.le_of_ble_eq_true rfl) hn) dX12_readsTerm_144 hg_41 (by decide) ?_
              refine gi_nm (fun x_42 ex_42 => ?_)
              replace hM := nx_at hM ex_42
              clear ex_42
              refine lv_istore (lv' := [(5, .int (iI x_42)), (4, .int (iI r_39)), (6, .int (iI r_33)), (3, .int (iI r_13)), (0, .ref (b + 80))]) hx hb dX12_readsTerm_145 hl (by decide) rfl (fun ls hl => ?_)
              refine lv_goto (tgt := 97) hx hb dX12_readsTerm_147 (by decide) ?_
              exact ih_28 x_42 r_39 S_40 H locs ls hM hG (lv_sub hl [0, 1, 3, 4] rfl)
            · replace hM := ifn hM c_36
              cases hM
              exact hK_25 H locs ls rfl hG (lv_sub hl [] rfl)
      exact loop_27 FU x_18 (-1) S_14 H locs ls hc_24 hG (lv_sub hl [0, 1, 2, 3] rfl)
    · replace hM := ifn hM c_11
      refine lv_iconst (v := iI (-1)) hx hb dX12_readsTerm_67 (by decide) ?_
      cases hM
      exact g_iret S hr hlk hG hsz dX12_readsTerm_68 ⟨Nat.le_of_ble_eq_true rfl, Nat.le_of_ble_eq_true rfl⟩ ⟨rfl, rfl⟩
  clear hM
  replace hM := hc_5
  obtain ⟨hg_43, hM⟩ := gd_some hM
  refine gi_icmp_eq (tgt := 58) hx hb dX12_readsTerm_13 (by decide) hg_43 (by decide) (fun c_44 => ?_) (fun c_44 => ?_)
  · replace hM := ifp hM c_44
    cases hM
    exact hK_7 H locs ls rfl hG (lv_sub hl [1, 2, 0] rfl)
  · replace hM := ifn hM c_44
    refine lv_aload_n hx hb dX12_readsTerm_16 rfl (lv_at hl 1 rfl) ?_
    obtain ⟨r_46, hc_45, hM⟩ := bd1_some hM
    refine g_vi (As := []) (rest := []) S hG hsz (vX12_here l hn  hc_45) wV_12_503 (ec_83 _) cpX12 (Nat.lt_of_lt_of_le (Nat.le_of_ble_eq_true rfl) hn) dX12_readsTerm_17 rfl hl.1 (ar := 0) (by decide +kernel) rfl (by refine ⟨?_, ?_, ?_, ?_⟩ <;> first | exact Nat.le_of_ble_eq_true rfl | (simp only [gRm]; omega)) (Nat.le_of_ble_eq_true rfl) (fun rv uu H locs hp hG => ?_)
    obtain ⟨rfl, rfl⟩ := hp
    replace hG : gW D cy b n s H locs (enc b cy X S0) := hG
    refine lv_bipush (v := iI 48) hx hb dX12_readsTerm_20 (by decide) ?_
    refine gi_sub hx hb dX12_readsTerm_22 ?_
    refine gi_nm (fun x_47 ex_47 => ?_)
    replace hM := nx_at hM ex_47
    clear ex_47
    refine lv_istore_n (lv' := [(2, .int (iI x_47)), (0, .ref (b + 80)), (1, .int (iI a1))]) hx hb dX12_readsTerm_23 rfl hl (by decide) rfl (fun ls hl => ?_)
    refine lv_iload_n hx hb dX12_readsTerm_24 rfl (lv_at hl 0 rfl) ?_
    obtain ⟨hg_48, hM⟩ := gd_some hM
    refine gi_i2l hx hb dX12_readsTerm_25 hg_48 ?_
    refine lv_lconst (v := jJ 0) hx hb dX12_readsTerm_26 (by decide) ?_
    refine lv_aload_n hx hb dX12_readsTerm_27 rfl (lv_at hl 1 rfl) ?_
    refine m_get S hG 80 83 0 rfl ec_83 cpX12 wm_1673 dX12_readsTerm_28 rfl (Nat.lt_of_lt_of_le (Nat.le_of_ble_eq_true rfl) hn) (by decide) ?_
    refine lv_sipush (v := iI 198) hx hb dX12_readsTerm_31 (by decide) ?_
    refine lv_iload_n hx hb dX12_readsTerm_34 rfl (lv_at hl 2 rfl) ?_
    refine gi_add hx hb dX12_readsTerm_35 ?_
    refine mi_ald S hG 81 84 rfl ec_84 (Nat.lt_of_lt_of_le (Nat.le_of_ble_eq_true rfl) hn) dX12_readsTerm_36 hg_1 (by decide) ?_
    refine lv_iconst (v := iI 1) hx hb dX12_readsTerm_37 (by decide) ?_
    refine gi_sub hx hb dX12_readsTerm_38 ?_
    obtain ⟨hg_49, hM⟩ := gd_some hM
    refine gi_i2l hx hb dX12_readsTerm_39 hg_49 ?_
    obtain ⟨r_51, hc_50, hM⟩ := bd1_some hM
    refine g_si (As := [.long (jJ x_47), .long (jJ 0), .long (jJ ((S0 84 (198 + a1)) - 1))]) (rest := []) S hG hsz (vX12_in l hn x_47 0 ((S0 84 (198 + a1)) - 1) hc_50) wS_12_97 dX12_readsTerm_40 rfl hl.1 (ar := 3) (by decide +kernel) rfl (by refine ⟨?_, ?_, ?_, ?_⟩ <;> first | exact Nat.le_of_ble_eq_true rfl | (simp only [gRm]; omega)) (Nat.le_of_ble_eq_true rfl) (fun rv uu H locs hp hG => ?_)
    obtain ⟨rfl, rfl⟩ := hp
    replace hG : gW D cy b n s H locs (enc b cy X S0) := hG
    obtain ⟨hg_52, hM⟩ := gd_some hM
    refine gi_if_ne (tgt := 48) hx hb dX12_readsTerm_43 (by decide) hg_52 (fun c_53 => ?_) (fun c_53 => ?_)
    · replace hM := ifn hM c_53
      refine lv_aload_n hx hb dX12_readsTerm_48 rfl (lv_at hl 1 rfl) ?_
      refine lv_dup hx hb dX12_readsTerm_49 rfl ?_
      refine m_get S hG 80 83 41 rfl ec_83 cpX12 wm_1714 dX12_readsTerm_50 rfl (Nat.lt_of_lt_of_le (Nat.le_of_ble_eq_true rfl) hn) (by decide) ?_
      refine lv_iconst (v := iI 1) hx hb dX12_readsTerm_53 (by decide) ?_
      refine gi_add hx hb dX12_readsTerm_54 ?_
      refine m_put S hG 80 83 41 rfl 41 ((S0 83 41) + 1) ec_83 cpX12 wm_1714 dX12_readsTerm_55 (pf_83_41) (Nat.lt_of_lt_of_le (Nat.le_of_ble_eq_true rfl) hn) (by decide) (Nat.le_of_ble_eq_true rfl) rfl rfl rfl (fun H locs S_54 eS_54 hG => ?_)
      replace hM := nx_at hM eS_54
      clear eS_54
      cases hM
      exact hK_7 H locs ls rfl hG (lv_sub hl [1, 2, 0] rfl)
    · replace hM := ifp hM c_53
      cases hM
      exact hK_6 H locs ls rfl hG (lv_sub hl [] rfl)
def bX12_readsThing (rec : Nat → Int → St → Option (Int × St)) (S0 : St) (a1 : Int) : Option (Int × St) := bd1 (mX12_partOf S0 a1) fun r_2 => gd (0 ≤ (24 + r_2) ∧ (24 + r_2) < 228) <| nx (S0 84 (24 + r_2)) fun x_4 => bd1 (mX12_isBlank S0 r_2) fun r_6 => gd (inI r_6) <| if r_6 = 0 then (bd1 (gd (inI x_4) <| if x_4 = 2 then (some (0)) else (if x_4 = 7 then (some (0)) else (some (1)))) fun t_9 => if t_9 = 0 then (gd (0 ≤ (48 + r_2) ∧ (48 + r_2) < 228) <| bd2 (rec 1 (S0 84 (48 + r_2)) S0) fun r_14 S_15 => some (r_14, S_15)) else (gd (inI x_4) <| if x_4 ≤ 1 then (bd1 (mX12_here S0) fun r_20 => bd1 (if x_4 = 0 then (gd (0 ≤ (48 + r_2) ∧ (48 + r_2) < 228) <| some ((97 + (S0 84 (48 + r_2))))) else (some (45))) fun z_21 => gd ((inI r_20) ∧ (inI z_21)) <| if r_20 = z_21 then (nx (up S0 83 41 ((S0 83 41) + 1)) fun S_26 => gd (0 ≤ (48 + r_2) ∧ (48 + r_2) < 228) <| if x_4 = 0 then (bd2 (mX12_node S_26 x_4 (S_26 84 (48 + r_2)) 1) fun r_33 S_34 => some (r_33, S_34)) else (bd2 (mX12_node S_26 x_4 (S_26 84 (48 + r_2)) 0) fun r_30 S_31 => some (r_30, S_31))) else (some ((-1), S0))) else (bd2 (rec 0 r_2 S0) fun r_38 S_39 => some (r_38, S_39)))) else (some ((-1), S0))
set_option maxHeartbeats 4000000 in
set_option maxRecDepth 100000 in
theorem spX12_readsThing (l : Launch) {D : va_G} {cy : Nat → ClassId} {b n : Nat} (hn : 102 ≤ n) {X : Nat → va_E} (rec : Nat → Int → St → Option (Int × St)) (d : Nat) (hd : 203 ≤ d) (hr0 : ∀ (S0 : St) (a1 : Int) (o1 : Int) (o2 : St), rec 0 a1 S0 = some (o1, o2) → gI l yX12_readsMany cX12_readsMany 7 (some .int) d 0 0 D cy b n (enc b cy X S0) [.ref (b + 80), .int (iI a1)] (fun r u => r = iI o1 ∧ u = (n, enc b cy X o2))) (hr1 : ∀ (S0 : St) (a1 : Int) (o1 : Int) (o2 : St), rec 1 a1 S0 = some (o1, o2) → gI l yX12_readsTerm cX12_readsTerm 7 (some .int) d 0 0 D cy b n (enc b cy X S0) [.ref (b + 80), .int (iI a1)] (fun r u => r = iI o1 ∧ u = (n, enc b cy X o2))) (hr2 : ∀ (S0 : St) (a1 : Int) (o1 : Int) (o2 : St), rec 2 a1 S0 = some (o1, o2) → gI l yX12_readsThing cX12_readsThing 4 (some .int) d 0 0 D cy b n (enc b cy X S0) [.ref (b + 80), .int (iI a1)] (fun r u => r = iI o1 ∧ u = (n, enc b cy X o2))) (S0 : St) (a1 : Int) (o1 : Int) (o2 : St) (hM : bX12_readsThing rec S0 a1 = some (o1, o2)) : gI l yX12_readsThing cX12_readsThing 4 (some .int) (d + 1) 0 0 D cy b n (enc b cy X S0) [.ref (b + 80), .int (iI a1)] (fun r u => r = iI o1 ∧ u = (n, enc b cy X o2)) := by
  refine gI_of (by decide) (Nat.le_of_ble_eq_true rfl) ?_
  intro p e s m args below meth c S hr hlk hin hsz ls hl hG
  have hx := S.1
  have hb := S.2.1
  have hl : lv_has ls 4 [(0, .ref (b + 80)), (1, .int (iI a1))] := hl
  replace hG : gW D cy b n s s.heap [] (enc b cy X S0) := hG
  obtain ⟨H, eH⟩ : ∃ H, H = s.heap := ⟨_, rfl⟩
  obtain ⟨locs, elocs⟩ : ∃ locs : List Loc, locs = [] := ⟨_, rfl⟩
  rw [← eH, ← elocs] at hG
  rw [← eH, ← elocs]
  clear eH elocs
  unfold bX12_readsThing at hM
  refine lv_aload_n hx hb dX12_readsThing_0 rfl (lv_at hl 0 rfl) ?_
  refine lv_iload_n hx hb dX12_readsThing_1 rfl (lv_at hl 1 rfl) ?_
  obtain ⟨r_2, hc_1, hM⟩ := bd1_some hM
  refine g_vi (As := [.int (iI a1)]) (rest := []) S hG hsz (vX12_partOf l hn a1 hc_1) wV_12_494 (ec_83 _) cpX12 (Nat.lt_of_lt_of_le (Nat.le_of_ble_eq_true rfl) hn) dX12_readsThing_2 rfl hl.1 (ar := 1) (by decide +kernel) rfl (by refine ⟨?_, ?_, ?_, ?_⟩ <;> first | exact Nat.le_of_ble_eq_true rfl | (simp only [gRm]; omega)) (Nat.le_of_ble_eq_true rfl) (fun rv uu H locs hp hG => ?_)
  obtain ⟨rfl, rfl⟩ := hp
  replace hG : gW D cy b n s H locs (enc b cy X S0) := hG
  refine lv_istore_n (lv' := [(2, .int (iI r_2)), (0, .ref (b + 80)), (1, .int (iI a1))]) hx hb dX12_readsThing_5 rfl hl (by decide) rfl (fun ls hl => ?_)
  refine lv_aload_n hx hb dX12_readsThing_6 rfl (lv_at hl 1 rfl) ?_
  refine m_get S hG 80 83 0 rfl ec_83 cpX12 wm_1673 dX12_readsThing_7 rfl (Nat.lt_of_lt_of_le (Nat.le_of_ble_eq_true rfl) hn) (by decide) ?_
  refine lv_bipush (v := iI 24) hx hb dX12_readsThing_10 (by decide) ?_
  refine lv_iload_n hx hb dX12_readsThing_12 rfl (lv_at hl 0 rfl) ?_
  refine gi_add hx hb dX12_readsThing_13 ?_
  obtain ⟨hg_3, hM⟩ := gd_some hM
  refine mi_ald S hG 81 84 rfl ec_84 (Nat.lt_of_lt_of_le (Nat.le_of_ble_eq_true rfl) hn) dX12_readsThing_14 hg_3 (by decide) ?_
  refine gi_nm (fun x_4 ex_4 => ?_)
  replace hM := nx_at hM ex_4
  clear ex_4
  refine lv_istore_n (lv' := [(3, .int (iI x_4)), (2, .int (iI r_2)), (0, .ref (b + 80)), (1, .int (iI a1))]) hx hb dX12_readsThing_15 rfl hl (by decide) rfl (fun ls hl => ?_)
  refine lv_aload_n hx hb dX12_readsThing_16 rfl (lv_at hl 2 rfl) ?_
  refine lv_iload_n hx hb dX12_readsThing_17 rfl (lv_at hl 1 rfl) ?_
  obtain ⟨r_6, hc_5, hM⟩ := bd1_some hM
  refine g_vi (As := [.int (iI r_2)]) (rest := []) S hG hsz (vX12_isBlank l hn r_2 hc_5) wV_12_491 (ec_83 _) cpX12 (Nat.lt_of_lt_of_le (Nat.le_of_ble_eq_true rfl) hn) dX12_readsThing_18 rfl hl.1 (ar := 1) (by decide +kernel) rfl (by refine ⟨?_, ?_, ?_, ?_⟩ <;> first | exact Nat.le_of_ble_eq_true rfl | (simp only [gRm]; omega)) (Nat.le_of_ble_eq_true rfl) (fun rv uu H locs hp hG => ?_)
  obtain ⟨rfl, rfl⟩ := hp
  replace hG : gW D cy b n s H locs (enc b cy X S0) := hG
  obtain ⟨hg_7, hM⟩ := gd_some hM
  refine gi_if_eq (tgt := 26) hx hb dX12_readsThing_21 (by decide) hg_7 (fun c_8 => ?_) (fun c_8 => ?_)
  · replace hM := ifp hM c_8
    refine lv_iload_n hx hb dX12_readsThing_26 rfl (lv_at hl 0 rfl) ?_
    refine lv_iconst (v := iI 2) hx hb dX12_readsThing_27 (by decide) ?_
    obtain ⟨t_9, hc_10, hM⟩ := bd1_some hM
    have hK_11 : ∀ (H : Heap) (locs : List Loc) (ls : Array Slot), t_9 = 0 → gW D cy b n s H locs (enc b cy X S0) → lv_has ls 4 [(2, .int (iI r_2)), (0, .ref (b + 80))] → W p l e (gRm (d + 1) 0 0) s m args below meth c H locs 0 0 (gQI D cy b s args below 0 0 (fun r u => r = iI o1 ∧ u = (n, enc b cy X o2))) (F0 m 37 ls []) := by
      intro H locs ls ht hG hl
      subst ht
      replace hM := ifp hM rfl
      refine lv_aload_n hx hb dX12_readsThing_37 rfl (lv_at hl 1 rfl) ?_
      refine lv_aload_n hx hb dX12_readsThing_38 rfl (lv_at hl 1 rfl) ?_
      refine m_get S hG 80 83 0 rfl ec_83 cpX12 wm_1673 dX12_readsThing_39 rfl (Nat.lt_of_lt_of_le (Nat.le_of_ble_eq_true rfl) hn) (by decide) ?_
      refine lv_bipush (v := iI 48) hx hb dX12_readsThing_42 (by decide) ?_
      refine lv_iload_n hx hb dX12_readsThing_44 rfl (lv_at hl 0 rfl) ?_
      refine gi_add hx hb dX12_readsThing_45 ?_
      obtain ⟨hg_12, hM⟩ := gd_some hM
      refine mi_ald S hG 81 84 rfl ec_84 (Nat.lt_of_lt_of_le (Nat.le_of_ble_eq_true rfl) hn) dX12_readsThing_46 hg_12 (by decide) ?_
      obtain ⟨r_14, S_15, hc_13, hM⟩ := bd2_some hM
      refine g_vi (As := [.int (iI (S0 84 (48 + r_2)))]) (rest := []) S hG hsz (hr1 _ (S0 84 (48 + r_2)) _ _ hc_13) wV_12_497 (ec_83 _) cpX12 (Nat.lt_of_lt_of_le (Nat.le_of_ble_eq_true rfl) hn) dX12_readsThing_47 rfl hl.1 (ar := 1) (by decide +kernel) rfl (by refine ⟨?_, ?_, ?_, ?_⟩ <;> first | exact Nat.le_of_ble_eq_true rfl | (simp only [gRm]; omega)) (Nat.le_of_ble_eq_true rfl) (fun rv uu H locs hp hG => ?_)
      obtain ⟨rfl, rfl⟩ := hp
      replace hG : gW D cy b n s H locs (enc b cy X S_15) := hG
      cases hM
      exact g_iret S hr hlk hG hsz dX12_readsThing_50 ⟨Nat.le_of_ble_eq_true rfl, Nat.le_of_ble_eq_true rfl⟩ ⟨rfl, rfl⟩
    have hK_16 : ∀ (H : Heap) (locs : List Loc) (ls : Array Slot), t_9 = 1 → gW D cy b n s H locs (enc b cy X S0) → lv_has ls 4 [(3, .int (iI x_4)), (2, .int (iI r_2)), (0, .ref (b + 80))] → W p l e (gRm (d + 1) 0 0) s m args below meth c H locs 0 0 (gQI D cy b s args below 0 0 (fun r u => r = iI o1 ∧ u = (n, enc b cy X o2))) (F0 m 51 ls []) := by
      intro H locs ls ht hG hl
      subst ht
      replace hM := ifn hM (by decide)
      refine lv_iload_n hx hb dX12_readsThing_51 rfl (lv_at hl 0 rfl) ?_
      refine lv_iconst (v := iI 1) hx hb dX12_readsThing_52 (by decide) ?_
      obtain ⟨hg_17, hM⟩ := gd_some hM
      refine gi_icmp_le (tgt := 62) hx hb dX12_readsThing_53 (by decide) hg_17 (by decide) (fun c_18 => ?_) (fun c_18 => ?_)
      · replace hM := ifp hM c_18
        refine lv_aload_n hx hb dX12_readsThing_62 rfl (lv_at hl 2 rfl) ?_
        obtain ⟨r_20, hc_19, hM⟩ := bd1_some hM
        refine g_vi (As := []) (rest := []) S hG hsz (vX12_here l hn  hc_19) wV_12_503 (ec_83 _) cpX12 (Nat.lt_of_lt_of_le (Nat.le_of_ble_eq_true rfl) hn) dX12_readsThing_63 rfl hl.1 (ar := 0) (by decide +kernel) rfl (by refine ⟨?_, ?_, ?_, ?_⟩ <;> first | exact Nat.le_of_ble_eq_true rfl | (simp only [gRm]; omega)) (Nat.le_of_ble_eq_true rfl) (fun rv uu H locs hp hG => ?_)
        obtain ⟨rfl, rfl⟩ := hp
        replace hG : gW D cy b n s H locs (enc b cy X S0) := hG
        refine lv_iload_n hx hb dX12_readsThing_66 rfl (lv_at hl 0 rfl) ?_
        obtain ⟨z_21, hc_22, hM⟩ := bd1_some hM
        have hK_23 : ∀ (H : Heap) (locs : List Loc) (ls : Array Slot), gW D cy b n s H locs (enc b cy X S0) → lv_has ls 4 [(3, .int (iI x_4)), (2, .int (iI r_2)), (0, .ref (b + 80))] → W p l e (gRm (d + 1) 0 0) s m args below meth c H locs 0 0 (gQI D cy b s args below 0 0 (fun r u => r = iI o1 ∧ u = (n, enc b cy X o2))) (F0 m 87 ls [.int (iI z_21), .int (iI r_20)]) := by
          intro H locs ls hG hl
          obtain ⟨hg_24, hM⟩ := gd_some hM
          refine gi_icmp_eq (tgt := 92) hx hb dX12_readsThing_87 (by decide) hg_24.1 hg_24.2 (fun c_25 => ?_) (fun c_25 => ?_)
          · replace hM := ifp hM c_25
            refine lv_aload_n hx hb dX12_readsThing_92 rfl (lv_at hl 2 rfl) ?_
            refine lv_dup hx hb dX12_readsThing_93 rfl ?_
            refine m_get S hG 80 83 41 rfl ec_83 cpX12 wm_1714 dX12_readsThing_94 rfl (Nat.lt_of_lt_of_le (Nat.le_of_ble_eq_true rfl) hn) (by decide) ?_
            refine lv_iconst (v := iI 1) hx hb dX12_readsThing_97 (by decide) ?_
            refine gi_add hx hb dX12_readsThing_98 ?_
            refine m_put S hG 80 83 41 rfl 41 ((S0 83 41) + 1) ec_83 cpX12 wm_1714 dX12_readsThing_99 (pf_83_41) (Nat.lt_of_lt_of_le (Nat.le_of_ble_eq_true rfl) hn) (by decide) (Nat.le_of_ble_eq_true rfl) rfl rfl rfl (fun H locs S_26 eS_26 hG => ?_)
            replace hM := nx_at hM eS_26
            clear eS_26
            refine lv_aload_n hx hb dX12_readsThing_102 rfl (lv_at hl 2 rfl) ?_
            refine lv_iload_n hx hb dX12_readsThing_103 rfl (lv_at hl 0 rfl) ?_
            refine lv_aload_n hx hb dX12_readsThing_104 rfl (lv_at hl 2 rfl) ?_
            refine m_get S hG 80 83 0 rfl ec_83 cpX12 wm_1673 dX12_readsThing_105 rfl (Nat.lt_of_lt_of_le (Nat.le_of_ble_eq_true rfl) hn) (by decide) ?_
            refine lv_bipush (v := iI 48) hx hb dX12_readsThing_108 (by decide) ?_
            refine lv_iload_n hx hb dX12_readsThing_110 rfl (lv_at hl 1 rfl) ?_
            refine gi_add hx hb dX12_readsThing_111 ?_
            obtain ⟨hg_27, hM⟩ := gd_some hM
            refine mi_ald S hG 81 84 rfl ec_84 (Nat.lt_of_lt_of_le (Nat.le_of_ble_eq_true rfl) hn) dX12_readsThing_112 hg_27 (by decide) ?_
            refine lv_iload_n hx hb dX12_readsThing_113 rfl (lv_at hl 0 rfl) ?_
            refine gi_if_ne (tgt := 121) hx hb dX12_readsThing_114 (by decide) hg_17 (fun c_28 => ?_) (fun c_28 => ?_)
            · replace hM := ifn hM c_28
              refine lv_iconst (v := iI 0) hx hb dX12_readsThing_121 (by decide) ?_
              obtain ⟨r_30, S_31, hc_29, hM⟩ := bd2_some hM
              refine g_vi (As := [.int (iI x_4), .int (iI (S_26 84 (48 + r_2))), .int (iI 0)]) (rest := []) S hG hsz (vX12_node l hn x_4 (S_26 84 (48 + r_2)) 0 hc_29) wV_12_506 (ec_83 _) cpX12 (Nat.lt_of_lt_of_le (Nat.le_of_ble_eq_true rfl) hn) dX12_readsThing_122 rfl hl.1 (ar := 3) (by decide +kernel) rfl (by refine ⟨?_, ?_, ?_, ?_⟩ <;> first | exact Nat.le_of_ble_eq_true rfl | (simp only [gRm]; omega)) (Nat.le_of_ble_eq_true rfl) (fun rv uu H locs hp hG => ?_)
              obtain ⟨rfl, rfl⟩ := hp
              replace hG : gW D cy b n s H locs (enc b cy X S_31) := hG
              cases hM
              exact g_iret S hr hlk hG hsz dX12_readsThing_125 ⟨Nat.le_of_ble_eq_true rfl, Nat.le_of_ble_eq_true rfl⟩ ⟨rfl, rfl⟩
            · replace hM := ifp hM c_28
              refine lv_iconst (v := iI 1) hx hb dX12_readsThing_117 (by decide) ?_
              refine lv_goto (tgt := 122) hx hb dX12_readsThing_118 (by decide) ?_
              obtain ⟨r_33, S_34, hc_32, hM⟩ := bd2_some hM
              refine g_vi (As := [.int (iI x_4), .int (iI (S_26 84 (48 + r_2))), .int (iI 1)]) (rest := []) S hG hsz (vX12_node l hn x_4 (S_26 84 (48 + r_2)) 1 hc_32) wV_12_506 (ec_83 _) cpX12 (Nat.lt_of_lt_of_le (Nat.le_of_ble_eq_true rfl) hn) dX12_readsThing_122 rfl hl.1 (ar := 3) (by decide +kernel) rfl (by refine ⟨?_, ?_, ?_, ?_⟩ <;> first | exact Nat.le_of_ble_eq_true rfl | (simp only [gRm]; omega)) (Nat.le_of_ble_eq_true rfl) (fun rv uu H locs hp hG => ?_)
              obtain ⟨rfl, rfl⟩ := hp
              replace hG : gW D cy b n s H locs (enc b cy X S_34) := hG
              cases hM
              exact g_iret S hr hlk hG hsz dX12_readsThing_125 ⟨Nat.le_of_ble_eq_true rfl, Nat.le_of_ble_eq_true rfl⟩ ⟨rfl, rfl⟩
          · replace hM := ifn hM c_25
            refine lv_iconst (v := iI (-1)) hx hb dX12_readsThing_90 (by decide) ?_
            cases hM
            exact g_iret S hr hlk hG hsz dX12_readsThing_91 ⟨Nat.le_of_ble_eq_true rfl, Nat.le_of_ble_eq_true rfl⟩ ⟨rfl, rfl⟩
        clear hM
        replace hM := hc_22
        refine gi_if_ne (tgt := 85) hx hb dX12_readsThing_67 (by decide) hg_17 (fun c_35 => ?_) (fun c_35 => ?_)
        · replace hM := ifn hM c_35
          refine lv_bipush (v := iI 45) hx hb dX12_readsThing_85 (by decide) ?_
          cases hM
          exact hK_23 H locs ls hG (lv_sub hl [0, 1, 2] rfl)
        · replace hM := ifp hM c_35
          refine lv_bipush (v := iI 97) hx hb dX12_readsThing_70 (by decide) ?_
          refine lv_aload_n hx hb dX12_readsThing_72 rfl (lv_at hl 2 rfl) ?_
          refine m_get S hG 80 83 0 rfl ec_83 cpX12 wm_1673 dX12_readsThing_73 rfl (Nat.lt_of_lt_of_le (Nat.le_of_ble_eq_true rfl) hn) (by decide) ?_
          refine lv_bipush (v := iI 48) hx hb dX12_readsThing_76 (by decide) ?_
          refine lv_iload_n hx hb dX12_readsThing_78 rfl (lv_at hl 1 rfl) ?_
          refine gi_add hx hb dX12_readsThing_79 ?_
          obtain ⟨hg_36, hM⟩ := gd_some hM
          refine mi_ald S hG 81 84 rfl ec_84 (Nat.lt_of_lt_of_le (Nat.le_of_ble_eq_true rfl) hn) dX12_readsThing_80 hg_36 (by decide) ?_
          refine gi_add hx hb dX12_readsThing_81 ?_
          refine lv_goto (tgt := 87) hx hb dX12_readsThing_82 (by decide) ?_
          cases hM
          exact hK_23 H locs ls hG (lv_sub hl [0, 1, 2] rfl)
      · replace hM := ifn hM c_18
        refine lv_aload_n hx hb dX12_readsThing_56 rfl (lv_at hl 2 rfl) ?_
        refine lv_iload_n hx hb dX12_readsThing_57 rfl (lv_at hl 1 rfl) ?_
        obtain ⟨r_38, S_39, hc_37, hM⟩ := bd2_some hM
        refine g_vi (As := [.int (iI r_2)]) (rest := []) S hG hsz (hr0 _ r_2 _ _ hc_37) wV_12_500 (ec_83 _) cpX12 (Nat.lt_of_lt_of_le (Nat.le_of_ble_eq_true rfl) hn) dX12_readsThing_58 rfl hl.1 (ar := 1) (by decide +kernel) rfl (by refine ⟨?_, ?_, ?_, ?_⟩ <;> first | exact Nat.le_of_ble_eq_true rfl | (simp only [gRm]; omega)) (Nat.le_of_ble_eq_true rfl) (fun rv uu H locs hp hG => ?_)
        obtain ⟨rfl, rfl⟩ := hp
        replace hG : gW D cy b n s H locs (enc b cy X S_39) := hG
        cases hM
        exact g_iret S hr hlk hG hsz dX12_readsThing_61 ⟨Nat.le_of_ble_eq_true rfl, Nat.le_of_ble_eq_true rfl⟩ ⟨rfl, rfl⟩
    clear hM
    replace hM := hc_10
    obtain ⟨hg_40, hM⟩ := gd_some hM
    refine gi_icmp_eq (tgt := 37) hx hb dX12_readsThing_28 (by decide) hg_40 (by decide) (fun c_41 => ?_) (fun c_41 => ?_)
    · replace hM := ifp hM c_41
      cases hM
      exact hK_11 H locs ls rfl hG (lv_sub hl [1, 2] rfl)
    · replace hM := ifn hM c_41
      refine lv_iload_n hx hb dX12_readsThing_31 rfl (lv_at hl 0 rfl) ?_
      refine lv_bipush (v := iI 7) hx hb dX12_readsThing_32 (by decide) ?_
      refine gi_icmp_ne (tgt := 51) hx hb dX12_readsThing_34 (by decide) hg_40 (by decide) (fun c_42 => ?_) (fun c_42 => ?_)
      · replace hM := ifn hM c_42
        cases hM
        exact hK_16 H locs ls rfl hG (lv_sub hl [0, 1, 2] rfl)
      · replace hM := ifp hM c_42
        cases hM
        exact hK_11 H locs ls rfl hG (lv_sub hl [1, 2] rfl)
  · replace hM := ifn hM c_8
    refine lv_iconst (v := iI (-1)) hx hb dX12_readsThing_24 (by decide) ?_
    cases hM
    exact g_iret S hr hlk hG hsz dX12_readsThing_25 ⟨Nat.le_of_ble_eq_true rfl, Nat.le_of_ble_eq_true rfl⟩ ⟨rfl, rfl⟩
def RX12_readsMany : Nat → Nat → Int → St → Option (Int × St)
  | 0, _, _, _ => none
  | f + 1, t, x1, S0 => if t = 0 then (bX12_readsMany (RX12_readsMany f) S0 x1) else (if t = 1 then (bX12_readsTerm (RX12_readsMany f) S0 x1) else (if t = 2 then (bX12_readsThing (RX12_readsMany f) S0 x1) else (none)))
set_option maxHeartbeats 4000000 in
theorem vRX12_readsMany (l : Launch) {D : va_G} {cy : Nat → ClassId} {b n : Nat} (hn : 102 ≤ n) {X : Nat → va_E} : ∀ f : Nat, (∀ (S0 : St) (a1 : Int) (o1 : Int) (o2 : St), RX12_readsMany f 0 a1 S0 = some (o1, o2) → gI l yX12_readsMany cX12_readsMany 7 (some .int) (203 + f) 0 0 D cy b n (enc b cy X S0) [.ref (b + 80), .int (iI a1)] (fun r u => r = iI o1 ∧ u = (n, enc b cy X o2))) ∧ (∀ (S0 : St) (a1 : Int) (o1 : Int) (o2 : St), RX12_readsMany f 1 a1 S0 = some (o1, o2) → gI l yX12_readsTerm cX12_readsTerm 7 (some .int) (203 + f) 0 0 D cy b n (enc b cy X S0) [.ref (b + 80), .int (iI a1)] (fun r u => r = iI o1 ∧ u = (n, enc b cy X o2))) ∧ (∀ (S0 : St) (a1 : Int) (o1 : Int) (o2 : St), RX12_readsMany f 2 a1 S0 = some (o1, o2) → gI l yX12_readsThing cX12_readsThing 4 (some .int) (203 + f) 0 0 D cy b n (enc b cy X S0) [.ref (b + 80), .int (iI a1)] (fun r u => r = iI o1 ∧ u = (n, enc b cy X o2))) := by
  intro f
  induction f with
  | zero =>
    refine ⟨?_, ?_, ?_⟩
    all_goals
      intros; rename_i hM; rw [RX12_readsMany] at hM; cases hM
  | succ f ih =>
    obtain ⟨hr0, hr1, hr2⟩ := ih
    refine ⟨?_, ?_, ?_⟩
    · intro S0 a1 o1 o2 hM
      rw [RX12_readsMany] at hM
      replace hM := ifp hM rfl
      exact spX12_readsMany l hn (RX12_readsMany f) (203 + f) (Nat.le_add_right _ _) hr0 hr1 hr2 S0 a1 _ _ hM
    · intro S0 a1 o1 o2 hM
      rw [RX12_readsMany] at hM
      replace hM := ifn hM (by decide)
      replace hM := ifp hM rfl
      exact spX12_readsTerm l hn (RX12_readsMany f) (203 + f) (Nat.le_add_right _ _) hr0 hr1 hr2 S0 a1 _ _ hM
    · intro S0 a1 o1 o2 hM
      rw [RX12_readsMany] at hM
      replace hM := ifn hM (by decide)
      replace hM := ifn hM (by decide)
      replace hM := ifp hM rfl
      exact spX12_readsThing l hn (RX12_readsMany f) (203 + f) (Nat.le_add_right _ _) hr0 hr1 hr2 S0 a1 _ _ hM
def mX12_readsMany (S0 : St) (a1 : Int) : Option (Int × St) := RX12_readsMany 1800 0 a1 S0
theorem vX12_readsMany (l : Launch) {D : va_G} {cy : Nat → ClassId} {b n : Nat} (hn : 102 ≤ n) {X : Nat → va_E} {S0 : St} (a1 : Int) {o1 : Int} {o2 : St} (hM : mX12_readsMany S0 a1 = some (o1, o2)) : gI l yX12_readsMany cX12_readsMany 7 (some .int) 2003 0 0 D cy b n (enc b cy X S0) [.ref (b + 80), .int (iI a1)] (fun r u => r = iI o1 ∧ u = (n, enc b cy X o2)) := by
  unfold mX12_readsMany at hM
  exact (vRX12_readsMany l hn 1800).1 S0 a1 _ _ hM
def mX12_readsTerm (S0 : St) (a1 : Int) : Option (Int × St) := RX12_readsMany 1800 1 a1 S0
theorem vX12_readsTerm (l : Launch) {D : va_G} {cy : Nat → ClassId} {b n : Nat} (hn : 102 ≤ n) {X : Nat → va_E} {S0 : St} (a1 : Int) {o1 : Int} {o2 : St} (hM : mX12_readsTerm S0 a1 = some (o1, o2)) : gI l yX12_readsTerm cX12_readsTerm 7 (some .int) 2003 0 0 D cy b n (enc b cy X S0) [.ref (b + 80), .int (iI a1)] (fun r u => r = iI o1 ∧ u = (n, enc b cy X o2)) := by
  unfold mX12_readsTerm at hM
  exact (vRX12_readsMany l hn 1800).2.1 S0 a1 _ _ hM
def mX12_readsThing (S0 : St) (a1 : Int) : Option (Int × St) := RX12_readsMany 1800 2 a1 S0
theorem vX12_readsThing (l : Launch) {D : va_G} {cy : Nat → ClassId} {b n : Nat} (hn : 102 ≤ n) {X : Nat → va_E} {S0 : St} (a1 : Int) {o1 : Int} {o2 : St} (hM : mX12_readsThing S0 a1 = some (o1, o2)) : gI l yX12_readsThing cX12_readsThing 4 (some .int) 2003 0 0 D cy b n (enc b cy X S0) [.ref (b + 80), .int (iI a1)] (fun r u => r = iI o1 ∧ u = (n, enc b cy X o2)) := by
  unfold mX12_readsThing at hM
  exact (vRX12_readsMany l hn 1800).2.2 S0 a1 _ _ hM
def mX12_readsWhole (S0 : St) (a1 : Int) : Option (Int × St) := nx (up S0 83 41 0) fun S_1 => gd (0 ≤ (198 + a1) ∧ (198 + a1) < 228) <| bd1 (gd (inI (S_1 84 (198 + a1))) <| if (S_1 84 (198 + a1)) ≤ 0 then (some (0)) else (bd1 (mX12_upTo S_1 a1 0 7) fun r_25 => gd (inL r_25) <| if r_25 ≤ 0 then (some (0)) else (some (1)))) fun z_3 => bd2 (gd (inI z_3) <| if z_3 = 0 then (some ((-1), S_1)) else (bd2 (mX12_readsTerm S_1 a1) fun r_20 S_21 => some (r_20, S_21))) fun z_6 S_7 => gd (inI z_6) <| if z_6 < 0 then (some ((-1), S_7)) else (gd ((inI (S_7 83 41)) ∧ (inI (S_7 83 40))) <| if (S_7 83 41) = (S_7 83 40) then (gd (0 ≤ z_6 ∧ z_6 < 1024) <| gd ((inI (S_7 101 z_6)) ∧ (inI (S_7 84 1))) <| if (S_7 84 1) < (S_7 101 z_6) then (some ((-1), S_7)) else (some (z_6, S_7))) else (some ((-1), S_7)))
set_option maxHeartbeats 4000000 in
set_option maxRecDepth 100000 in
theorem vX12_readsWhole (l : Launch) {D : va_G} {cy : Nat → ClassId} {b n : Nat} (hn : 102 ≤ n) {X : Nat → va_E} {S0 : St} (a1 : Int) {o1 : Int} {o2 : St} (hM : mX12_readsWhole S0 a1 = some (o1, o2)) : gI l yX12_readsWhole cX12_readsWhole 4 (some .int) 2004 0 0 D cy b n (enc b cy X S0) [.ref (b + 80), .int (iI a1)] (fun r u => r = iI o1 ∧ u = (n, enc b cy X o2)) := by
  refine gI_of (by decide) (Nat.le_of_ble_eq_true rfl) ?_
  intro p e s m args below meth c S hr hlk hin hsz ls hl hG
  have hx := S.1
  have hb := S.2.1
  have hl : lv_has ls 4 [(0, .ref (b + 80)), (1, .int (iI a1))] := hl
  replace hG : gW D cy b n s s.heap [] (enc b cy X S0) := hG
  obtain ⟨H, eH⟩ : ∃ H, H = s.heap := ⟨_, rfl⟩
  obtain ⟨locs, elocs⟩ : ∃ locs : List Loc, locs = [] := ⟨_, rfl⟩
  rw [← eH, ← elocs] at hG
  rw [← eH, ← elocs]
  clear eH elocs
  unfold mX12_readsWhole at hM
  refine lv_aload_n hx hb dX12_readsWhole_0 rfl (lv_at hl 0 rfl) ?_
  refine lv_iconst (v := iI 0) hx hb dX12_readsWhole_1 (by decide) ?_
  refine m_put S hG 80 83 41 rfl 41 0 ec_83 cpX12 wm_1714 dX12_readsWhole_2 (pf_83_41) (Nat.lt_of_lt_of_le (Nat.le_of_ble_eq_true rfl) hn) (by decide) (Nat.le_of_ble_eq_true rfl) rfl rfl rfl (fun H locs S_1 eS_1 hG => ?_)
  replace hM := nx_at hM eS_1
  clear eS_1
  refine lv_aload_n hx hb dX12_readsWhole_5 rfl (lv_at hl 0 rfl) ?_
  refine m_get S hG 80 83 0 rfl ec_83 cpX12 wm_1673 dX12_readsWhole_6 rfl (Nat.lt_of_lt_of_le (Nat.le_of_ble_eq_true rfl) hn) (by decide) ?_
  refine lv_sipush (v := iI 198) hx hb dX12_readsWhole_9 (by decide) ?_
  refine lv_iload_n hx hb dX12_readsWhole_12 rfl (lv_at hl 1 rfl) ?_
  refine gi_add hx hb dX12_readsWhole_13 ?_
  obtain ⟨hg_2, hM⟩ := gd_some hM
  refine mi_ald S hG 81 84 rfl ec_84 (Nat.lt_of_lt_of_le (Nat.le_of_ble_eq_true rfl) hn) dX12_readsWhole_14 hg_2 (by decide) ?_
  obtain ⟨z_3, hc_4, hM⟩ := bd1_some hM
  have hK_5 : ∀ (H : Heap) (locs : List Loc) (ls : Array Slot), gW D cy b n s H locs (enc b cy X S_1) → lv_has ls 4 [(0, .ref (b + 80)), (1, .int (iI a1))] → W p l e (gRm 2004 0 0) s m args below meth c H locs 0 0 (gQI D cy b s args below 0 0 (fun r u => r = iI o1 ∧ u = (n, enc b cy X o2))) (F0 m 36 ls [.int (iI z_3)]) := by
    intro H locs ls hG hl
    refine lv_istore_n (lv' := [(2, .int (iI z_3)), (0, .ref (b + 80)), (1, .int (iI a1))]) hx hb dX12_readsWhole_36 rfl hl (by decide) rfl (fun ls hl => ?_)
    refine lv_iload_n hx hb dX12_readsWhole_37 rfl (lv_at hl 0 rfl) ?_
    obtain ⟨z_6, S_7, hc_8, hM⟩ := bd2_some hM
    have hK_9 : ∀ (H : Heap) (locs : List Loc) (ls : Array Slot), gW D cy b n s H locs (enc b cy X S_7) → lv_has ls 4 [(0, .ref (b + 80))] → W p l e (gRm 2004 0 0) s m args below meth c H locs 0 0 (gQI D cy b s args below 0 0 (fun r u => r = iI o1 ∧ u = (n, enc b cy X o2))) (F0 m 50 ls [.int (iI z_6)]) := by
      intro H locs ls hG hl
      refine lv_istore_n (lv' := [(3, .int (iI z_6)), (0, .ref (b + 80))]) hx hb dX12_readsWhole_50 rfl hl (by decide) rfl (fun ls hl => ?_)
      refine lv_iload_n hx hb dX12_readsWhole_51 rfl (lv_at hl 0 rfl) ?_
      obtain ⟨hg_10, hM⟩ := gd_some hM
      refine gi_if_lt (tgt := 85) hx hb dX12_readsWhole_52 (by decide) hg_10 (fun c_11 => ?_) (fun c_11 => ?_)
      · replace hM := ifp hM c_11
        refine lv_iconst (v := iI (-1)) hx hb dX12_readsWhole_85 (by decide) ?_
        cases hM
        exact g_iret S hr hlk hG hsz dX12_readsWhole_86 ⟨Nat.le_of_ble_eq_true rfl, Nat.le_of_ble_eq_true rfl⟩ ⟨rfl, rfl⟩
      · replace hM := ifn hM c_11
        refine lv_aload_n hx hb dX12_readsWhole_55 rfl (lv_at hl 1 rfl) ?_
        refine m_get S hG 80 83 41 rfl ec_83 cpX12 wm_1714 dX12_readsWhole_56 rfl (Nat.lt_of_lt_of_le (Nat.le_of_ble_eq_true rfl) hn) (by decide) ?_
        refine lv_aload_n hx hb dX12_readsWhole_59 rfl (lv_at hl 1 rfl) ?_
        refine m_get S hG 80 83 40 rfl ec_83 cpX12 wm_1713 dX12_readsWhole_60 rfl (Nat.lt_of_lt_of_le (Nat.le_of_ble_eq_true rfl) hn) (by decide) ?_
        obtain ⟨hg_12, hM⟩ := gd_some hM
        refine gi_icmp_ne (tgt := 85) hx hb dX12_readsWhole_63 (by decide) hg_12.1 hg_12.2 (fun c_13 => ?_) (fun c_13 => ?_)
        · replace hM := ifn hM c_13
          refine lv_iconst (v := iI (-1)) hx hb dX12_readsWhole_85 (by decide) ?_
          cases hM
          exact g_iret S hr hlk hG hsz dX12_readsWhole_86 ⟨Nat.le_of_ble_eq_true rfl, Nat.le_of_ble_eq_true rfl⟩ ⟨rfl, rfl⟩
        · replace hM := ifp hM c_13
          refine lv_aload_n hx hb dX12_readsWhole_66 rfl (lv_at hl 1 rfl) ?_
          refine m_get S hG 80 83 35 rfl ec_83 cpX12 wm_1708 dX12_readsWhole_67 rfl (Nat.lt_of_lt_of_le (Nat.le_of_ble_eq_true rfl) hn) (by decide) ?_
          refine lv_iload_n hx hb dX12_readsWhole_70 rfl (lv_at hl 0 rfl) ?_
          obtain ⟨hg_14, hM⟩ := gd_some hM
          refine mi_ald S hG 98 101 rfl ec_101 (Nat.lt_of_lt_of_le (Nat.le_of_ble_eq_true rfl) hn) dX12_readsWhole_71 hg_14 (by decide) ?_
          refine lv_aload_n hx hb dX12_readsWhole_72 rfl (lv_at hl 1 rfl) ?_
          refine m_get S hG 80 83 0 rfl ec_83 cpX12 wm_1673 dX12_readsWhole_73 rfl (Nat.lt_of_lt_of_le (Nat.le_of_ble_eq_true rfl) hn) (by decide) ?_
          refine lv_iconst (v := iI 1) hx hb dX12_readsWhole_76 (by decide) ?_
          refine mi_ald S hG 81 84 rfl ec_84 (Nat.lt_of_lt_of_le (Nat.le_of_ble_eq_true rfl) hn) dX12_readsWhole_77 (by decide) (by decide) ?_
          obtain ⟨hg_15, hM⟩ := gd_some hM
          refine gi_icmp_gt (tgt := 85) hx hb dX12_readsWhole_78 (by decide) hg_15.1 hg_15.2 (fun c_16 => ?_) (fun c_16 => ?_)
          · replace hM := ifp hM c_16
            refine lv_iconst (v := iI (-1)) hx hb dX12_readsWhole_85 (by decide) ?_
            cases hM
            exact g_iret S hr hlk hG hsz dX12_readsWhole_86 ⟨Nat.le_of_ble_eq_true rfl, Nat.le_of_ble_eq_true rfl⟩ ⟨rfl, rfl⟩
          · replace hM := ifn hM c_16
            refine lv_iload_n hx hb dX12_readsWhole_81 rfl (lv_at hl 0 rfl) ?_
            refine lv_goto (tgt := 86) hx hb dX12_readsWhole_82 (by decide) ?_
            cases hM
            exact g_iret S hr hlk hG hsz dX12_readsWhole_86 ⟨Nat.le_of_ble_eq_true rfl, Nat.le_of_ble_eq_true rfl⟩ ⟨rfl, rfl⟩
    clear hM
    replace hM := hc_8
    obtain ⟨hg_17, hM⟩ := gd_some hM
    refine gi_if_eq (tgt := 49) hx hb dX12_readsWhole_38 (by decide) hg_17 (fun c_18 => ?_) (fun c_18 => ?_)
    · replace hM := ifp hM c_18
      refine lv_iconst (v := iI (-1)) hx hb dX12_readsWhole_49 (by decide) ?_
      cases hM
      exact hK_9 H locs ls hG (lv_sub hl [1] rfl)
    · replace hM := ifn hM c_18
      refine lv_aload_n hx hb dX12_readsWhole_41 rfl (lv_at hl 1 rfl) ?_
      refine lv_iload_n hx hb dX12_readsWhole_42 rfl (lv_at hl 2 rfl) ?_
      obtain ⟨r_20, S_21, hc_19, hM⟩ := bd2_some hM
      refine g_vi (As := [.int (iI a1)]) (rest := []) S hG hsz (vX12_readsTerm l hn a1 hc_19) wV_12_497 (ec_83 _) cpX12 (Nat.lt_of_lt_of_le (Nat.le_of_ble_eq_true rfl) hn) dX12_readsWhole_43 rfl hl.1 (ar := 1) (by decide +kernel) rfl ⟨Nat.le_of_ble_eq_true rfl, Nat.le_of_ble_eq_true rfl, Nat.le_of_ble_eq_true rfl, Nat.le_of_ble_eq_true rfl⟩ (Nat.le_of_ble_eq_true rfl) (fun rv uu H locs hp hG => ?_)
      obtain ⟨rfl, rfl⟩ := hp
      replace hG : gW D cy b n s H locs (enc b cy X S_21) := hG
      refine lv_goto (tgt := 50) hx hb dX12_readsWhole_46 (by decide) ?_
      cases hM
      exact hK_9 H locs ls hG (lv_sub hl [1] rfl)
  clear hM
  replace hM := hc_4
  obtain ⟨hg_22, hM⟩ := gd_some hM
  refine gi_if_le (tgt := 35) hx hb dX12_readsWhole_15 (by decide) hg_22 (fun c_23 => ?_) (fun c_23 => ?_)
  · replace hM := ifp hM c_23
    refine lv_iconst (v := iI 0) hx hb dX12_readsWhole_35 (by decide) ?_
    cases hM
    exact hK_5 H locs ls hG (lv_sub hl [0, 1] rfl)
  · replace hM := ifn hM c_23
    refine lv_aload_n hx hb dX12_readsWhole_18 rfl (lv_at hl 0 rfl) ?_
    refine lv_iload_n hx hb dX12_readsWhole_19 rfl (lv_at hl 1 rfl) ?_
    refine lv_iconst (v := iI 0) hx hb dX12_readsWhole_20 (by decide) ?_
    refine lv_bipush (v := iI 7) hx hb dX12_readsWhole_21 (by decide) ?_
    obtain ⟨r_25, hc_24, hM⟩ := bd1_some hM
    refine g_vl (As := [.int (iI a1), .int (iI 0), .int (iI 7)]) (rest := []) S hG hsz (vX12_upTo l hn a1 0 7 hc_24) wV_12_327 (ec_83 _) cpX12 (Nat.lt_of_lt_of_le (Nat.le_of_ble_eq_true rfl) hn) dX12_readsWhole_23 rfl hl.1 (ar := 3) (by decide +kernel) rfl ⟨Nat.le_of_ble_eq_true rfl, Nat.le_of_ble_eq_true rfl, Nat.le_of_ble_eq_true rfl, Nat.le_of_ble_eq_true rfl⟩ (Nat.le_of_ble_eq_true rfl) (fun rv uu H locs hp hG => ?_)
    obtain ⟨rfl, rfl⟩ := hp
    replace hG : gW D cy b n s H locs (enc b cy X S_1) := hG
    refine lv_lconst (v := jJ 0) hx hb dX12_readsWhole_26 (by decide) ?_
    obtain ⟨hg_26, hM⟩ := gd_some hM
    refine gj_cmp_le (tgt := 35) hx hb dX12_readsWhole_27 dX12_readsWhole_28 (by decide) hg_26 (by decide) (fun c_27 => ?_) (fun c_27 => ?_)
    · replace hM := ifp hM c_27
      refine lv_iconst (v := iI 0) hx hb dX12_readsWhole_35 (by decide) ?_
      cases hM
      exact hK_5 H locs ls hG (lv_sub hl [0, 1] rfl)
    · replace hM := ifn hM c_27
      refine lv_iconst (v := iI 1) hx hb dX12_readsWhole_31 (by decide) ?_
      refine lv_goto (tgt := 36) hx hb dX12_readsWhole_32 (by decide) ?_
      cases hM
      exact hK_5 H locs ls hG (lv_sub hl [0, 1] rfl)
theorem wV_12_528 : gWV "GrownKindsModel" 528 yX12_readsWhole cX12_readsWhole 4 (some .int) := ⟨wm_2290, wm_2292, wm_156, wm_188, wm_2293, by decide +kernel, by decide +kernel⟩
theorem wV_12_531 : gWV "GrownKindsModel" 531 yX12_takesSpelled cX12_takesSpelled 2 none := ⟨wm_2342, wm_2344, wm_169, wm_188, wm_2345, by decide +kernel, by decide +kernel⟩
def mX12_tells_117 (x_29 : Int) (x_24 : Int) (r_19 : Int) (x_5 : Int) (a1 : Int) : Nat → Int → St → Option (Int × Int × St)
  | 0, _, _ => none
  | f + 1, v_30, S_31 => gd (inI v_30) <| bd1 (mX12_kindMany S_31 a1 x_24) fun r_45 => gd ((inL v_30) ∧ (inL r_45)) <| if r_45 ≤ v_30 then (some (1, v_30, S_31)) else (bd1 (mX12_goes S_31 a1 x_24 v_30 (-1) (-1)) fun S_49 => gd (inI (S_49 83 20)) <| if (S_49 83 20) = x_5 then (bd1 (mX12_takesSpelled S_49) fun S_53 => nx (up S_53 83 38 x_29) fun S_54 => bd2 (mX12_readsWhole S_54 a1) fun r_56 S_57 => bd1 (mX12_areSame S_57 r_19 r_56) fun r_59 => gd (inI r_59) <| if r_59 = 0 then (mX12_tells_117 x_29 x_24 r_19 x_5 a1 f (v_30 + 1) S_57) else (some (0, v_30, S_57))) else (mX12_tells_117 x_29 x_24 r_19 x_5 a1 f (v_30 + 1) S_49))
def mX12_tells_32 (x_5 : Int) (a1 : Int) : Nat → Int → St → Option (St)
  | 0, _, _ => none
  | f + 1, v_9, S_10 => gd (inI v_9) <| if x_5 ≤ v_9 then (some (S_10)) else (gd (0 ≤ v_9 ∧ v_9 < 400) <| gd (0 ≤ v_9 ∧ v_9 < 40) <| nx (up S_10 104 v_9 (S_10 86 v_9)) fun S_69 => mX12_tells_32 x_5 a1 f (v_9 + 1) S_69)
def mX12_tells (S0 : St) (a1 : Int) : Option (Int × St) := bd1 (mX12_isKind S0 a1) fun r_2 => gd (inI r_2) <| if r_2 = 0 then (some ((-2), S0)) else (nx (S0 83 3) fun x_5 => nx (up S0 83 3 0) fun S_6 => gd (inI x_5) <| if x_5 ≤ 40 then (bd1 (mX12_tells_32 x_5 a1 FU 0 S_6) fun S_11 => nx (up S_11 83 40 x_5) fun S_14 => nx (up S_14 83 38 0) fun S_15 => bd1 (mX12_counts S_15 (-1)) fun S_17 => bd2 (mX12_readsWhole S_17 a1) fun r_19 S_20 => gd (inI r_19) <| if 0 ≤ r_19 then (gd (0 ≤ r_19 ∧ r_19 < 1024) <| nx (S_20 101 r_19) fun x_24 => bd1 (mX12_kindMany S_20 a1 x_24) fun r_26 => gd (inL r_26) <| if r_26 ≤ 200 then (nx (S_20 83 38) fun x_29 => bd3 (mX12_tells_117 x_29 x_24 r_19 x_5 a1 FU 0 S_20) fun t_32 y_33 S_34 => if t_32 = 0 then (nx (up S_34 83 42 x_24) fun S_37 => nx (up S_37 83 43 y_33) fun S_38 => some (y_33, S_38)) else (some ((-4), S_34))) else (some ((-3), S_20))) else (some ((-4), S_20))) else (some ((-4), S_6)))
set_option maxHeartbeats 4000000 in
set_option maxRecDepth 100000 in
theorem vX12_tells (l : Launch) {D : va_G} {cy : Nat → ClassId} {b n : Nat} (hn : 102 ≤ n) {X : Nat → va_E} {S0 : St} (a1 : Int) {o1 : Int} {o2 : St} (hM : mX12_tells S0 a1 = some (o1, o2)) : gI l yX12_tells cX12_tells 7 (some .int) 2005 0 0 D cy b n (enc b cy X S0) [.ref (b + 80), .int (iI a1)] (fun r u => r = iI o1 ∧ u = (n, enc b cy X o2)) := by
  refine gI_of (by decide) (Nat.le_of_ble_eq_true rfl) ?_
  intro p e s m args below meth c S hr hlk hin hsz ls hl hG
  have hx := S.1
  have hb := S.2.1
  have hl : lv_has ls 7 [(0, .ref (b + 80)), (1, .int (iI a1))] := hl
  replace hG : gW D cy b n s s.heap [] (enc b cy X S0) := hG
  obtain ⟨H, eH⟩ : ∃ H, H = s.heap := ⟨_, rfl⟩
  obtain ⟨locs, elocs⟩ : ∃ locs : List Loc, locs = [] := ⟨_, rfl⟩
  rw [← eH, ← elocs] at hG
  rw [← eH, ← elocs]
  clear eH elocs
  unfold mX12_tells at hM
  refine lv_aload_n hx hb dX12_tells_0 rfl (lv_at hl 0 rfl) ?_
  refine lv_iload_n hx hb dX12_tells_1 rfl (lv_at hl 1 rfl) ?_
  obtain ⟨r_2, hc_1, hM⟩ := bd1_some hM
  refine g_vi (As := [.int (iI a1)]) (rest := []) S hG hsz (vX12_isKind l hn a1 hc_1) wV_12_225 (ec_83 _) cpX12 (Nat.lt_of_lt_of_le (Nat.le_of_ble_eq_true rfl) hn) dX12_tells_2 rfl hl.1 (ar := 1) (by decide +kernel) rfl ⟨Nat.le_of_ble_eq_true rfl, Nat.le_of_ble_eq_true rfl, Nat.le_of_ble_eq_true rfl, Nat.le_of_ble_eq_true rfl⟩ (Nat.le_of_ble_eq_true rfl) (fun rv uu H locs hp hG => ?_)
  obtain ⟨rfl, rfl⟩ := hp
  replace hG : gW D cy b n s H locs (enc b cy X S0) := hG
  obtain ⟨hg_3, hM⟩ := gd_some hM
  refine gi_if_ne (tgt := 11) hx hb dX12_tells_5 (by decide) hg_3 (fun c_4 => ?_) (fun c_4 => ?_)
  · replace hM := ifn hM c_4
    refine lv_aload_n hx hb dX12_tells_11 rfl (lv_at hl 0 rfl) ?_
    refine m_get S hG 80 83 3 rfl ec_83 cpX12 wm_1676 dX12_tells_12 rfl (Nat.lt_of_lt_of_le (Nat.le_of_ble_eq_true rfl) hn) (by decide) ?_
    refine gi_nm (fun x_5 ex_5 => ?_)
    replace hM := nx_at hM ex_5
    clear ex_5
    refine lv_istore_n (lv' := [(2, .int (iI x_5)), (0, .ref (b + 80)), (1, .int (iI a1))]) hx hb dX12_tells_15 rfl hl (by decide) rfl (fun ls hl => ?_)
    refine lv_aload_n hx hb dX12_tells_16 rfl (lv_at hl 1 rfl) ?_
    refine lv_iconst (v := iI 0) hx hb dX12_tells_17 (by decide) ?_
    refine m_put S hG 80 83 3 rfl 3 0 ec_83 cpX12 wm_1676 dX12_tells_18 (pf_83_3) (Nat.lt_of_lt_of_le (Nat.le_of_ble_eq_true rfl) hn) (by decide) (Nat.le_of_ble_eq_true rfl) rfl rfl rfl (fun H locs S_6 eS_6 hG => ?_)
    replace hM := nx_at hM eS_6
    clear eS_6
    refine lv_iload_n hx hb dX12_tells_21 rfl (lv_at hl 0 rfl) ?_
    refine lv_bipush (v := iI 40) hx hb dX12_tells_22 (by decide) ?_
    obtain ⟨hg_7, hM⟩ := gd_some hM
    refine gi_icmp_le (tgt := 30) hx hb dX12_tells_24 (by decide) hg_7 (by decide) (fun c_8 => ?_) (fun c_8 => ?_)
    · replace hM := ifp hM c_8
      refine lv_iconst (v := iI 0) hx hb dX12_tells_30 (by decide) ?_
      refine lv_istore_n (lv' := [(3, .int (iI 0)), (2, .int (iI x_5)), (0, .ref (b + 80)), (1, .int (iI a1))]) hx hb dX12_tells_31 rfl hl (by decide) rfl (fun ls hl => ?_)
      obtain ⟨S_11, hc_12, hM⟩ := bd1_some hM
      have hK_13 : ∀ (H : Heap) (locs : List Loc) (ls : Array Slot), gW D cy b n s H locs (enc b cy X S_11) → lv_has ls 7 [(2, .int (iI x_5)), (0, .ref (b + 80)), (1, .int (iI a1))] → W p l e (gRm 2005 0 0) s m args below meth c H locs 0 0 (gQI D cy b s args below 0 0 (fun r u => r = iI o1 ∧ u = (n, enc b cy X o2))) (F0 m 55 ls []) := by
        intro H locs ls hG hl
        refine lv_aload_n hx hb dX12_tells_55 rfl (lv_at hl 1 rfl) ?_
        refine lv_iload_n hx hb dX12_tells_56 rfl (lv_at hl 0 rfl) ?_
        refine m_put S hG 80 83 40 rfl 40 x_5 ec_83 cpX12 wm_1713 dX12_tells_57 (pf_83_40) (Nat.lt_of_lt_of_le (Nat.le_of_ble_eq_true rfl) hn) (by decide) (Nat.le_of_ble_eq_true rfl) rfl rfl rfl (fun H locs S_14 eS_14 hG => ?_)
        replace hM := nx_at hM eS_14
        clear eS_14
        refine lv_aload_n hx hb dX12_tells_60 rfl (lv_at hl 1 rfl) ?_
        refine lv_iconst (v := iI 0) hx hb dX12_tells_61 (by decide) ?_
        refine m_put S hG 80 83 38 rfl 38 0 ec_83 cpX12 wm_1711 dX12_tells_62 (pf_83_38) (Nat.lt_of_lt_of_le (Nat.le_of_ble_eq_true rfl) hn) (by decide) (Nat.le_of_ble_eq_true rfl) rfl rfl rfl (fun H locs S_15 eS_15 hG => ?_)
        replace hM := nx_at hM eS_15
        clear eS_15
        refine lv_aload_n hx hb dX12_tells_65 rfl (lv_at hl 1 rfl) ?_
        refine lv_iconst (v := iI (-1)) hx hb dX12_tells_66 (by decide) ?_
        obtain ⟨S_17, hc_16, hM⟩ := bd1_some hM
        refine g_vv (As := [.int (iI (-1))]) (rest := []) S hG hsz (vX12_counts l hn (-1) hc_16) wV_12_324 (ec_83 _) cpX12 (Nat.lt_of_lt_of_le (Nat.le_of_ble_eq_true rfl) hn) dX12_tells_67 rfl hl.1 (ar := 1) (by decide +kernel) rfl ⟨Nat.le_of_ble_eq_true rfl, Nat.le_of_ble_eq_true rfl, Nat.le_of_ble_eq_true rfl, Nat.le_of_ble_eq_true rfl⟩ (Nat.le_of_ble_eq_true rfl) (fun uu H locs hp hG => ?_)
        obtain rfl := hp
        replace hG : gW D cy b n s H locs (enc b cy X S_17) := hG
        refine lv_aload_n hx hb dX12_tells_70 rfl (lv_at hl 1 rfl) ?_
        refine lv_iload_n hx hb dX12_tells_71 rfl (lv_at hl 2 rfl) ?_
        obtain ⟨r_19, S_20, hc_18, hM⟩ := bd2_some hM
        refine g_vi (As := [.int (iI a1)]) (rest := []) S hG hsz (vX12_readsWhole l hn a1 hc_18) wV_12_528 (ec_83 _) cpX12 (Nat.lt_of_lt_of_le (Nat.le_of_ble_eq_true rfl) hn) dX12_tells_72 rfl hl.1 (ar := 1) (by decide +kernel) rfl ⟨Nat.le_of_ble_eq_true rfl, Nat.le_of_ble_eq_true rfl, Nat.le_of_ble_eq_true rfl, Nat.le_of_ble_eq_true rfl⟩ (Nat.le_of_ble_eq_true rfl) (fun rv uu H locs hp hG => ?_)
        obtain ⟨rfl, rfl⟩ := hp
        replace hG : gW D cy b n s H locs (enc b cy X S_20) := hG
        refine lv_istore_n (lv' := [(3, .int (iI r_19)), (2, .int (iI x_5)), (0, .ref (b + 80)), (1, .int (iI a1))]) hx hb dX12_tells_75 rfl hl (by decide) rfl (fun ls hl => ?_)
        refine lv_iload_n hx hb dX12_tells_76 rfl (lv_at hl 0 rfl) ?_
        obtain ⟨hg_21, hM⟩ := gd_some hM
        refine gi_if_ge (tgt := 83) hx hb dX12_tells_77 (by decide) hg_21 (fun c_22 => ?_) (fun c_22 => ?_)
        · replace hM := ifp hM c_22
          refine lv_aload_n hx hb dX12_tells_83 rfl (lv_at hl 2 rfl) ?_
          refine m_get S hG 80 83 35 rfl ec_83 cpX12 wm_1708 dX12_tells_84 rfl (Nat.lt_of_lt_of_le (Nat.le_of_ble_eq_true rfl) hn) (by decide) ?_
          refine lv_iload_n hx hb dX12_tells_87 rfl (lv_at hl 0 rfl) ?_
          obtain ⟨hg_23, hM⟩ := gd_some hM
          refine mi_ald S hG 98 101 rfl ec_101 (Nat.lt_of_lt_of_le (Nat.le_of_ble_eq_true rfl) hn) dX12_tells_88 hg_23 (by decide) ?_
          refine gi_nm (fun x_24 ex_24 => ?_)
          replace hM := nx_at hM ex_24
          clear ex_24
          refine lv_istore (lv' := [(4, .int (iI x_24)), (3, .int (iI r_19)), (2, .int (iI x_5)), (0, .ref (b + 80)), (1, .int (iI a1))]) hx hb dX12_tells_89 hl (by decide) rfl (fun ls hl => ?_)
          refine lv_aload_n hx hb dX12_tells_91 rfl (lv_at hl 3 rfl) ?_
          refine lv_iload_n hx hb dX12_tells_92 rfl (lv_at hl 4 rfl) ?_
          refine lv_iload hx hb dX12_tells_93 (lv_at hl 0 rfl) ?_
          obtain ⟨r_26, hc_25, hM⟩ := bd1_some hM
          refine g_vl (As := [.int (iI a1), .int (iI x_24)]) (rest := []) S hG hsz (vX12_kindMany l hn a1 x_24 hc_25) wV_12_320 (ec_83 _) cpX12 (Nat.lt_of_lt_of_le (Nat.le_of_ble_eq_true rfl) hn) dX12_tells_95 rfl hl.1 (ar := 2) (by decide +kernel) rfl ⟨Nat.le_of_ble_eq_true rfl, Nat.le_of_ble_eq_true rfl, Nat.le_of_ble_eq_true rfl, Nat.le_of_ble_eq_true rfl⟩ (Nat.le_of_ble_eq_true rfl) (fun rv uu H locs hp hG => ?_)
          obtain ⟨rfl, rfl⟩ := hp
          replace hG : gW D cy b n s H locs (enc b cy X S_20) := hG
          refine lv_ldc2 (v := 200) hx hb S.2.2.2.1 (S.2.2.2.2 _ wm_2182) dX12_tells_98 ?_
          refine gj_as 200 (by decide) ?_
          obtain ⟨hg_27, hM⟩ := gd_some hM
          refine gj_cmp_le (tgt := 108) hx hb dX12_tells_101 dX12_tells_102 (by decide) hg_27 (by decide) (fun c_28 => ?_) (fun c_28 => ?_)
          · replace hM := ifp hM c_28
            refine lv_aload_n hx hb dX12_tells_108 rfl (lv_at hl 3 rfl) ?_
            refine m_get S hG 80 83 38 rfl ec_83 cpX12 wm_1711 dX12_tells_109 rfl (Nat.lt_of_lt_of_le (Nat.le_of_ble_eq_true rfl) hn) (by decide) ?_
            refine gi_nm (fun x_29 ex_29 => ?_)
            replace hM := nx_at hM ex_29
            clear ex_29
            refine lv_istore (lv' := [(5, .int (iI x_29)), (4, .int (iI x_24)), (3, .int (iI r_19)), (2, .int (iI x_5)), (0, .ref (b + 80)), (1, .int (iI a1))]) hx hb dX12_tells_112 hl (by decide) rfl (fun ls hl => ?_)
            refine lv_iconst (v := iI 0) hx hb dX12_tells_114 (by decide) ?_
            refine lv_istore (lv' := [(6, .int (iI 0)), (5, .int (iI x_29)), (4, .int (iI x_24)), (3, .int (iI r_19)), (2, .int (iI x_5)), (0, .ref (b + 80)), (1, .int (iI a1))]) hx hb dX12_tells_115 hl (by decide) rfl (fun ls hl => ?_)
            obtain ⟨t_32, y_33, S_34, hc_35, hM⟩ := bd3_some hM
            have hK_36 : ∀ (H : Heap) (locs : List Loc) (ls : Array Slot), t_32 = 0 → gW D cy b n s H locs (enc b cy X S_34) → lv_has ls 7 [(4, .int (iI x_24)), (0, .ref (b + 80)), (6, .int (iI y_33))] → W p l e (gRm 2005 0 0) s m args below meth c H locs 0 0 (gQI D cy b s args below 0 0 (fun r u => r = iI o1 ∧ u = (n, enc b cy X o2))) (F0 m 176 ls []) := by
              intro H locs ls ht hG hl
              subst ht
              replace hM := ifp hM rfl
              refine lv_aload_n hx hb dX12_tells_176 rfl (lv_at hl 1 rfl) ?_
              refine lv_iload hx hb dX12_tells_177 (lv_at hl 0 rfl) ?_
              refine m_put S hG 80 83 42 rfl 42 x_24 ec_83 cpX12 wm_1715 dX12_tells_179 (pf_83_42) (Nat.lt_of_lt_of_le (Nat.le_of_ble_eq_true rfl) hn) (by decide) (Nat.le_of_ble_eq_true rfl) rfl rfl rfl (fun H locs S_37 eS_37 hG => ?_)
              replace hM := nx_at hM eS_37
              clear eS_37
              refine lv_aload_n hx hb dX12_tells_182 rfl (lv_at hl 1 rfl) ?_
              refine lv_iload hx hb dX12_tells_183 (lv_at hl 2 rfl) ?_
              refine m_put S hG 80 83 43 rfl 43 y_33 ec_83 cpX12 wm_1716 dX12_tells_185 (pf_83_43) (Nat.lt_of_lt_of_le (Nat.le_of_ble_eq_true rfl) hn) (by decide) (Nat.le_of_ble_eq_true rfl) rfl rfl rfl (fun H locs S_38 eS_38 hG => ?_)
              replace hM := nx_at hM eS_38
              clear eS_38
              refine lv_iload hx hb dX12_tells_188 (lv_at hl 2 rfl) ?_
              cases hM
              exact g_iret S hr hlk hG hsz dX12_tells_190 ⟨Nat.le_of_ble_eq_true rfl, Nat.le_of_ble_eq_true rfl⟩ ⟨rfl, rfl⟩
            have hK_39 : ∀ (H : Heap) (locs : List Loc) (ls : Array Slot), t_32 = 1 → gW D cy b n s H locs (enc b cy X S_34) → lv_has ls 7 [] → W p l e (gRm 2005 0 0) s m args below meth c H locs 0 0 (gQI D cy b s args below 0 0 (fun r u => r = iI o1 ∧ u = (n, enc b cy X o2))) (F0 m 197 ls []) := by
              intro H locs ls ht hG hl
              subst ht
              replace hM := ifn hM (by decide)
              refine lv_bipush (v := iI (-4)) hx hb dX12_tells_197 (by decide) ?_
              cases hM
              exact g_iret S hr hlk hG hsz dX12_tells_199 ⟨Nat.le_of_ble_eq_true rfl, Nat.le_of_ble_eq_true rfl⟩ ⟨rfl, rfl⟩
            have loop_40 : ∀ (f : Nat) (v_30 : Int) (S_31 : St) (H : Heap) (locs : List Loc) (ls : Array Slot), mX12_tells_117 x_29 x_24 r_19 x_5 a1 f v_30 S_31 = some (t_32, y_33, S_34) → gW D cy b n s H locs (enc b cy X S_31) → lv_has ls 7 [(6, .int (iI v_30)), (5, .int (iI x_29)), (4, .int (iI x_24)), (3, .int (iI r_19)), (2, .int (iI x_5)), (0, .ref (b + 80)), (1, .int (iI a1))] → W p l e (gRm 2005 0 0) s m args below meth c H locs 0 0 (gQI D cy b s args below 0 0 (fun r u => r = iI o1 ∧ u = (n, enc b cy X o2))) (F0 m 117 ls []) := by
              clear hM
              intro f
              induction f with
              | zero => intro v_30 S_31 H locs ls hM; rw [mX12_tells_117] at hM; cases hM
              | succ f_42 ih_41 =>
                intro v_30 S_31 H locs ls hM hG hl
                rw [mX12_tells_117] at hM
                refine lv_iload hx hb dX12_tells_117 (lv_at hl 0 rfl) ?_
                obtain ⟨hg_43, hM⟩ := gd_some hM
                refine gi_i2l hx hb dX12_tells_119 hg_43 ?_
                refine lv_aload_n hx hb dX12_tells_120 rfl (lv_at hl 5 rfl) ?_
                refine lv_iload_n hx hb dX12_tells_121 rfl (lv_at hl 6 rfl) ?_
                refine lv_iload hx hb dX12_tells_122 (lv_at hl 2 rfl) ?_
                obtain ⟨r_45, hc_44, hM⟩ := bd1_some hM
                refine g_vl (As := [.int (iI a1), .int (iI x_24)]) (rest := [.long (jJ v_30)]) S hG hsz (vX12_kindMany l hn a1 x_24 hc_44) wV_12_320 (ec_83 _) cpX12 (Nat.lt_of_lt_of_le (Nat.le_of_ble_eq_true rfl) hn) dX12_tells_124 rfl hl.1 (ar := 2) (by decide +kernel) rfl ⟨Nat.le_of_ble_eq_true rfl, Nat.le_of_ble_eq_true rfl, Nat.le_of_ble_eq_true rfl, Nat.le_of_ble_eq_true rfl⟩ (Nat.le_of_ble_eq_true rfl) (fun rv uu H locs hp hG => ?_)
                obtain ⟨rfl, rfl⟩ := hp
                replace hG : gW D cy b n s H locs (enc b cy X S_31) := hG
                obtain ⟨hg_46, hM⟩ := gd_some hM
                refine gj_cmp_ge (tgt := 197) hx hb dX12_tells_127 dX12_tells_128 (by decide) hg_46.1 hg_46.2 (fun c_47 => ?_) (fun c_47 => ?_)
                · replace hM := ifp hM c_47
                  cases hM
                  exact hK_39 H locs ls rfl hG (lv_sub hl [] rfl)
                · replace hM := ifn hM c_47
                  refine lv_aload_n hx hb dX12_tells_131 rfl (lv_at hl 5 rfl) ?_
                  refine lv_iload_n hx hb dX12_tells_132 rfl (lv_at hl 6 rfl) ?_
                  refine lv_iload hx hb dX12_tells_133 (lv_at hl 2 rfl) ?_
                  refine lv_iload hx hb dX12_tells_135 (lv_at hl 0 rfl) ?_
                  refine lv_iconst (v := iI (-1)) hx hb dX12_tells_137 (by decide) ?_
                  refine lv_iconst (v := iI (-1)) hx hb dX12_tells_138 (by decide) ?_
                  obtain ⟨S_49, hc_48, hM⟩ := bd1_some hM
                  refine g_vv (As := [.int (iI a1), .int (iI x_24), .int (iI v_30), .int (iI (-1)), .int (iI (-1))]) (rest := []) S hG hsz (vX12_goes l hn a1 x_24 v_30 (-1) (-1) hc_48) wV_12_475 (ec_83 _) cpX12 (Nat.lt_of_lt_of_le (Nat.le_of_ble_eq_true rfl) hn) dX12_tells_139 rfl hl.1 (ar := 5) (by decide +kernel) rfl ⟨Nat.le_of_ble_eq_true rfl, Nat.le_of_ble_eq_true rfl, Nat.le_of_ble_eq_true rfl, Nat.le_of_ble_eq_true rfl⟩ (Nat.le_of_ble_eq_true rfl) (fun uu H locs hp hG => ?_)
                  obtain rfl := hp
                  replace hG : gW D cy b n s H locs (enc b cy X S_49) := hG
                  refine lv_aload_n hx hb dX12_tells_142 rfl (lv_at hl 5 rfl) ?_
                  refine m_get S hG 80 83 20 rfl ec_83 cpX12 wm_1693 dX12_tells_143 rfl (Nat.lt_of_lt_of_le (Nat.le_of_ble_eq_true rfl) hn) (by decide) ?_
                  refine lv_iload_n hx hb dX12_tells_146 rfl (lv_at hl 4 rfl) ?_
                  obtain ⟨hg_50, hM⟩ := gd_some hM
                  refine gi_icmp_eq (tgt := 153) hx hb dX12_tells_147 (by decide) hg_50 hg_7 (fun c_51 => ?_) (fun c_51 => ?_)
                  · replace hM := ifp hM c_51
                    refine lv_aload_n hx hb dX12_tells_153 rfl (lv_at hl 5 rfl) ?_
                    obtain ⟨S_53, hc_52, hM⟩ := bd1_some hM
                    refine g_vv (As := []) (rest := []) S hG hsz (vX12_takesSpelled l hn  hc_52) wV_12_531 (ec_83 _) cpX12 (Nat.lt_of_lt_of_le (Nat.le_of_ble_eq_true rfl) hn) dX12_tells_154 rfl hl.1 (ar := 0) (by decide +kernel) rfl ⟨Nat.le_of_ble_eq_true rfl, Nat.le_of_ble_eq_true rfl, Nat.le_of_ble_eq_true rfl, Nat.le_of_ble_eq_true rfl⟩ (Nat.le_of_ble_eq_true rfl) (fun uu H locs hp hG => ?_)
                    obtain rfl := hp
                    replace hG : gW D cy b n s H locs (enc b cy X S_53) := hG
                    refine lv_aload_n hx hb dX12_tells_157 rfl (lv_at hl 5 rfl) ?_
                    refine lv_iload hx hb dX12_tells_158 (lv_at hl 1 rfl) ?_
                    refine m_put S hG 80 83 38 rfl 38 x_29 ec_83 cpX12 wm_1711 dX12_tells_160 (pf_83_38) (Nat.lt_of_lt_of_le (Nat.le_of_ble_eq_true rfl) hn) (by decide) (Nat.le_of_ble_eq_true rfl) rfl rfl rfl (fun H locs S_54 eS_54 hG => ?_)
                    replace hM := nx_at hM eS_54
                    clear eS_54
                    refine lv_aload_n hx hb dX12_tells_163 rfl (lv_at hl 5 rfl) ?_
                    refine lv_iload_n hx hb dX12_tells_164 rfl (lv_at hl 3 rfl) ?_
                    refine lv_aload_n hx hb dX12_tells_165 rfl (lv_at hl 5 rfl) ?_
                    refine lv_iload_n hx hb dX12_tells_166 rfl (lv_at hl 6 rfl) ?_
                    obtain ⟨r_56, S_57, hc_55, hM⟩ := bd2_some hM
                    refine g_vi (As := [.int (iI a1)]) (rest := [.int (iI r_19), .ref (b + 80)]) S hG hsz (vX12_readsWhole l hn a1 hc_55) wV_12_528 (ec_83 _) cpX12 (Nat.lt_of_lt_of_le (Nat.le_of_ble_eq_true rfl) hn) dX12_tells_167 rfl hl.1 (ar := 1) (by decide +kernel) rfl ⟨Nat.le_of_ble_eq_true rfl, Nat.le_of_ble_eq_true rfl, Nat.le_of_ble_eq_true rfl, Nat.le_of_ble_eq_true rfl⟩ (Nat.le_of_ble_eq_true rfl) (fun rv uu H locs hp hG => ?_)
                    obtain ⟨rfl, rfl⟩ := hp
                    replace hG : gW D cy b n s H locs (enc b cy X S_57) := hG
                    obtain ⟨r_59, hc_58, hM⟩ := bd1_some hM
                    refine g_vi (As := [.int (iI r_19), .int (iI r_56)]) (rest := []) S hG hsz (vX12_areSame l hn r_19 r_56 hc_58) wV_12_519 (ec_83 _) cpX12 (Nat.lt_of_lt_of_le (Nat.le_of_ble_eq_true rfl) hn) dX12_tells_170 rfl hl.1 (ar := 2) (by decide +kernel) rfl ⟨Nat.le_of_ble_eq_true rfl, Nat.le_of_ble_eq_true rfl, Nat.le_of_ble_eq_true rfl, Nat.le_of_ble_eq_true rfl⟩ (Nat.le_of_ble_eq_true rfl) (fun rv uu H locs hp hG => ?_)
                    obtain ⟨rfl, rfl⟩ := hp
                    replace hG : gW D cy b n s H locs (enc b cy X S_57) := hG
                    obtain ⟨hg_60, hM⟩ := gd_some hM
                    refine gi_if_eq (tgt := 191) hx hb dX12_tells_173 (by decide) hg_60 (fun c_61 => ?_) (fun c_61 => ?_)
                    · replace hM := ifp hM c_61
                      refine lv_iinc (v := iI (v_30 + 1)) (lv' := [(6, .int (iI (v_30 + 1))), (5, .int (iI x_29)), (4, .int (iI x_24)), (3, .int (iI r_19)), (2, .int (iI x_5)), (0, .ref (b + 80)), (1, .int (iI a1))]) hx hb dX12_tells_191 hl (k := 0) rfl ((iI_add v_30 (1)).trans (congrArg iI (by omega))) (by decide) rfl (fun ls hl => ?_)
                      refine lv_goto (tgt := 117) hx hb dX12_tells_194 (by decide) ?_
                      exact ih_41 (v_30 + 1) S_57 H locs ls hM hG (lv_sub hl [0, 1, 2, 3, 4, 5, 6] rfl)
                    · replace hM := ifn hM c_61
                      cases hM
                      exact hK_36 H locs ls rfl hG (lv_sub hl [2, 5, 0] rfl)
                  · replace hM := ifn hM c_51
                    refine lv_goto (tgt := 191) hx hb dX12_tells_150 (by decide) ?_
                    refine lv_iinc (v := iI (v_30 + 1)) (lv' := [(6, .int (iI (v_30 + 1))), (5, .int (iI x_29)), (4, .int (iI x_24)), (3, .int (iI r_19)), (2, .int (iI x_5)), (0, .ref (b + 80)), (1, .int (iI a1))]) hx hb dX12_tells_191 hl (k := 0) rfl ((iI_add v_30 (1)).trans (congrArg iI (by omega))) (by decide) rfl (fun ls hl => ?_)
                    refine lv_goto (tgt := 117) hx hb dX12_tells_194 (by decide) ?_
                    exact ih_41 (v_30 + 1) S_49 H locs ls hM hG (lv_sub hl [0, 1, 2, 3, 4, 5, 6] rfl)
            exact loop_40 FU 0 S_20 H locs ls hc_35 hG (lv_sub hl [0, 1, 2, 3, 4, 5, 6] rfl)
          · replace hM := ifn hM c_28
            refine lv_bipush (v := iI (-3)) hx hb dX12_tells_105 (by decide) ?_
            cases hM
            exact g_iret S hr hlk hG hsz dX12_tells_107 ⟨Nat.le_of_ble_eq_true rfl, Nat.le_of_ble_eq_true rfl⟩ ⟨rfl, rfl⟩
        · replace hM := ifn hM c_22
          refine lv_bipush (v := iI (-4)) hx hb dX12_tells_80 (by decide) ?_
          cases hM
          exact g_iret S hr hlk hG hsz dX12_tells_82 ⟨Nat.le_of_ble_eq_true rfl, Nat.le_of_ble_eq_true rfl⟩ ⟨rfl, rfl⟩
      have loop_62 : ∀ (f : Nat) (v_9 : Int) (S_10 : St) (H : Heap) (locs : List Loc) (ls : Array Slot), mX12_tells_32 x_5 a1 f v_9 S_10 = some S_11 → gW D cy b n s H locs (enc b cy X S_10) → lv_has ls 7 [(3, .int (iI v_9)), (2, .int (iI x_5)), (0, .ref (b + 80)), (1, .int (iI a1))] → W p l e (gRm 2005 0 0) s m args below meth c H locs 0 0 (gQI D cy b s args below 0 0 (fun r u => r = iI o1 ∧ u = (n, enc b cy X o2))) (F0 m 32 ls []) := by
        clear hM
        intro f
        induction f with
        | zero => intro v_9 S_10 H locs ls hM; rw [mX12_tells_32] at hM; cases hM
        | succ f_64 ih_63 =>
          intro v_9 S_10 H locs ls hM hG hl
          rw [mX12_tells_32] at hM
          refine lv_iload_n hx hb dX12_tells_32 rfl (lv_at hl 0 rfl) ?_
          refine lv_iload_n hx hb dX12_tells_33 rfl (lv_at hl 1 rfl) ?_
          obtain ⟨hg_65, hM⟩ := gd_some hM
          refine gi_icmp_ge (tgt := 55) hx hb dX12_tells_34 (by decide) hg_65 hg_7 (fun c_66 => ?_) (fun c_66 => ?_)
          · replace hM := ifp hM c_66
            cases hM
            exact hK_13 H locs ls hG (lv_sub hl [1, 2, 3] rfl)
          · replace hM := ifn hM c_66
            refine lv_aload_n hx hb dX12_tells_37 rfl (lv_at hl 2 rfl) ?_
            refine m_get S hG 80 83 39 rfl ec_83 cpX12 wm_1712 dX12_tells_38 rfl (Nat.lt_of_lt_of_le (Nat.le_of_ble_eq_true rfl) hn) (by decide) ?_
            refine lv_iload_n hx hb dX12_tells_41 rfl (lv_at hl 0 rfl) ?_
            refine lv_aload_n hx hb dX12_tells_42 rfl (lv_at hl 2 rfl) ?_
            refine m_get S hG 80 83 2 rfl ec_83 cpX12 wm_1675 dX12_tells_43 rfl (Nat.lt_of_lt_of_le (Nat.le_of_ble_eq_true rfl) hn) (by decide) ?_
            refine lv_iload_n hx hb dX12_tells_46 rfl (lv_at hl 0 rfl) ?_
            obtain ⟨hg_67, hM⟩ := gd_some hM
            refine mi_ald S hG 83 86 rfl ec_86 (Nat.lt_of_lt_of_le (Nat.le_of_ble_eq_true rfl) hn) dX12_tells_47 hg_67 (by decide) ?_
            obtain ⟨hg_68, hM⟩ := gd_some hM
            refine mi_ast S hG 101 104 rfl ec_104 (Nat.lt_of_lt_of_le (Nat.le_of_ble_eq_true rfl) hn) dX12_tells_48 hg_68 (by decide) (fun H locs S_69 eS_69 hG => ?_)
            replace hM := nx_at hM eS_69
            clear eS_69
            refine lv_iinc (v := iI (v_9 + 1)) (lv' := [(3, .int (iI (v_9 + 1))), (2, .int (iI x_5)), (0, .ref (b + 80)), (1, .int (iI a1))]) hx hb dX12_tells_49 hl (k := 0) rfl ((iI_add v_9 (1)).trans (congrArg iI (by omega))) (by decide) rfl (fun ls hl => ?_)
            refine lv_goto (tgt := 32) hx hb dX12_tells_52 (by decide) ?_
            exact ih_63 (v_9 + 1) S_69 H locs ls hM hG (lv_sub hl [0, 1, 2, 3] rfl)
      exact loop_62 FU 0 S_6 H locs ls hc_12 hG (lv_sub hl [0, 1, 2, 3] rfl)
    · replace hM := ifn hM c_8
      refine lv_bipush (v := iI (-4)) hx hb dX12_tells_27 (by decide) ?_
      cases hM
      exact g_iret S hr hlk hG hsz dX12_tells_29 ⟨Nat.le_of_ble_eq_true rfl, Nat.le_of_ble_eq_true rfl⟩ ⟨rfl, rfl⟩
  · replace hM := ifp hM c_4
    refine lv_bipush (v := iI (-2)) hx hb dX12_tells_8 (by decide) ?_
    cases hM
    exact g_iret S hr hlk hG hsz dX12_tells_10 ⟨Nat.le_of_ble_eq_true rfl, Nat.le_of_ble_eq_true rfl⟩ ⟨rfl, rfl⟩
def mX12_shared_36 (a1 : Int) (a2 : Int) (a3 : Int) : Nat → Int → Int → St → Option (Int × St)
  | 0, _, _, _ => none
  | f + 1, v_9, v_10, S_11 => gd (inI v_9) <| bd1 (mX12_kindMany S_11 a1 a3) fun r_21 => gd ((inL v_9) ∧ (inL r_21)) <| if r_21 ≤ v_9 then (some (v_10, S_11)) else (bd1 (mX12_goes S_11 a1 a3 v_9 (-1) (-1)) fun S_25 => gd (inI (S_25 83 20)) <| if 40 < (S_25 83 20) then (mX12_shared_36 a1 a2 a3 f (v_9 + 1) v_10 S_25) else (bd1 (mX12_takesSpelled S_25) fun S_29 => nx (up S_29 83 38 0) fun S_30 => bd2 (mX12_readsWhole S_30 a2) fun r_32 S_33 => gd (inI r_32) <| if 0 ≤ r_32 then (nx (v_10 + 1) fun x_36 => mX12_shared_36 a1 a2 a3 f (v_9 + 1) x_36 S_33) else (nx (v_10 + 0) fun x_37 => mX12_shared_36 a1 a2 a3 f (v_9 + 1) x_37 S_33)))
def mX12_shared (S0 : St) (a1 : Int) (a2 : Int) (a3 : Int) : Option (Int × St) := bd1 (mX12_isKind S0 a2) fun r_2 => bd2 (gd (inI r_2) <| if r_2 = 0 then (some ((-2), S0)) else (bd2 (mX12_whyNone S0 a1 a3) fun r_41 S_42 => some (r_41, S_42))) fun z_3 S_4 => gd (inI z_3) <| if (-1) ≤ z_3 then (bd2 (mX12_shared_36 a1 a2 a3 FU 0 0 S_4) fun y_12 S_13 => some (y_12, S_13)) else (some (z_3, S_4))
set_option maxHeartbeats 4000000 in
set_option maxRecDepth 100000 in
theorem vX12_shared (l : Launch) {D : va_G} {cy : Nat → ClassId} {b n : Nat} (hn : 102 ≤ n) {X : Nat → va_E} {S0 : St} (a1 : Int) (a2 : Int) (a3 : Int) {o1 : Int} {o2 : St} (hM : mX12_shared S0 a1 a2 a3 = some (o1, o2)) : gI l yX12_shared cX12_shared 7 (some .int) 2005 0 0 D cy b n (enc b cy X S0) [.ref (b + 80), .int (iI a1), .int (iI a2), .int (iI a3)] (fun r u => r = iI o1 ∧ u = (n, enc b cy X o2)) := by
  refine gI_of (by decide) (Nat.le_of_ble_eq_true rfl) ?_
  intro p e s m args below meth c S hr hlk hin hsz ls hl hG
  have hx := S.1
  have hb := S.2.1
  have hl : lv_has ls 7 [(0, .ref (b + 80)), (1, .int (iI a1)), (2, .int (iI a2)), (3, .int (iI a3))] := hl
  replace hG : gW D cy b n s s.heap [] (enc b cy X S0) := hG
  obtain ⟨H, eH⟩ : ∃ H, H = s.heap := ⟨_, rfl⟩
  obtain ⟨locs, elocs⟩ : ∃ locs : List Loc, locs = [] := ⟨_, rfl⟩
  rw [← eH, ← elocs] at hG
  rw [← eH, ← elocs]
  clear eH elocs
  unfold mX12_shared at hM
  refine lv_aload_n hx hb dX12_shared_0 rfl (lv_at hl 0 rfl) ?_
  refine lv_iload_n hx hb dX12_shared_1 rfl (lv_at hl 2 rfl) ?_
  obtain ⟨r_2, hc_1, hM⟩ := bd1_some hM
  refine g_vi (As := [.int (iI a2)]) (rest := []) S hG hsz (vX12_isKind l hn a2 hc_1) wV_12_225 (ec_83 _) cpX12 (Nat.lt_of_lt_of_le (Nat.le_of_ble_eq_true rfl) hn) dX12_shared_2 rfl hl.1 (ar := 1) (by decide +kernel) rfl ⟨Nat.le_of_ble_eq_true rfl, Nat.le_of_ble_eq_true rfl, Nat.le_of_ble_eq_true rfl, Nat.le_of_ble_eq_true rfl⟩ (Nat.le_of_ble_eq_true rfl) (fun rv uu H locs hp hG => ?_)
  obtain ⟨rfl, rfl⟩ := hp
  replace hG : gW D cy b n s H locs (enc b cy X S0) := hG
  obtain ⟨z_3, S_4, hc_5, hM⟩ := bd2_some hM
  have hK_6 : ∀ (H : Heap) (locs : List Loc) (ls : Array Slot), gW D cy b n s H locs (enc b cy X S_4) → lv_has ls 7 [(0, .ref (b + 80)), (1, .int (iI a1)), (2, .int (iI a2)), (3, .int (iI a3))] → W p l e (gRm 2005 0 0) s m args below meth c H locs 0 0 (gQI D cy b s args below 0 0 (fun r u => r = iI o1 ∧ u = (n, enc b cy X o2))) (F0 m 19 ls [.int (iI z_3)]) := by
    intro H locs ls hG hl
    refine lv_istore (lv' := [(4, .int (iI z_3)), (0, .ref (b + 80)), (1, .int (iI a1)), (2, .int (iI a2)), (3, .int (iI a3))]) hx hb dX12_shared_19 hl (by decide) rfl (fun ls hl => ?_)
    refine lv_iload hx hb dX12_shared_21 (lv_at hl 0 rfl) ?_
    refine lv_iconst (v := iI (-1)) hx hb dX12_shared_23 (by decide) ?_
    obtain ⟨hg_7, hM⟩ := gd_some hM
    refine gi_icmp_ge (tgt := 30) hx hb dX12_shared_24 (by decide) hg_7 (by decide) (fun c_8 => ?_) (fun c_8 => ?_)
    · replace hM := ifp hM c_8
      refine lv_iconst (v := iI 0) hx hb dX12_shared_30 (by decide) ?_
      refine lv_istore (lv' := [(5, .int (iI 0)), (4, .int (iI z_3)), (0, .ref (b + 80)), (1, .int (iI a1)), (2, .int (iI a2)), (3, .int (iI a3))]) hx hb dX12_shared_31 hl (by decide) rfl (fun ls hl => ?_)
      refine lv_iconst (v := iI 0) hx hb dX12_shared_33 (by decide) ?_
      refine lv_istore (lv' := [(6, .int (iI 0)), (5, .int (iI 0)), (4, .int (iI z_3)), (0, .ref (b + 80)), (1, .int (iI a1)), (2, .int (iI a2)), (3, .int (iI a3))]) hx hb dX12_shared_34 hl (by decide) rfl (fun ls hl => ?_)
      obtain ⟨y_12, S_13, hc_14, hM⟩ := bd2_some hM
      have hK_15 : ∀ (H : Heap) (locs : List Loc) (ls : Array Slot), gW D cy b n s H locs (enc b cy X S_13) → lv_has ls 7 [(5, .int (iI y_12))] → W p l e (gRm 2005 0 0) s m args below meth c H locs 0 0 (gQI D cy b s args below 0 0 (fun r u => r = iI o1 ∧ u = (n, enc b cy X o2))) (F0 m 101 ls []) := by
        intro H locs ls hG hl
        refine lv_iload hx hb dX12_shared_101 (lv_at hl 0 rfl) ?_
        cases hM
        exact g_iret S hr hlk hG hsz dX12_shared_103 ⟨Nat.le_of_ble_eq_true rfl, Nat.le_of_ble_eq_true rfl⟩ ⟨rfl, rfl⟩
      have loop_16 : ∀ (f : Nat) (v_9 : Int) (v_10 : Int) (S_11 : St) (H : Heap) (locs : List Loc) (ls : Array Slot), mX12_shared_36 a1 a2 a3 f v_9 v_10 S_11 = some (y_12, S_13) → gW D cy b n s H locs (enc b cy X S_11) → lv_has ls 7 [(6, .int (iI v_9)), (5, .int (iI v_10)), (0, .ref (b + 80)), (1, .int (iI a1)), (2, .int (iI a2)), (3, .int (iI a3))] → W p l e (gRm 2005 0 0) s m args below meth c H locs 0 0 (gQI D cy b s args below 0 0 (fun r u => r = iI o1 ∧ u = (n, enc b cy X o2))) (F0 m 36 ls []) := by
        clear hM
        intro f
        induction f with
        | zero => intro v_9 v_10 S_11 H locs ls hM; rw [mX12_shared_36] at hM; cases hM
        | succ f_18 ih_17 =>
          intro v_9 v_10 S_11 H locs ls hM hG hl
          rw [mX12_shared_36] at hM
          refine lv_iload hx hb dX12_shared_36 (lv_at hl 0 rfl) ?_
          obtain ⟨hg_19, hM⟩ := gd_some hM
          refine gi_i2l hx hb dX12_shared_38 hg_19 ?_
          refine lv_aload_n hx hb dX12_shared_39 rfl (lv_at hl 2 rfl) ?_
          refine lv_iload_n hx hb dX12_shared_40 rfl (lv_at hl 3 rfl) ?_
          refine lv_iload_n hx hb dX12_shared_41 rfl (lv_at hl 5 rfl) ?_
          obtain ⟨r_21, hc_20, hM⟩ := bd1_some hM
          refine g_vl (As := [.int (iI a1), .int (iI a3)]) (rest := [.long (jJ v_9)]) S hG hsz (vX12_kindMany l hn a1 a3 hc_20) wV_12_320 (ec_83 _) cpX12 (Nat.lt_of_lt_of_le (Nat.le_of_ble_eq_true rfl) hn) dX12_shared_42 rfl hl.1 (ar := 2) (by decide +kernel) rfl ⟨Nat.le_of_ble_eq_true rfl, Nat.le_of_ble_eq_true rfl, Nat.le_of_ble_eq_true rfl, Nat.le_of_ble_eq_true rfl⟩ (Nat.le_of_ble_eq_true rfl) (fun rv uu H locs hp hG => ?_)
          obtain ⟨rfl, rfl⟩ := hp
          replace hG : gW D cy b n s H locs (enc b cy X S_11) := hG
          obtain ⟨hg_22, hM⟩ := gd_some hM
          refine gj_cmp_ge (tgt := 101) hx hb dX12_shared_45 dX12_shared_46 (by decide) hg_22.1 hg_22.2 (fun c_23 => ?_) (fun c_23 => ?_)
          · replace hM := ifp hM c_23
            cases hM
            exact hK_15 H locs ls hG (lv_sub hl [1] rfl)
          · replace hM := ifn hM c_23
            refine lv_aload_n hx hb dX12_shared_49 rfl (lv_at hl 2 rfl) ?_
            refine lv_iload_n hx hb dX12_shared_50 rfl (lv_at hl 3 rfl) ?_
            refine lv_iload_n hx hb dX12_shared_51 rfl (lv_at hl 5 rfl) ?_
            refine lv_iload hx hb dX12_shared_52 (lv_at hl 0 rfl) ?_
            refine lv_iconst (v := iI (-1)) hx hb dX12_shared_54 (by decide) ?_
            refine lv_iconst (v := iI (-1)) hx hb dX12_shared_55 (by decide) ?_
            obtain ⟨S_25, hc_24, hM⟩ := bd1_some hM
            refine g_vv (As := [.int (iI a1), .int (iI a3), .int (iI v_9), .int (iI (-1)), .int (iI (-1))]) (rest := []) S hG hsz (vX12_goes l hn a1 a3 v_9 (-1) (-1) hc_24) wV_12_475 (ec_83 _) cpX12 (Nat.lt_of_lt_of_le (Nat.le_of_ble_eq_true rfl) hn) dX12_shared_56 rfl hl.1 (ar := 5) (by decide +kernel) rfl ⟨Nat.le_of_ble_eq_true rfl, Nat.le_of_ble_eq_true rfl, Nat.le_of_ble_eq_true rfl, Nat.le_of_ble_eq_true rfl⟩ (Nat.le_of_ble_eq_true rfl) (fun uu H locs hp hG => ?_)
            obtain rfl := hp
            replace hG : gW D cy b n s H locs (enc b cy X S_25) := hG
            refine lv_aload_n hx hb dX12_shared_59 rfl (lv_at hl 2 rfl) ?_
            refine m_get S hG 80 83 20 rfl ec_83 cpX12 wm_1693 dX12_shared_60 rfl (Nat.lt_of_lt_of_le (Nat.le_of_ble_eq_true rfl) hn) (by decide) ?_
            refine lv_bipush (v := iI 40) hx hb dX12_shared_63 (by decide) ?_
            obtain ⟨hg_26, hM⟩ := gd_some hM
            refine gi_icmp_gt (tgt := 95) hx hb dX12_shared_65 (by decide) hg_26 (by decide) (fun c_27 => ?_) (fun c_27 => ?_)
            · replace hM := ifp hM c_27
              refine lv_iinc (v := iI (v_9 + 1)) (lv' := [(6, .int (iI (v_9 + 1))), (5, .int (iI v_10)), (0, .ref (b + 80)), (1, .int (iI a1)), (2, .int (iI a2)), (3, .int (iI a3))]) hx hb dX12_shared_95 hl (k := 0) rfl ((iI_add v_9 (1)).trans (congrArg iI (by omega))) (by decide) rfl (fun ls hl => ?_)
              refine lv_goto (tgt := 36) hx hb dX12_shared_98 (by decide) ?_
              exact ih_17 (v_9 + 1) v_10 S_25 H locs ls hM hG (lv_sub hl [0, 1, 2, 3, 4, 5] rfl)
            · replace hM := ifn hM c_27
              refine lv_aload_n hx hb dX12_shared_68 rfl (lv_at hl 2 rfl) ?_
              obtain ⟨S_29, hc_28, hM⟩ := bd1_some hM
              refine g_vv (As := []) (rest := []) S hG hsz (vX12_takesSpelled l hn  hc_28) wV_12_531 (ec_83 _) cpX12 (Nat.lt_of_lt_of_le (Nat.le_of_ble_eq_true rfl) hn) dX12_shared_69 rfl hl.1 (ar := 0) (by decide +kernel) rfl ⟨Nat.le_of_ble_eq_true rfl, Nat.le_of_ble_eq_true rfl, Nat.le_of_ble_eq_true rfl, Nat.le_of_ble_eq_true rfl⟩ (Nat.le_of_ble_eq_true rfl) (fun uu H locs hp hG => ?_)
              obtain rfl := hp
              replace hG : gW D cy b n s H locs (enc b cy X S_29) := hG
              refine lv_aload_n hx hb dX12_shared_72 rfl (lv_at hl 2 rfl) ?_
              refine lv_iconst (v := iI 0) hx hb dX12_shared_73 (by decide) ?_
              refine m_put S hG 80 83 38 rfl 38 0 ec_83 cpX12 wm_1711 dX12_shared_74 (pf_83_38) (Nat.lt_of_lt_of_le (Nat.le_of_ble_eq_true rfl) hn) (by decide) (Nat.le_of_ble_eq_true rfl) rfl rfl rfl (fun H locs S_30 eS_30 hG => ?_)
              replace hM := nx_at hM eS_30
              clear eS_30
              refine lv_iload hx hb dX12_shared_77 (lv_at hl 1 rfl) ?_
              refine lv_aload_n hx hb dX12_shared_79 rfl (lv_at hl 2 rfl) ?_
              refine lv_iload_n hx hb dX12_shared_80 rfl (lv_at hl 4 rfl) ?_
              obtain ⟨r_32, S_33, hc_31, hM⟩ := bd2_some hM
              refine g_vi (As := [.int (iI a2)]) (rest := [.int (iI v_10)]) S hG hsz (vX12_readsWhole l hn a2 hc_31) wV_12_528 (ec_83 _) cpX12 (Nat.lt_of_lt_of_le (Nat.le_of_ble_eq_true rfl) hn) dX12_shared_81 rfl hl.1 (ar := 1) (by decide +kernel) rfl ⟨Nat.le_of_ble_eq_true rfl, Nat.le_of_ble_eq_true rfl, Nat.le_of_ble_eq_true rfl, Nat.le_of_ble_eq_true rfl⟩ (Nat.le_of_ble_eq_true rfl) (fun rv uu H locs hp hG => ?_)
              obtain ⟨rfl, rfl⟩ := hp
              replace hG : gW D cy b n s H locs (enc b cy X S_33) := hG
              obtain ⟨hg_34, hM⟩ := gd_some hM
              refine gi_if_ge (tgt := 91) hx hb dX12_shared_84 (by decide) hg_34 (fun c_35 => ?_) (fun c_35 => ?_)
              · replace hM := ifp hM c_35
                refine lv_iconst (v := iI 1) hx hb dX12_shared_91 (by decide) ?_
                refine gi_add hx hb dX12_shared_92 ?_
                refine gi_nm (fun x_36 ex_36 => ?_)
                replace hM := nx_at hM ex_36
                clear ex_36
                refine lv_istore (lv' := [(5, .int (iI x_36)), (6, .int (iI v_9)), (0, .ref (b + 80)), (1, .int (iI a1)), (2, .int (iI a2)), (3, .int (iI a3))]) hx hb dX12_shared_93 hl (by decide) rfl (fun ls hl => ?_)
                refine lv_iinc (v := iI (v_9 + 1)) (lv' := [(6, .int (iI (v_9 + 1))), (5, .int (iI x_36)), (0, .ref (b + 80)), (1, .int (iI a1)), (2, .int (iI a2)), (3, .int (iI a3))]) hx hb dX12_shared_95 hl (k := 1) rfl ((iI_add v_9 (1)).trans (congrArg iI (by omega))) (by decide) rfl (fun ls hl => ?_)
                refine lv_goto (tgt := 36) hx hb dX12_shared_98 (by decide) ?_
                exact ih_17 (v_9 + 1) x_36 S_33 H locs ls hM hG (lv_sub hl [0, 1, 2, 3, 4, 5] rfl)
              · replace hM := ifn hM c_35
                refine lv_iconst (v := iI 0) hx hb dX12_shared_87 (by decide) ?_
                refine lv_goto (tgt := 92) hx hb dX12_shared_88 (by decide) ?_
                refine gi_add hx hb dX12_shared_92 ?_
                refine gi_nm (fun x_37 ex_37 => ?_)
                replace hM := nx_at hM ex_37
                clear ex_37
                refine lv_istore (lv' := [(5, .int (iI x_37)), (6, .int (iI v_9)), (0, .ref (b + 80)), (1, .int (iI a1)), (2, .int (iI a2)), (3, .int (iI a3))]) hx hb dX12_shared_93 hl (by decide) rfl (fun ls hl => ?_)
                refine lv_iinc (v := iI (v_9 + 1)) (lv' := [(6, .int (iI (v_9 + 1))), (5, .int (iI x_37)), (0, .ref (b + 80)), (1, .int (iI a1)), (2, .int (iI a2)), (3, .int (iI a3))]) hx hb dX12_shared_95 hl (k := 1) rfl ((iI_add v_9 (1)).trans (congrArg iI (by omega))) (by decide) rfl (fun ls hl => ?_)
                refine lv_goto (tgt := 36) hx hb dX12_shared_98 (by decide) ?_
                exact ih_17 (v_9 + 1) x_37 S_33 H locs ls hM hG (lv_sub hl [0, 1, 2, 3, 4, 5] rfl)
      exact loop_16 FU 0 0 S_4 H locs ls hc_14 hG (lv_sub hl [0, 1, 3, 4, 5, 6] rfl)
    · replace hM := ifn hM c_8
      refine lv_iload hx hb dX12_shared_27 (lv_at hl 0 rfl) ?_
      cases hM
      exact g_iret S hr hlk hG hsz dX12_shared_29 ⟨Nat.le_of_ble_eq_true rfl, Nat.le_of_ble_eq_true rfl⟩ ⟨rfl, rfl⟩
  clear hM
  replace hM := hc_5
  obtain ⟨hg_38, hM⟩ := gd_some hM
  refine gi_if_eq (tgt := 17) hx hb dX12_shared_5 (by decide) hg_38 (fun c_39 => ?_) (fun c_39 => ?_)
  · replace hM := ifp hM c_39
    refine lv_bipush (v := iI (-2)) hx hb dX12_shared_17 (by decide) ?_
    cases hM
    exact hK_6 H locs ls hG (lv_sub hl [0, 1, 2, 3] rfl)
  · replace hM := ifn hM c_39
    refine lv_aload_n hx hb dX12_shared_8 rfl (lv_at hl 0 rfl) ?_
    refine lv_iload_n hx hb dX12_shared_9 rfl (lv_at hl 1 rfl) ?_
    refine lv_iload_n hx hb dX12_shared_10 rfl (lv_at hl 3 rfl) ?_
    obtain ⟨r_41, S_42, hc_40, hM⟩ := bd2_some hM
    refine g_vi (As := [.int (iI a1), .int (iI a3)]) (rest := []) S hG hsz (vX12_whyNone l hn a1 a3 hc_40) wV_12_534 (ec_83 _) cpX12 (Nat.lt_of_lt_of_le (Nat.le_of_ble_eq_true rfl) hn) dX12_shared_11 rfl hl.1 (ar := 2) (by decide +kernel) rfl ⟨Nat.le_of_ble_eq_true rfl, Nat.le_of_ble_eq_true rfl, Nat.le_of_ble_eq_true rfl, Nat.le_of_ble_eq_true rfl⟩ (Nat.le_of_ble_eq_true rfl) (fun rv uu H locs hp hG => ?_)
    obtain ⟨rfl, rfl⟩ := hp
    replace hG : gW D cy b n s H locs (enc b cy X S_42) := hG
    refine lv_goto (tgt := 19) hx hb dX12_shared_14 (by decide) ?_
    cases hM
    exact hK_6 H locs ls hG (lv_sub hl [0, 1, 2, 3] rfl)
