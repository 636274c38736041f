theorem dX12_goes_0 : decode cX12_goes 0 = .ok (.aload_n 0, 1) := by decide +kernel
theorem dX12_goes_1 : decode cX12_goes 1 = .ok (.iconst 0, 1) := by decide +kernel
theorem dX12_goes_2 : decode cX12_goes 2 = .ok (.putfield 374, 3) := by decide +kernel
theorem dX12_goes_5 : decode cX12_goes 5 = .ok (.aload_n 0, 1) := by decide +kernel
theorem dX12_goes_6 : decode cX12_goes 6 = .ok (.iload 4, 2) := by decide +kernel
theorem dX12_goes_8 : decode cX12_goes 8 = .ok (.putfield 377, 3) := by decide +kernel
theorem dX12_goes_11 : decode cX12_goes 11 = .ok (.aload_n 0, 1) := by decide +kernel
theorem dX12_goes_12 : decode cX12_goes 12 = .ok (.iconst (-1), 1) := by decide +kernel
theorem dX12_goes_13 : decode cX12_goes 13 = .ok (.putfield 380, 3) := by decide +kernel
theorem dX12_goes_16 : decode cX12_goes 16 = .ok (.aload_n 0, 1) := by decide +kernel
theorem dX12_goes_17 : decode cX12_goes 17 = .ok (.iconst 0, 1) := by decide +kernel
theorem dX12_goes_18 : decode cX12_goes 18 = .ok (.putfield 383, 3) := by decide +kernel
theorem wm_1696 : (Jvm.Cond.fieldLink "GrownKindsModel" (383 : Nat) "GrownKindsModel" "deepMost" "I") ∈ gT := gT_in (List.mem_of_getElem? (i := 1696) (by decide +kernel)) (by decide +kernel)
theorem dX12_goes_21 : decode cX12_goes 21 = .ok (.aload_n 0, 1) := by decide +kernel
theorem dX12_goes_22 : decode cX12_goes 22 = .ok (.iload 5, 2) := by decide +kernel
theorem dX12_goes_24 : decode cX12_goes 24 = .ok (.putfield 386, 3) := by decide +kernel
theorem wm_1697 : (Jvm.Cond.fieldLink "GrownKindsModel" (386 : Nat) "GrownKindsModel" "letterAsked" "I") ∈ gT := gT_in (List.mem_of_getElem? (i := 1697) (by decide +kernel)) (by decide +kernel)
theorem dX12_goes_27 : decode cX12_goes 27 = .ok (.aload_n 0, 1) := by decide +kernel
theorem dX12_goes_28 : decode cX12_goes 28 = .ok (.iconst 0, 1) := by decide +kernel
theorem dX12_goes_29 : decode cX12_goes 29 = .ok (.putfield 389, 3) := by decide +kernel
theorem wm_1698 : (Jvm.Cond.fieldLink "GrownKindsModel" (389 : Nat) "GrownKindsModel" "letterMany" "I") ∈ gT := gT_in (List.mem_of_getElem? (i := 1698) (by decide +kernel)) (by decide +kernel)
theorem dX12_goes_32 : decode cX12_goes 32 = .ok (.aload_n 0, 1) := by decide +kernel
theorem dX12_goes_33 : decode cX12_goes 33 = .ok (.iconst 1, 1) := by decide +kernel
theorem dX12_goes_34 : decode cX12_goes 34 = .ok (.putfield 392, 3) := by decide +kernel
theorem wm_1699 : (Jvm.Cond.fieldLink "GrownKindsModel" (392 : Nat) "GrownKindsModel" "turns" "I") ∈ gT := gT_in (List.mem_of_getElem? (i := 1699) (by decide +kernel)) (by decide +kernel)
theorem dX12_goes_37 : decode cX12_goes 37 = .ok (.aload_n 0, 1) := by decide +kernel
theorem dX12_goes_38 : decode cX12_goes 38 = .ok (.iconst (-1), 1) := by decide +kernel
theorem dX12_goes_39 : decode cX12_goes 39 = .ok (.putfield 395, 3) := by decide +kernel
theorem wm_1700 : (Jvm.Cond.fieldLink "GrownKindsModel" (395 : Nat) "GrownKindsModel" "topTerm" "I") ∈ gT := gT_in (List.mem_of_getElem? (i := 1700) (by decide +kernel)) (by decide +kernel)
theorem dX12_goes_42 : decode cX12_goes 42 = .ok (.aload_n 0, 1) := by decide +kernel
theorem dX12_goes_43 : decode cX12_goes 43 = .ok (.iconst 0, 1) := by decide +kernel
theorem dX12_goes_44 : decode cX12_goes 44 = .ok (.putfield 398, 3) := by decide +kernel
theorem dX12_goes_47 : decode cX12_goes 47 = .ok (.aload_n 0, 1) := by decide +kernel
theorem dX12_goes_48 : decode cX12_goes 48 = .ok (.iload_n 1, 1) := by decide +kernel
theorem dX12_goes_49 : decode cX12_goes 49 = .ok (.iload_n 2, 1) := by decide +kernel
theorem dX12_goes_50 : decode cX12_goes 50 = .ok (.iload_n 3, 1) := by decide +kernel
theorem dX12_goes_51 : decode cX12_goes 51 = .ok (.i2l, 1) := by decide +kernel
theorem dX12_goes_52 : decode cX12_goes 52 = .ok (.iconst 0, 1) := by decide +kernel
theorem dX12_goes_53 : decode cX12_goes 53 = .ok (.invokevirtual 401, 3) := by decide +kernel
theorem wm_2187 : (Jvm.Cond.methodLink "GrownKindsModel" (401 : Nat) ({ cls := "GrownKindsModel", name := "goesExpr", desc := "(IIJI)V" } : Jvm.MethodName)) ∈ gT := gT_in (List.mem_of_getElem? (i := 2187) (by decide +kernel)) (by decide +kernel)
theorem wm_2189 : (Jvm.Cond.instanceMethod ({ cls := "GrownKindsModel", name := "goesExpr", desc := "(IIJI)V" } : Jvm.MethodName)) ∈ gT := gT_in (List.mem_of_getElem? (i := 2189) (by decide +kernel)) (by decide +kernel)
theorem wm_139 : Cond.selects "GrownKindsModel" ⟨"GrownKindsModel", "goesExpr", "(IIJI)V"⟩ ⟨"GrownKindsModel", "goesExpr", "(IIJI)V"⟩ ∈ gT := gT_in (List.mem_of_getElem? (i := 139) (by decide +kernel)) (by decide +kernel)
theorem wm_2190 : (Jvm.Cond.code ({ cls := "GrownKindsModel", name := "goesExpr", desc := "(IIJI)V" } : Jvm.MethodName) prog_14_method_88_code (15 : Nat) (Option.none : Option Jvm.ClassFile.FieldType)) ∈ gT := gT_in (List.mem_of_getElem? (i := 2190) (by decide +kernel)) (by decide +kernel)
theorem dX12_goesExpr_0 : decode cX12_goesExpr 0 = .ok (.iconst 0, 1) := by decide +kernel
theorem dX12_goesExpr_1 : decode cX12_goesExpr 1 = .ok (.istore 6, 2) := by decide +kernel
theorem dX12_goesExpr_3 : decode cX12_goesExpr 3 = .ok (.aload_n 0, 1) := by decide +kernel
theorem dX12_goesExpr_4 : decode cX12_goesExpr 4 = .ok (.getfield 15, 3) := by decide +kernel
theorem dX12_goesExpr_7 : decode cX12_goesExpr 7 = .ok (.sipush 168, 3) := by decide +kernel
theorem dX12_goesExpr_10 : decode cX12_goesExpr 10 = .ok (.iload_n 1, 1) := by decide +kernel
theorem dX12_goesExpr_11 : decode cX12_goesExpr 11 = .ok (.iadd, 1) := by decide +kernel
theorem dX12_goesExpr_12 : decode cX12_goesExpr 12 = .ok (.iaload, 1) := by decide +kernel
theorem dX12_goesExpr_13 : decode cX12_goesExpr 13 = .ok (.istore 7, 2) := by decide +kernel
theorem dX12_goesExpr_15 : decode cX12_goesExpr 15 = .ok (.lload_n 3, 1) := by decide +kernel
theorem dX12_goesExpr_16 : decode cX12_goesExpr 16 = .ok (.lstore 8, 2) := by decide +kernel
theorem dX12_goesExpr_18 : decode cX12_goesExpr 18 = .ok (.aload_n 0, 1) := by decide +kernel
theorem dX12_goesExpr_19 : decode cX12_goesExpr 19 = .ok (.iload_n 1, 1) := by decide +kernel
theorem dX12_goesExpr_20 : decode cX12_goesExpr 20 = .ok (.iload 6, 2) := by decide +kernel
theorem dX12_goesExpr_22 : decode cX12_goesExpr 22 = .ok (.invokevirtual 231, 3) := by decide +kernel
theorem dX12_goesExpr_25 : decode cX12_goesExpr 25 = .ok (.ifCond .ne 29, 3) := by decide +kernel
theorem dX12_goesExpr_28 : decode cX12_goesExpr 28 = .ok (.lload 8, 2) := by decide +kernel
theorem dX12_goesExpr_30 : decode cX12_goesExpr 30 = .ok (.aload_n 0, 1) := by decide +kernel
theorem dX12_goesExpr_31 : decode cX12_goesExpr 31 = .ok (.getfield 43, 3) := by decide +kernel
theorem dX12_goesExpr_34 : decode cX12_goesExpr 34 = .ok (.aload_n 0, 1) := by decide +kernel
theorem dX12_goesExpr_35 : decode cX12_goesExpr 35 = .ok (.getfield 15, 3) := by decide +kernel
theorem dX12_goesExpr_38 : decode cX12_goesExpr 38 = .ok (.bipush 120, 2) := by decide +kernel
theorem dX12_goesExpr_40 : decode cX12_goesExpr 40 = .ok (.iload 7, 2) := by decide +kernel
theorem dX12_goesExpr_42 : decode cX12_goesExpr 42 = .ok (.iadd, 1) := by decide +kernel
theorem dX12_goesExpr_43 : decode cX12_goesExpr 43 = .ok (.iaload, 1) := by decide +kernel
theorem dX12_goesExpr_44 : decode cX12_goesExpr 44 = .ok (.iload_n 2, 1) := by decide +kernel
theorem dX12_goesExpr_45 : decode cX12_goesExpr 45 = .ok (.iconst 0, 1) := by decide +kernel
theorem dX12_goesExpr_46 : decode cX12_goesExpr 46 = .ok (.invokestatic 276, 3) := by decide +kernel
theorem dX12_goesExpr_49 : decode cX12_goesExpr 49 = .ok (.laload, 1) := by decide +kernel
theorem dX12_goesExpr_50 : decode cX12_goesExpr 50 = .ok (.lcmp, 1) := by decide +kernel
theorem dX12_goesExpr_51 : decode cX12_goesExpr 51 = .ok (.ifCond .lt 61, 3) := by decide +kernel
theorem dX12_goesExpr_54 : decode cX12_goesExpr 54 = .ok (.lload 8, 2) := by decide +kernel
theorem dX12_goesExpr_56 : decode cX12_goesExpr 56 = .ok (.aload_n 0, 1) := by decide +kernel
theorem dX12_goesExpr_57 : decode cX12_goesExpr 57 = .ok (.iload_n 1, 1) := by decide +kernel
theorem dX12_goesExpr_58 : decode cX12_goesExpr 58 = .ok (.iload 6, 2) := by decide +kernel
theorem dX12_goesExpr_60 : decode cX12_goesExpr 60 = .ok (.invokevirtual 231, 3) := by decide +kernel
theorem dX12_goesExpr_63 : decode cX12_goesExpr 63 = .ok (.ifCond .eq 7, 3) := by decide +kernel
theorem dX12_goesExpr_70 : decode cX12_goesExpr 70 = .ok (.aload_n 0, 1) := by decide +kernel
theorem dX12_goesExpr_71 : decode cX12_goesExpr 71 = .ok (.getfield 43, 3) := by decide +kernel
theorem dX12_goesExpr_74 : decode cX12_goesExpr 74 = .ok (.aload_n 0, 1) := by decide +kernel
theorem dX12_goesExpr_75 : decode cX12_goesExpr 75 = .ok (.getfield 15, 3) := by decide +kernel
theorem dX12_goesExpr_78 : decode cX12_goesExpr 78 = .ok (.bipush 120, 2) := by decide +kernel
theorem dX12_goesExpr_80 : decode cX12_goesExpr 80 = .ok (.iload 7, 2) := by decide +kernel
theorem dX12_goesExpr_82 : decode cX12_goesExpr 82 = .ok (.iadd, 1) := by decide +kernel
theorem dX12_goesExpr_83 : decode cX12_goesExpr 83 = .ok (.iaload, 1) := by decide +kernel
theorem dX12_goesExpr_84 : decode cX12_goesExpr 84 = .ok (.iload_n 2, 1) := by decide +kernel
theorem dX12_goesExpr_85 : decode cX12_goesExpr 85 = .ok (.iconst 0, 1) := by decide +kernel
theorem dX12_goesExpr_86 : decode cX12_goesExpr 86 = .ok (.invokestatic 276, 3) := by decide +kernel
theorem dX12_goesExpr_89 : decode cX12_goesExpr 89 = .ok (.laload, 1) := by decide +kernel
theorem dX12_goesExpr_66 : decode cX12_goesExpr 66 = .ok (.lconst 0, 1) := by decide +kernel
theorem dX12_goesExpr_67 : decode cX12_goesExpr 67 = .ok (.goto 23, 3) := by decide +kernel
theorem dX12_goesExpr_90 : decode cX12_goesExpr 90 = .ok (.lsub, 1) := by decide +kernel
theorem dX12_goesExpr_91 : decode cX12_goesExpr 91 = .ok (.lstore 8, 2) := by decide +kernel
theorem dX12_goesExpr_93 : decode cX12_goesExpr 93 = .ok (.aload_n 0, 1) := by decide +kernel
theorem dX12_goesExpr_94 : decode cX12_goesExpr 94 = .ok (.getfield 15, 3) := by decide +kernel
theorem dX12_goesExpr_97 : decode cX12_goesExpr 97 = .ok (.sipush 144, 3) := by decide +kernel
theorem dX12_goesExpr_100 : decode cX12_goesExpr 100 = .ok (.iload 7, 2) := by decide +kernel
theorem dX12_goesExpr_102 : decode cX12_goesExpr 102 = .ok (.iadd, 1) := by decide +kernel
theorem dX12_goesExpr_103 : decode cX12_goesExpr 103 = .ok (.iaload, 1) := by decide +kernel
theorem dX12_goesExpr_104 : decode cX12_goesExpr 104 = .ok (.istore 7, 2) := by decide +kernel
theorem dX12_goesExpr_106 : decode cX12_goesExpr 106 = .ok (.iinc 6 1, 3) := by decide +kernel
theorem dX12_goesExpr_109 : decode cX12_goesExpr 109 = .ok (.goto (-91), 3) := by decide +kernel
theorem dX12_goesExpr_112 : decode cX12_goesExpr 112 = .ok (.aload_n 0, 1) := by decide +kernel
theorem dX12_goesExpr_113 : decode cX12_goesExpr 113 = .ok (.aload_n 0, 1) := by decide +kernel
theorem dX12_goesExpr_114 : decode cX12_goesExpr 114 = .ok (.getfield 395, 3) := by decide +kernel
theorem dX12_goesExpr_117 : decode cX12_goesExpr 117 = .ok (.ifCond .ge 8, 3) := by decide +kernel
theorem dX12_goesExpr_125 : decode cX12_goesExpr 125 = .ok (.aload_n 0, 1) := by decide +kernel
theorem dX12_goesExpr_126 : decode cX12_goesExpr 126 = .ok (.getfield 395, 3) := by decide +kernel
theorem dX12_goesExpr_120 : decode cX12_goesExpr 120 = .ok (.iload 6, 2) := by decide +kernel
theorem dX12_goesExpr_122 : decode cX12_goesExpr 122 = .ok (.goto 7, 3) := by decide +kernel
theorem dX12_goesExpr_129 : decode cX12_goesExpr 129 = .ok (.putfield 395, 3) := by decide +kernel
theorem dX12_goesExpr_132 : decode cX12_goesExpr 132 = .ok (.aload_n 0, 1) := by decide +kernel
theorem dX12_goesExpr_133 : decode cX12_goesExpr 133 = .ok (.getfield 15, 3) := by decide +kernel
theorem dX12_goesExpr_136 : decode cX12_goesExpr 136 = .ok (.sipush 198, 3) := by decide +kernel
theorem dX12_goesExpr_139 : decode cX12_goesExpr 139 = .ok (.iload_n 1, 1) := by decide +kernel
theorem dX12_goesExpr_140 : decode cX12_goesExpr 140 = .ok (.iadd, 1) := by decide +kernel
theorem dX12_goesExpr_141 : decode cX12_goesExpr 141 = .ok (.iaload, 1) := by decide +kernel
theorem dX12_goesExpr_142 : decode cX12_goesExpr 142 = .ok (.iconst 1, 1) := by decide +kernel
theorem dX12_goesExpr_143 : decode cX12_goesExpr 143 = .ok (.if_icmp .le 12, 3) := by decide +kernel
theorem dX12_goesExpr_146 : decode cX12_goesExpr 146 = .ok (.aload_n 0, 1) := by decide +kernel
theorem dX12_goesExpr_147 : decode cX12_goesExpr 147 = .ok (.bipush 48, 2) := by decide +kernel
theorem dX12_goesExpr_149 : decode cX12_goesExpr 149 = .ok (.iload 6, 2) := by decide +kernel
theorem dX12_goesExpr_151 : decode cX12_goesExpr 151 = .ok (.iadd, 1) := by decide +kernel
theorem dX12_goesExpr_152 : decode cX12_goesExpr 152 = .ok (.invokevirtual 405, 3) := by decide +kernel
theorem wm_2191 : (Jvm.Cond.methodLink "GrownKindsModel" (405 : Nat) ({ cls := "GrownKindsModel", name := "signs", desc := "(I)V" } : Jvm.MethodName)) ∈ gT := gT_in (List.mem_of_getElem? (i := 2191) (by decide +kernel)) (by decide +kernel)
theorem wm_2193 : (Jvm.Cond.instanceMethod ({ cls := "GrownKindsModel", name := "signs", desc := "(I)V" } : Jvm.MethodName)) ∈ gT := gT_in (List.mem_of_getElem? (i := 2193) (by decide +kernel)) (by decide +kernel)
theorem wm_140 : Cond.selects "GrownKindsModel" ⟨"GrownKindsModel", "signs", "(I)V"⟩ ⟨"GrownKindsModel", "signs", "(I)V"⟩ ∈ gT := gT_in (List.mem_of_getElem? (i := 140) (by decide +kernel)) (by decide +kernel)
theorem wm_2194 : (Jvm.Cond.code ({ cls := "GrownKindsModel", name := "signs", desc := "(I)V" } : Jvm.MethodName) prog_14_method_86_code (2 : Nat) (Option.none : Option Jvm.ClassFile.FieldType)) ∈ gT := gT_in (List.mem_of_getElem? (i := 2194) (by decide +kernel)) (by decide +kernel)
theorem dX12_goesExpr_155 : decode cX12_goesExpr 155 = .ok (.iload_n 2, 1) := by decide +kernel
theorem dX12_goesExpr_156 : decode cX12_goesExpr 156 = .ok (.istore 10, 2) := by decide +kernel
theorem dX12_goesExpr_158 : decode cX12_goesExpr 158 = .ok (.aload_n 0, 1) := by decide +kernel
theorem dX12_goesExpr_159 : decode cX12_goesExpr 159 = .ok (.getfield 15, 3) := by decide +kernel
theorem dX12_goesExpr_162 : decode cX12_goesExpr 162 = .ok (.bipush 120, 2) := by decide +kernel
theorem dX12_goesExpr_164 : decode cX12_goesExpr 164 = .ok (.iload 7, 2) := by decide +kernel
theorem dX12_goesExpr_166 : decode cX12_goesExpr 166 = .ok (.iadd, 1) := by decide +kernel
theorem dX12_goesExpr_167 : decode cX12_goesExpr 167 = .ok (.iaload, 1) := by decide +kernel
theorem dX12_goesExpr_168 : decode cX12_goesExpr 168 = .ok (.istore 11, 2) := by decide +kernel
theorem dX12_goesExpr_170 : decode cX12_goesExpr 170 = .ok (.iload 11, 2) := by decide +kernel
theorem dX12_goesExpr_172 : decode cX12_goesExpr 172 = .ok (.ifCond .lt 100, 3) := by decide +kernel
theorem dX12_goesExpr_175 : decode cX12_goesExpr 175 = .ok (.iconst 0, 1) := by decide +kernel
theorem dX12_goesExpr_176 : decode cX12_goesExpr 176 = .ok (.istore 12, 2) := by decide +kernel
theorem dX12_goesExpr_178 : decode cX12_goesExpr 178 = .ok (.lload 8, 2) := by decide +kernel
theorem dX12_goesExpr_180 : decode cX12_goesExpr 180 = .ok (.aload_n 0, 1) := by decide +kernel
theorem dX12_goesExpr_181 : decode cX12_goesExpr 181 = .ok (.iload 11, 2) := by decide +kernel
theorem dX12_goesExpr_183 : decode cX12_goesExpr 183 = .ok (.iload 12, 2) := by decide +kernel
theorem dX12_goesExpr_185 : decode cX12_goesExpr 185 = .ok (.iload 10, 2) := by decide +kernel
theorem dX12_goesExpr_187 : decode cX12_goesExpr 187 = .ok (.invokevirtual 408, 3) := by decide +kernel
theorem wm_2195 : (Jvm.Cond.methodLink "GrownKindsModel" (408 : Nat) ({ cls := "GrownKindsModel", name := "pairs", desc := "(III)J" } : Jvm.MethodName)) ∈ gT := gT_in (List.mem_of_getElem? (i := 2195) (by decide +kernel)) (by decide +kernel)
theorem wm_2197 : (Jvm.Cond.instanceMethod ({ cls := "GrownKindsModel", name := "pairs", desc := "(III)J" } : Jvm.MethodName)) ∈ gT := gT_in (List.mem_of_getElem? (i := 2197) (by decide +kernel)) (by decide +kernel)
theorem wm_141 : Cond.selects "GrownKindsModel" ⟨"GrownKindsModel", "pairs", "(III)J"⟩ ⟨"GrownKindsModel", "pairs", "(III)J"⟩ ∈ gT := gT_in (List.mem_of_getElem? (i := 141) (by decide +kernel)) (by decide +kernel)
theorem wm_2198 : (Jvm.Cond.code ({ cls := "GrownKindsModel", name := "pairs", desc := "(III)J" } : Jvm.MethodName) prog_14_method_90_code (4 : Nat) (Option.some Jvm.ClassFile.FieldType.long)) ∈ gT := gT_in (List.mem_of_getElem? (i := 2198) (by decide +kernel)) (by decide +kernel)
theorem dX12_goesExpr_190 : decode cX12_goesExpr 190 = .ok (.lcmp, 1) := by decide +kernel
theorem dX12_goesExpr_191 : decode cX12_goesExpr 191 = .ok (.ifCond .lt 24, 3) := by decide +kernel
theorem dX12_goesExpr_194 : decode cX12_goesExpr 194 = .ok (.lload 8, 2) := by decide +kernel
theorem dX12_goesExpr_196 : decode cX12_goesExpr 196 = .ok (.aload_n 0, 1) := by decide +kernel
theorem dX12_goesExpr_197 : decode cX12_goesExpr 197 = .ok (.iload 11, 2) := by decide +kernel
theorem dX12_goesExpr_199 : decode cX12_goesExpr 199 = .ok (.iload 12, 2) := by decide +kernel
theorem dX12_goesExpr_201 : decode cX12_goesExpr 201 = .ok (.iload 10, 2) := by decide +kernel
theorem dX12_goesExpr_203 : decode cX12_goesExpr 203 = .ok (.invokevirtual 408, 3) := by decide +kernel
theorem dX12_goesExpr_206 : decode cX12_goesExpr 206 = .ok (.lsub, 1) := by decide +kernel
theorem dX12_goesExpr_207 : decode cX12_goesExpr 207 = .ok (.lstore 8, 2) := by decide +kernel
theorem dX12_goesExpr_209 : decode cX12_goesExpr 209 = .ok (.iinc 12 1, 3) := by decide +kernel
theorem dX12_goesExpr_212 : decode cX12_goesExpr 212 = .ok (.goto (-34), 3) := by decide +kernel
theorem dX12_goesExpr_215 : decode cX12_goesExpr 215 = .ok (.aload_n 0, 1) := by decide +kernel
theorem dX12_goesExpr_216 : decode cX12_goesExpr 216 = .ok (.iload 11, 2) := by decide +kernel
theorem dX12_goesExpr_218 : decode cX12_goesExpr 218 = .ok (.iload 10, 2) := by decide +kernel
theorem dX12_goesExpr_220 : decode cX12_goesExpr 220 = .ok (.iload 12, 2) := by decide +kernel
theorem dX12_goesExpr_222 : decode cX12_goesExpr 222 = .ok (.isub, 1) := by decide +kernel
theorem dX12_goesExpr_223 : decode cX12_goesExpr 223 = .ok (.invokevirtual 411, 3) := by decide +kernel
theorem dX12_goesExpr_226 : decode cX12_goesExpr 226 = .ok (.lstore 13, 2) := by decide +kernel
theorem dX12_goesExpr_228 : decode cX12_goesExpr 228 = .ok (.aload_n 0, 1) := by decide +kernel
theorem dX12_goesExpr_229 : decode cX12_goesExpr 229 = .ok (.iload 11, 2) := by decide +kernel
theorem dX12_goesExpr_231 : decode cX12_goesExpr 231 = .ok (.iload 12, 2) := by decide +kernel
theorem dX12_goesExpr_233 : decode cX12_goesExpr 233 = .ok (.lload 8, 2) := by decide +kernel
theorem dX12_goesExpr_235 : decode cX12_goesExpr 235 = .ok (.lload 13, 2) := by decide +kernel
theorem dX12_goesExpr_237 : decode cX12_goesExpr 237 = .ok (.ldiv, 1) := by decide +kernel
theorem dX12_goesExpr_238 : decode cX12_goesExpr 238 = .ok (.iload 5, 2) := by decide +kernel
theorem dX12_goesExpr_240 : decode cX12_goesExpr 240 = .ok (.invokevirtual 414, 3) := by decide +kernel
theorem wm_2203 : (Jvm.Cond.methodLink "GrownKindsModel" (414 : Nat) ({ cls := "GrownKindsModel", name := "goesPart", desc := "(IIJI)V" } : Jvm.MethodName)) ∈ gT := gT_in (List.mem_of_getElem? (i := 2203) (by decide +kernel)) (by decide +kernel)
theorem wm_2205 : (Jvm.Cond.instanceMethod ({ cls := "GrownKindsModel", name := "goesPart", desc := "(IIJI)V" } : Jvm.MethodName)) ∈ gT := gT_in (List.mem_of_getElem? (i := 2205) (by decide +kernel)) (by decide +kernel)
theorem wm_143 : Cond.selects "GrownKindsModel" ⟨"GrownKindsModel", "goesPart", "(IIJI)V"⟩ ⟨"GrownKindsModel", "goesPart", "(IIJI)V"⟩ ∈ gT := gT_in (List.mem_of_getElem? (i := 143) (by decide +kernel)) (by decide +kernel)
theorem wm_2206 : (Jvm.Cond.code ({ cls := "GrownKindsModel", name := "goesPart", desc := "(IIJI)V" } : Jvm.MethodName) prog_14_method_91_code (6 : Nat) (Option.none : Option Jvm.ClassFile.FieldType)) ∈ gT := gT_in (List.mem_of_getElem? (i := 2206) (by decide +kernel)) (by decide +kernel)
theorem dX12_goesExpr_243 : decode cX12_goesExpr 243 = .ok (.lload 8, 2) := by decide +kernel
theorem dX12_goesExpr_245 : decode cX12_goesExpr 245 = .ok (.lload 13, 2) := by decide +kernel
theorem dX12_goesExpr_247 : decode cX12_goesExpr 247 = .ok (.lrem, 1) := by decide +kernel
theorem dX12_goesExpr_248 : decode cX12_goesExpr 248 = .ok (.lstore 8, 2) := by decide +kernel
theorem dX12_goesExpr_250 : decode cX12_goesExpr 250 = .ok (.iload 10, 2) := by decide +kernel
theorem dX12_goesExpr_252 : decode cX12_goesExpr 252 = .ok (.iload 12, 2) := by decide +kernel
theorem dX12_goesExpr_254 : decode cX12_goesExpr 254 = .ok (.isub, 1) := by decide +kernel
theorem dX12_goesExpr_255 : decode cX12_goesExpr 255 = .ok (.istore 10, 2) := by decide +kernel
theorem dX12_goesExpr_257 : decode cX12_goesExpr 257 = .ok (.aload_n 0, 1) := by decide +kernel
theorem dX12_goesExpr_258 : decode cX12_goesExpr 258 = .ok (.getfield 15, 3) := by decide +kernel
theorem dX12_goesExpr_261 : decode cX12_goesExpr 261 = .ok (.bipush 96, 2) := by decide +kernel
theorem dX12_goesExpr_263 : decode cX12_goesExpr 263 = .ok (.iload 11, 2) := by decide +kernel
theorem dX12_goesExpr_265 : decode cX12_goesExpr 265 = .ok (.iadd, 1) := by decide +kernel
theorem dX12_goesExpr_266 : decode cX12_goesExpr 266 = .ok (.iaload, 1) := by decide +kernel
theorem dX12_goesExpr_267 : decode cX12_goesExpr 267 = .ok (.istore 11, 2) := by decide +kernel
theorem dX12_goesExpr_269 : decode cX12_goesExpr 269 = .ok (.goto (-99), 3) := by decide +kernel
theorem dX12_goesExpr_272 : decode cX12_goesExpr 272 = .ok (.return_, 1) := by decide +kernel
theorem dX12_goesIn_0 : decode cX12_goesIn 0 = .ok (.aload_n 0, 1) := by decide +kernel
theorem dX12_goesIn_1 : decode cX12_goesIn 1 = .ok (.getfield 15, 3) := by decide +kernel
theorem dX12_goesIn_4 : decode cX12_goesIn 4 = .ok (.bipush 24, 2) := by decide +kernel
theorem dX12_goesIn_6 : decode cX12_goesIn 6 = .ok (.iload_n 1, 1) := by decide +kernel
theorem dX12_goesIn_7 : decode cX12_goesIn 7 = .ok (.iadd, 1) := by decide +kernel
theorem dX12_goesIn_8 : decode cX12_goesIn 8 = .ok (.iaload, 1) := by decide +kernel
theorem dX12_goesIn_9 : decode cX12_goesIn 9 = .ok (.istore 6, 2) := by decide +kernel
theorem dX12_goesIn_11 : decode cX12_goesIn 11 = .ok (.aload_n 0, 1) := by decide +kernel
theorem dX12_goesIn_12 : decode cX12_goesIn 12 = .ok (.getfield 15, 3) := by decide +kernel
theorem dX12_goesIn_15 : decode cX12_goesIn 15 = .ok (.bipush 72, 2) := by decide +kernel
theorem dX12_goesIn_17 : decode cX12_goesIn 17 = .ok (.iload_n 1, 1) := by decide +kernel
theorem dX12_goesIn_18 : decode cX12_goesIn 18 = .ok (.iadd, 1) := by decide +kernel
theorem dX12_goesIn_19 : decode cX12_goesIn 19 = .ok (.iaload, 1) := by decide +kernel
theorem dX12_goesIn_20 : decode cX12_goesIn 20 = .ok (.istore 7, 2) := by decide +kernel
theorem dX12_goesIn_22 : decode cX12_goesIn 22 = .ok (.aload_n 0, 1) := by decide +kernel
theorem dX12_goesIn_23 : decode cX12_goesIn 23 = .ok (.getfield 398, 3) := by decide +kernel
theorem dX12_goesIn_26 : decode cX12_goesIn 26 = .ok (.istore 8, 2) := by decide +kernel
theorem dX12_goesIn_28 : decode cX12_goesIn 28 = .ok (.aload_n 0, 1) := by decide +kernel
theorem dX12_goesIn_29 : decode cX12_goesIn 29 = .ok (.lload_n 3, 1) := by decide +kernel
theorem dX12_goesIn_30 : decode cX12_goesIn 30 = .ok (.putfield 420, 3) := by decide +kernel
theorem dX12_goesIn_33 : decode cX12_goesIn 33 = .ok (.aload_n 0, 1) := by decide +kernel
theorem dX12_goesIn_34 : decode cX12_goesIn 34 = .ok (.getfield 15, 3) := by decide +kernel
theorem dX12_goesIn_37 : decode cX12_goesIn 37 = .ok (.bipush 48, 2) := by decide +kernel
theorem dX12_goesIn_39 : decode cX12_goesIn 39 = .ok (.iload_n 1, 1) := by decide +kernel
theorem dX12_goesIn_40 : decode cX12_goesIn 40 = .ok (.iadd, 1) := by decide +kernel
theorem dX12_goesIn_41 : decode cX12_goesIn 41 = .ok (.iaload, 1) := by decide +kernel
theorem dX12_goesIn_42 : decode cX12_goesIn 42 = .ok (.ifCond .ne 7, 3) := by decide +kernel
theorem dX12_goesIn_49 : decode cX12_goesIn 49 = .ok (.aload_n 0, 1) := by decide +kernel
theorem dX12_goesIn_50 : decode cX12_goesIn 50 = .ok (.getfield 15, 3) := by decide +kernel
theorem dX12_goesIn_53 : decode cX12_goesIn 53 = .ok (.bipush 48, 2) := by decide +kernel
theorem dX12_goesIn_55 : decode cX12_goesIn 55 = .ok (.iload_n 1, 1) := by decide +kernel
theorem dX12_goesIn_56 : decode cX12_goesIn 56 = .ok (.iadd, 1) := by decide +kernel
theorem dX12_goesIn_57 : decode cX12_goesIn 57 = .ok (.iaload, 1) := by decide +kernel
theorem dX12_goesIn_45 : decode cX12_goesIn 45 = .ok (.iconst (-1), 1) := by decide +kernel
theorem dX12_goesIn_46 : decode cX12_goesIn 46 = .ok (.goto 12, 3) := by decide +kernel
theorem dX12_goesIn_58 : decode cX12_goesIn 58 = .ok (.istore 9, 2) := by decide +kernel
theorem dX12_goesIn_60 : decode cX12_goesIn 60 = .ok (.iload 6, 2) := by decide +kernel
theorem dX12_goesIn_62 : decode cX12_goesIn 62 = .ok (.iconst 3, 1) := by decide +kernel
theorem dX12_goesIn_63 : decode cX12_goesIn 63 = .ok (.if_icmp .ne 15, 3) := by decide +kernel
theorem dX12_goesIn_78 : decode cX12_goesIn 78 = .ok (.iload 6, 2) := by decide +kernel
theorem dX12_goesIn_80 : decode cX12_goesIn 80 = .ok (.bipush 6, 2) := by decide +kernel
theorem dX12_goesIn_82 : decode cX12_goesIn 82 = .ok (.if_icmp .ne 18, 3) := by decide +kernel
theorem dX12_goesIn_100 : decode cX12_goesIn 100 = .ok (.aload_n 0, 1) := by decide +kernel
theorem dX12_goesIn_101 : decode cX12_goesIn 101 = .ok (.iload 7, 2) := by decide +kernel
theorem dX12_goesIn_103 : decode cX12_goesIn 103 = .ok (.iload_n 2, 1) := by decide +kernel
theorem dX12_goesIn_104 : decode cX12_goesIn 104 = .ok (.iload 9, 2) := by decide +kernel
theorem dX12_goesIn_106 : decode cX12_goesIn 106 = .ok (.iload 6, 2) := by decide +kernel
theorem dX12_goesIn_108 : decode cX12_goesIn 108 = .ok (.iconst 5, 1) := by decide +kernel
theorem dX12_goesIn_109 : decode cX12_goesIn 109 = .ok (.if_icmp .ne 7, 3) := by decide +kernel
theorem dX12_goesIn_116 : decode cX12_goesIn 116 = .ok (.iconst 0, 1) := by decide +kernel
theorem dX12_goesIn_117 : decode cX12_goesIn 117 = .ok (.invokevirtual 431, 3) := by decide +kernel
theorem wm_2242 : (Jvm.Cond.methodLink "GrownKindsModel" (431 : Nat) ({ cls := "GrownKindsModel", name := "findsBag", desc := "(IIIZ)V" } : Jvm.MethodName)) ∈ gT := gT_in (List.mem_of_getElem? (i := 2242) (by decide +kernel)) (by decide +kernel)
theorem wm_2244 : (Jvm.Cond.instanceMethod ({ cls := "GrownKindsModel", name := "findsBag", desc := "(IIIZ)V" } : Jvm.MethodName)) ∈ gT := gT_in (List.mem_of_getElem? (i := 2244) (by decide +kernel)) (by decide +kernel)
theorem wm_152 : Cond.selects "GrownKindsModel" ⟨"GrownKindsModel", "findsBag", "(IIIZ)V"⟩ ⟨"GrownKindsModel", "findsBag", "(IIIZ)V"⟩ ∈ gT := gT_in (List.mem_of_getElem? (i := 152) (by decide +kernel)) (by decide +kernel)
theorem wm_2245 : (Jvm.Cond.code ({ cls := "GrownKindsModel", name := "findsBag", desc := "(IIIZ)V" } : Jvm.MethodName) prog_14_method_101_code (18 : Nat) (Option.none : Option Jvm.ClassFile.FieldType)) ∈ gT := gT_in (List.mem_of_getElem? (i := 2245) (by decide +kernel)) (by decide +kernel)
theorem dX12_goesIn_112 : decode cX12_goesIn 112 = .ok (.iconst 1, 1) := by decide +kernel
theorem dX12_goesIn_113 : decode cX12_goesIn 113 = .ok (.goto 4, 3) := by decide +kernel
theorem dX12_goesIn_85 : decode cX12_goesIn 85 = .ok (.aload_n 0, 1) := by decide +kernel
theorem dX12_goesIn_86 : decode cX12_goesIn 86 = .ok (.iload 7, 2) := by decide +kernel
theorem dX12_goesIn_88 : decode cX12_goesIn 88 = .ok (.iload 8, 2) := by decide +kernel
theorem dX12_goesIn_90 : decode cX12_goesIn 90 = .ok (.iload_n 2, 1) := by decide +kernel
theorem dX12_goesIn_91 : decode cX12_goesIn 91 = .ok (.iload 9, 2) := by decide +kernel
theorem dX12_goesIn_93 : decode cX12_goesIn 93 = .ok (.invokevirtual 427, 3) := by decide +kernel
theorem dX12_goesIn_96 : decode cX12_goesIn 96 = .ok (.pop, 1) := by decide +kernel
theorem dX12_goesIn_97 : decode cX12_goesIn 97 = .ok (.goto 23, 3) := by decide +kernel
theorem dX12_goesIn_66 : decode cX12_goesIn 66 = .ok (.aload_n 0, 1) := by decide +kernel
theorem dX12_goesIn_67 : decode cX12_goesIn 67 = .ok (.iload 7, 2) := by decide +kernel
theorem dX12_goesIn_69 : decode cX12_goesIn 69 = .ok (.iload_n 2, 1) := by decide +kernel
theorem dX12_goesIn_70 : decode cX12_goesIn 70 = .ok (.iload 9, 2) := by decide +kernel
theorem dX12_goesIn_72 : decode cX12_goesIn 72 = .ok (.invokevirtual 424, 3) := by decide +kernel
theorem wm_2211 : (Jvm.Cond.methodLink "GrownKindsModel" (424 : Nat) ({ cls := "GrownKindsModel", name := "findsRow", desc := "(III)V" } : Jvm.MethodName)) ∈ gT := gT_in (List.mem_of_getElem? (i := 2211) (by decide +kernel)) (by decide +kernel)
theorem wm_2213 : (Jvm.Cond.instanceMethod ({ cls := "GrownKindsModel", name := "findsRow", desc := "(III)V" } : Jvm.MethodName)) ∈ gT := gT_in (List.mem_of_getElem? (i := 2213) (by decide +kernel)) (by decide +kernel)
theorem wm_145 : Cond.selects "GrownKindsModel" ⟨"GrownKindsModel", "findsRow", "(III)V"⟩ ⟨"GrownKindsModel", "findsRow", "(III)V"⟩ ∈ gT := gT_in (List.mem_of_getElem? (i := 145) (by decide +kernel)) (by decide +kernel)
theorem wm_2214 : (Jvm.Cond.code ({ cls := "GrownKindsModel", name := "findsRow", desc := "(III)V" } : Jvm.MethodName) prog_14_method_99_code (11 : Nat) (Option.none : Option Jvm.ClassFile.FieldType)) ∈ gT := gT_in (List.mem_of_getElem? (i := 2214) (by decide +kernel)) (by decide +kernel)
theorem dX12_goesIn_75 : decode cX12_goesIn 75 = .ok (.goto 45, 3) := by decide +kernel
theorem dX12_goesIn_120 : decode cX12_goesIn 120 = .ok (.aload_n 0, 1) := by decide +kernel
theorem dX12_goesIn_121 : decode cX12_goesIn 121 = .ok (.getfield 398, 3) := by decide +kernel
theorem dX12_goesIn_124 : decode cX12_goesIn 124 = .ok (.istore 10, 2) := by decide +kernel
theorem dX12_goesIn_126 : decode cX12_goesIn 126 = .ok (.aload_n 0, 1) := by decide +kernel
theorem dX12_goesIn_127 : decode cX12_goesIn 127 = .ok (.dup, 1) := by decide +kernel
theorem dX12_goesIn_128 : decode cX12_goesIn 128 = .ok (.getfield 392, 3) := by decide +kernel
theorem dX12_goesIn_131 : decode cX12_goesIn 131 = .ok (.iload 6, 2) := by decide +kernel
theorem dX12_goesIn_133 : decode cX12_goesIn 133 = .ok (.iconst 4, 1) := by decide +kernel
theorem dX12_goesIn_134 : decode cX12_goesIn 134 = .ok (.if_icmp .ne 14, 3) := by decide +kernel
theorem dX12_goesIn_148 : decode cX12_goesIn 148 = .ok (.iload 6, 2) := by decide +kernel
theorem dX12_goesIn_150 : decode cX12_goesIn 150 = .ok (.bipush 6, 2) := by decide +kernel
theorem dX12_goesIn_152 : decode cX12_goesIn 152 = .ok (.if_icmp .ne 14, 3) := by decide +kernel
theorem dX12_goesIn_166 : decode cX12_goesIn 166 = .ok (.iconst 1, 1) := by decide +kernel
theorem dX12_goesIn_155 : decode cX12_goesIn 155 = .ok (.aload_n 0, 1) := by decide +kernel
theorem dX12_goesIn_156 : decode cX12_goesIn 156 = .ok (.iload 8, 2) := by decide +kernel
theorem dX12_goesIn_158 : decode cX12_goesIn 158 = .ok (.iload 10, 2) := by decide +kernel
theorem dX12_goesIn_160 : decode cX12_goesIn 160 = .ok (.invokevirtual 437, 3) := by decide +kernel
theorem wm_2254 : (Jvm.Cond.methodLink "GrownKindsModel" (437 : Nat) ({ cls := "GrownKindsModel", name := "turnsIn", desc := "(II)I" } : Jvm.MethodName)) ∈ gT := gT_in (List.mem_of_getElem? (i := 2254) (by decide +kernel)) (by decide +kernel)
theorem wm_2256 : (Jvm.Cond.instanceMethod ({ cls := "GrownKindsModel", name := "turnsIn", desc := "(II)I" } : Jvm.MethodName)) ∈ gT := gT_in (List.mem_of_getElem? (i := 2256) (by decide +kernel)) (by decide +kernel)
theorem wm_155 : Cond.selects "GrownKindsModel" ⟨"GrownKindsModel", "turnsIn", "(II)I"⟩ ⟨"GrownKindsModel", "turnsIn", "(II)I"⟩ ∈ gT := gT_in (List.mem_of_getElem? (i := 155) (by decide +kernel)) (by decide +kernel)
theorem wm_2257 : (Jvm.Cond.code ({ cls := "GrownKindsModel", name := "turnsIn", desc := "(II)I" } : Jvm.MethodName) prog_14_method_96_code (8 : Nat) (Option.some Jvm.ClassFile.FieldType.int)) ∈ gT := gT_in (List.mem_of_getElem? (i := 2257) (by decide +kernel)) (by decide +kernel)
theorem dX12_goesIn_163 : decode cX12_goesIn 163 = .ok (.goto 4, 3) := by decide +kernel
theorem dX12_goesIn_137 : decode cX12_goesIn 137 = .ok (.aload_n 0, 1) := by decide +kernel
theorem dX12_goesIn_138 : decode cX12_goesIn 138 = .ok (.iload 8, 2) := by decide +kernel
theorem dX12_goesIn_140 : decode cX12_goesIn 140 = .ok (.iload 10, 2) := by decide +kernel
theorem dX12_goesIn_142 : decode cX12_goesIn 142 = .ok (.invokevirtual 434, 3) := by decide +kernel
theorem wm_2250 : (Jvm.Cond.methodLink "GrownKindsModel" (434 : Nat) ({ cls := "GrownKindsModel", name := "changes", desc := "(II)I" } : Jvm.MethodName)) ∈ gT := gT_in (List.mem_of_getElem? (i := 2250) (by decide +kernel)) (by decide +kernel)
theorem wm_2252 : (Jvm.Cond.instanceMethod ({ cls := "GrownKindsModel", name := "changes", desc := "(II)I" } : Jvm.MethodName)) ∈ gT := gT_in (List.mem_of_getElem? (i := 2252) (by decide +kernel)) (by decide +kernel)
theorem wm_154 : Cond.selects "GrownKindsModel" ⟨"GrownKindsModel", "changes", "(II)I"⟩ ⟨"GrownKindsModel", "changes", "(II)I"⟩ ∈ gT := gT_in (List.mem_of_getElem? (i := 154) (by decide +kernel)) (by decide +kernel)
theorem wm_2253 : (Jvm.Cond.code ({ cls := "GrownKindsModel", name := "changes", desc := "(II)I" } : Jvm.MethodName) prog_14_method_95_code (6 : Nat) (Option.some Jvm.ClassFile.FieldType.int)) ∈ gT := gT_in (List.mem_of_getElem? (i := 2253) (by decide +kernel)) (by decide +kernel)
theorem dX12_goesIn_145 : decode cX12_goesIn 145 = .ok (.goto 22, 3) := by decide +kernel
theorem dX12_goesIn_167 : decode cX12_goesIn 167 = .ok (.imul, 1) := by decide +kernel
theorem dX12_goesIn_168 : decode cX12_goesIn 168 = .ok (.putfield 392, 3) := by decide +kernel
theorem dX12_goesIn_171 : decode cX12_goesIn 171 = .ok (.aload_n 0, 1) := by decide +kernel
theorem dX12_goesIn_172 : decode cX12_goesIn 172 = .ok (.aload_n 0, 1) := by decide +kernel
theorem dX12_goesIn_173 : decode cX12_goesIn 173 = .ok (.getfield 383, 3) := by decide +kernel
theorem dX12_goesIn_176 : decode cX12_goesIn 176 = .ok (.iload 5, 2) := by decide +kernel
theorem dX12_goesIn_178 : decode cX12_goesIn 178 = .ok (.invokestatic 440, 3) := by decide +kernel
theorem dX12_goesIn_181 : decode cX12_goesIn 181 = .ok (.putfield 383, 3) := by decide +kernel
theorem dX12_goesIn_184 : decode cX12_goesIn 184 = .ok (.aload_n 0, 1) := by decide +kernel
theorem dX12_goesIn_185 : decode cX12_goesIn 185 = .ok (.ldc_w 443, 3) := by decide +kernel
theorem dX12_goesIn_188 : decode cX12_goesIn 188 = .ok (.iload 6, 2) := by decide +kernel
theorem dX12_goesIn_190 : decode cX12_goesIn 190 = .ok (.iconst 3, 1) := by decide +kernel
theorem dX12_goesIn_191 : decode cX12_goesIn 191 = .ok (.isub, 1) := by decide +kernel
theorem dX12_goesIn_192 : decode cX12_goesIn 192 = .ok (.invokevirtual 157, 3) := by decide +kernel
theorem dX12_goesIn_195 : decode cX12_goesIn 195 = .ok (.invokevirtual 405, 3) := by decide +kernel
theorem dX12_goesIn_198 : decode cX12_goesIn 198 = .ok (.iload 8, 2) := by decide +kernel
theorem dX12_goesIn_200 : decode cX12_goesIn 200 = .ok (.istore 11, 2) := by decide +kernel
theorem dX12_goesIn_202 : decode cX12_goesIn 202 = .ok (.iload 11, 2) := by decide +kernel
theorem dX12_goesIn_204 : decode cX12_goesIn 204 = .ok (.iload 10, 2) := by decide +kernel
theorem dX12_goesIn_206 : decode cX12_goesIn 206 = .ok (.if_icmp .ge 32, 3) := by decide +kernel
theorem dX12_goesIn_209 : decode cX12_goesIn 209 = .ok (.aload_n 0, 1) := by decide +kernel
theorem dX12_goesIn_210 : decode cX12_goesIn 210 = .ok (.iload 7, 2) := by decide +kernel
theorem dX12_goesIn_212 : decode cX12_goesIn 212 = .ok (.aload_n 0, 1) := by decide +kernel
theorem dX12_goesIn_213 : decode cX12_goesIn 213 = .ok (.getfield 61, 3) := by decide +kernel
theorem dX12_goesIn_216 : decode cX12_goesIn 216 = .ok (.iload 11, 2) := by decide +kernel
theorem dX12_goesIn_218 : decode cX12_goesIn 218 = .ok (.iaload, 1) := by decide +kernel
theorem dX12_goesIn_219 : decode cX12_goesIn 219 = .ok (.aload_n 0, 1) := by decide +kernel
theorem dX12_goesIn_220 : decode cX12_goesIn 220 = .ok (.getfield 64, 3) := by decide +kernel
theorem dX12_goesIn_223 : decode cX12_goesIn 223 = .ok (.iload 11, 2) := by decide +kernel
theorem dX12_goesIn_225 : decode cX12_goesIn 225 = .ok (.iaload, 1) := by decide +kernel
theorem dX12_goesIn_226 : decode cX12_goesIn 226 = .ok (.i2l, 1) := by decide +kernel
theorem dX12_goesIn_227 : decode cX12_goesIn 227 = .ok (.iload 5, 2) := by decide +kernel
theorem dX12_goesIn_229 : decode cX12_goesIn 229 = .ok (.invokevirtual 414, 3) := by decide +kernel
theorem dX12_goesIn_232 : decode cX12_goesIn 232 = .ok (.iinc 11 1, 3) := by decide +kernel
theorem dX12_goesIn_235 : decode cX12_goesIn 235 = .ok (.goto (-33), 3) := by decide +kernel
theorem dX12_goesIn_238 : decode cX12_goesIn 238 = .ok (.aload_n 0, 1) := by decide +kernel
theorem dX12_goesIn_239 : decode cX12_goesIn 239 = .ok (.ldc_w 445, 3) := by decide +kernel
theorem dX12_goesIn_242 : decode cX12_goesIn 242 = .ok (.iload 6, 2) := by decide +kernel
theorem dX12_goesIn_244 : decode cX12_goesIn 244 = .ok (.iconst 3, 1) := by decide +kernel
theorem dX12_goesIn_245 : decode cX12_goesIn 245 = .ok (.isub, 1) := by decide +kernel
theorem dX12_goesIn_246 : decode cX12_goesIn 246 = .ok (.invokevirtual 157, 3) := by decide +kernel
theorem dX12_goesIn_249 : decode cX12_goesIn 249 = .ok (.invokevirtual 405, 3) := by decide +kernel
theorem dX12_goesIn_252 : decode cX12_goesIn 252 = .ok (.aload_n 0, 1) := by decide +kernel
theorem dX12_goesIn_253 : decode cX12_goesIn 253 = .ok (.iload 8, 2) := by decide +kernel
theorem dX12_goesIn_255 : decode cX12_goesIn 255 = .ok (.putfield 398, 3) := by decide +kernel
theorem dX12_goesIn_258 : decode cX12_goesIn 258 = .ok (.return_, 1) := by decide +kernel
theorem dX12_goesPart_0 : decode cX12_goesPart 0 = .ok (.aload_n 0, 1) := by decide +kernel
theorem dX12_goesPart_1 : decode cX12_goesPart 1 = .ok (.getfield 15, 3) := by decide +kernel
theorem dX12_goesPart_4 : decode cX12_goesPart 4 = .ok (.bipush 24, 2) := by decide +kernel
theorem dX12_goesPart_6 : decode cX12_goesPart 6 = .ok (.iload_n 1, 1) := by decide +kernel
theorem dX12_goesPart_7 : decode cX12_goesPart 7 = .ok (.iadd, 1) := by decide +kernel
theorem dX12_goesPart_8 : decode cX12_goesPart 8 = .ok (.iaload, 1) := by decide +kernel
theorem dX12_goesPart_9 : decode cX12_goesPart 9 = .ok (.tableswitch 145 0 7 #[47, 96, 105, 145, 145, 145, 145, 125], 47) := by decide +kernel
theorem dX12_goesPart_56 : decode cX12_goesPart 56 = .ok (.aload_n 0, 1) := by decide +kernel
theorem dX12_goesPart_57 : decode cX12_goesPart 57 = .ok (.dup, 1) := by decide +kernel
theorem dX12_goesPart_58 : decode cX12_goesPart 58 = .ok (.getfield 389, 3) := by decide +kernel
theorem dX12_goesPart_61 : decode cX12_goesPart 61 = .ok (.aload_n 0, 1) := by decide +kernel
theorem dX12_goesPart_62 : decode cX12_goesPart 62 = .ok (.getfield 15, 3) := by decide +kernel
theorem dX12_goesPart_65 : decode cX12_goesPart 65 = .ok (.bipush 48, 2) := by decide +kernel
theorem dX12_goesPart_67 : decode cX12_goesPart 67 = .ok (.iload_n 1, 1) := by decide +kernel
theorem dX12_goesPart_68 : decode cX12_goesPart 68 = .ok (.iadd, 1) := by decide +kernel
theorem dX12_goesPart_69 : decode cX12_goesPart 69 = .ok (.iaload, 1) := by decide +kernel
theorem dX12_goesPart_70 : decode cX12_goesPart 70 = .ok (.aload_n 0, 1) := by decide +kernel
theorem dX12_goesPart_71 : decode cX12_goesPart 71 = .ok (.getfield 386, 3) := by decide +kernel
theorem dX12_goesPart_74 : decode cX12_goesPart 74 = .ok (.if_icmp .ne 7, 3) := by decide +kernel
theorem dX12_goesPart_81 : decode cX12_goesPart 81 = .ok (.iconst 0, 1) := by decide +kernel
theorem dX12_goesPart_77 : decode cX12_goesPart 77 = .ok (.iconst 1, 1) := by decide +kernel
theorem dX12_goesPart_78 : decode cX12_goesPart 78 = .ok (.goto 4, 3) := by decide +kernel
theorem dX12_goesPart_82 : decode cX12_goesPart 82 = .ok (.iadd, 1) := by decide +kernel
theorem dX12_goesPart_83 : decode cX12_goesPart 83 = .ok (.putfield 389, 3) := by decide +kernel
theorem dX12_goesPart_86 : decode cX12_goesPart 86 = .ok (.aload_n 0, 1) := by decide +kernel
theorem dX12_goesPart_87 : decode cX12_goesPart 87 = .ok (.bipush 97, 2) := by decide +kernel
theorem dX12_goesPart_89 : decode cX12_goesPart 89 = .ok (.aload_n 0, 1) := by decide +kernel
theorem dX12_goesPart_90 : decode cX12_goesPart 90 = .ok (.getfield 15, 3) := by decide +kernel
theorem dX12_goesPart_93 : decode cX12_goesPart 93 = .ok (.bipush 48, 2) := by decide +kernel
theorem dX12_goesPart_95 : decode cX12_goesPart 95 = .ok (.iload_n 1, 1) := by decide +kernel
theorem dX12_goesPart_96 : decode cX12_goesPart 96 = .ok (.iadd, 1) := by decide +kernel
theorem dX12_goesPart_97 : decode cX12_goesPart 97 = .ok (.iaload, 1) := by decide +kernel
theorem dX12_goesPart_98 : decode cX12_goesPart 98 = .ok (.iadd, 1) := by decide +kernel
theorem dX12_goesPart_99 : decode cX12_goesPart 99 = .ok (.invokevirtual 405, 3) := by decide +kernel
theorem dX12_goesPart_102 : decode cX12_goesPart 102 = .ok (.goto 63, 3) := by decide +kernel
theorem dX12_goesPart_165 : decode cX12_goesPart 165 = .ok (.return_, 1) := by decide +kernel
theorem dX12_goesPart_105 : decode cX12_goesPart 105 = .ok (.aload_n 0, 1) := by decide +kernel
theorem dX12_goesPart_106 : decode cX12_goesPart 106 = .ok (.bipush 45, 2) := by decide +kernel
theorem dX12_goesPart_108 : decode cX12_goesPart 108 = .ok (.invokevirtual 405, 3) := by decide +kernel
theorem dX12_goesPart_111 : decode cX12_goesPart 111 = .ok (.goto 54, 3) := by decide +kernel
theorem dX12_goesPart_114 : decode cX12_goesPart 114 = .ok (.aload_n 0, 1) := by decide +kernel
theorem dX12_goesPart_115 : decode cX12_goesPart 115 = .ok (.aload_n 0, 1) := by decide +kernel
theorem dX12_goesPart_116 : decode cX12_goesPart 116 = .ok (.getfield 15, 3) := by decide +kernel
theorem dX12_goesPart_119 : decode cX12_goesPart 119 = .ok (.bipush 48, 2) := by decide +kernel
theorem dX12_goesPart_121 : decode cX12_goesPart 121 = .ok (.iload_n 1, 1) := by decide +kernel
theorem dX12_goesPart_122 : decode cX12_goesPart 122 = .ok (.iadd, 1) := by decide +kernel
theorem dX12_goesPart_123 : decode cX12_goesPart 123 = .ok (.iaload, 1) := by decide +kernel
theorem dX12_goesPart_124 : decode cX12_goesPart 124 = .ok (.iload_n 2, 1) := by decide +kernel
theorem dX12_goesPart_125 : decode cX12_goesPart 125 = .ok (.lload_n 3, 1) := by decide +kernel
theorem dX12_goesPart_126 : decode cX12_goesPart 126 = .ok (.iload 5, 2) := by decide +kernel
theorem dX12_goesPart_128 : decode cX12_goesPart 128 = .ok (.invokevirtual 401, 3) := by decide +kernel
theorem dX12_goesPart_131 : decode cX12_goesPart 131 = .ok (.goto 34, 3) := by decide +kernel
theorem dX12_goesPart_154 : decode cX12_goesPart 154 = .ok (.aload_n 0, 1) := by decide +kernel
theorem dX12_goesPart_155 : decode cX12_goesPart 155 = .ok (.iload_n 1, 1) := by decide +kernel
theorem dX12_goesPart_156 : decode cX12_goesPart 156 = .ok (.iload_n 2, 1) := by decide +kernel
theorem dX12_goesPart_157 : decode cX12_goesPart 157 = .ok (.lload_n 3, 1) := by decide +kernel
theorem dX12_goesPart_158 : decode cX12_goesPart 158 = .ok (.iload 5, 2) := by decide +kernel
theorem dX12_goesPart_160 : decode cX12_goesPart 160 = .ok (.iconst 1, 1) := by decide +kernel
theorem dX12_goesPart_161 : decode cX12_goesPart 161 = .ok (.iadd, 1) := by decide +kernel
theorem dX12_goesPart_162 : decode cX12_goesPart 162 = .ok (.invokevirtual 417, 3) := by decide +kernel
theorem wm_2207 : (Jvm.Cond.methodLink "GrownKindsModel" (417 : Nat) ({ cls := "GrownKindsModel", name := "goesIn", desc := "(IIJI)V" } : Jvm.MethodName)) ∈ gT := gT_in (List.mem_of_getElem? (i := 2207) (by decide +kernel)) (by decide +kernel)
theorem wm_2209 : (Jvm.Cond.instanceMethod ({ cls := "GrownKindsModel", name := "goesIn", desc := "(IIJI)V" } : Jvm.MethodName)) ∈ gT := gT_in (List.mem_of_getElem? (i := 2209) (by decide +kernel)) (by decide +kernel)
theorem wm_144 : Cond.selects "GrownKindsModel" ⟨"GrownKindsModel", "goesIn", "(IIJI)V"⟩ ⟨"GrownKindsModel", "goesIn", "(IIJI)V"⟩ ∈ gT := gT_in (List.mem_of_getElem? (i := 144) (by decide +kernel)) (by decide +kernel)
theorem wm_2210 : (Jvm.Cond.code ({ cls := "GrownKindsModel", name := "goesIn", desc := "(IIJI)V" } : Jvm.MethodName) prog_14_method_92_code (12 : Nat) (Option.none : Option Jvm.ClassFile.FieldType)) ∈ gT := gT_in (List.mem_of_getElem? (i := 2210) (by decide +kernel)) (by decide +kernel)
theorem dX12_goesPart_134 : decode cX12_goesPart 134 = .ok (.aload_n 0, 1) := by decide +kernel
theorem dX12_goesPart_135 : decode cX12_goesPart 135 = .ok (.aload_n 0, 1) := by decide +kernel
theorem dX12_goesPart_136 : decode cX12_goesPart 136 = .ok (.getfield 15, 3) := by decide +kernel
theorem dX12_goesPart_139 : decode cX12_goesPart 139 = .ok (.bipush 48, 2) := by decide +kernel
theorem dX12_goesPart_141 : decode cX12_goesPart 141 = .ok (.iload_n 1, 1) := by decide +kernel
theorem dX12_goesPart_142 : decode cX12_goesPart 142 = .ok (.iadd, 1) := by decide +kernel
theorem dX12_goesPart_143 : decode cX12_goesPart 143 = .ok (.iaload, 1) := by decide +kernel
theorem dX12_goesPart_144 : decode cX12_goesPart 144 = .ok (.iload_n 2, 1) := by decide +kernel
theorem dX12_goesPart_145 : decode cX12_goesPart 145 = .ok (.lload_n 3, 1) := by decide +kernel
theorem dX12_goesPart_146 : decode cX12_goesPart 146 = .ok (.iload 5, 2) := by decide +kernel
theorem dX12_goesPart_148 : decode cX12_goesPart 148 = .ok (.invokevirtual 401, 3) := by decide +kernel
theorem dX12_goesPart_151 : decode cX12_goesPart 151 = .ok (.goto 14, 3) := by decide +kernel
theorem dX12_goes_56 : decode cX12_goes 56 = .ok (.return_, 1) := by decide +kernel
theorem dX12_length_0 : decode cX12_length 0 = .ok (.aload_n 0, 1) := by decide +kernel
theorem dX12_length_1 : decode cX12_length 1 = .ok (.iload_n 1, 1) := by decide +kernel
theorem dX12_length_2 : decode cX12_length 2 = .ok (.iload_n 2, 1) := by decide +kernel
theorem dX12_length_3 : decode cX12_length 3 = .ok (.iload_n 3, 1) := by decide +kernel
theorem dX12_length_4 : decode cX12_length 4 = .ok (.invokevirtual 472, 3) := by decide +kernel
theorem wm_2178 : (Jvm.Cond.methodLink "GrownKindsModel" (472 : Nat) ({ cls := "GrownKindsModel", name := "whyNot", desc := "(III)I" } : Jvm.MethodName)) ∈ gT := gT_in (List.mem_of_getElem? (i := 2178) (by decide +kernel)) (by decide +kernel)
theorem wm_2180 : (Jvm.Cond.instanceMethod ({ cls := "GrownKindsModel", name := "whyNot", desc := "(III)I" } : Jvm.MethodName)) ∈ gT := gT_in (List.mem_of_getElem? (i := 2180) (by decide +kernel)) (by decide +kernel)
theorem wm_137 : Cond.selects "GrownKindsModel" ⟨"GrownKindsModel", "whyNot", "(III)I"⟩ ⟨"GrownKindsModel", "whyNot", "(III)I"⟩ ∈ gT := gT_in (List.mem_of_getElem? (i := 137) (by decide +kernel)) (by decide +kernel)
theorem wm_2181 : (Jvm.Cond.code ({ cls := "GrownKindsModel", name := "whyNot", desc := "(III)I" } : Jvm.MethodName) prog_14_method_105_code (4 : Nat) (Option.some Jvm.ClassFile.FieldType.int)) ∈ gT := gT_in (List.mem_of_getElem? (i := 2181) (by decide +kernel)) (by decide +kernel)
theorem dX12_length_7 : decode cX12_length 7 = .ok (.istore 4, 2) := by decide +kernel
theorem dX12_length_9 : decode cX12_length 9 = .ok (.iload 4, 2) := by decide +kernel
theorem dX12_length_11 : decode cX12_length 11 = .ok (.ifCond .ge 6, 3) := by decide +kernel
theorem dX12_length_17 : decode cX12_length 17 = .ok (.aload_n 0, 1) := by decide +kernel
theorem dX12_length_18 : decode cX12_length 18 = .ok (.iload_n 1, 1) := by decide +kernel
theorem dX12_length_19 : decode cX12_length 19 = .ok (.iload_n 2, 1) := by decide +kernel
theorem dX12_length_20 : decode cX12_length 20 = .ok (.iload_n 3, 1) := by decide +kernel
theorem dX12_length_21 : decode cX12_length 21 = .ok (.iconst (-1), 1) := by decide +kernel
theorem dX12_length_22 : decode cX12_length 22 = .ok (.iconst (-1), 1) := by decide +kernel
theorem dX12_length_23 : decode cX12_length 23 = .ok (.invokevirtual 475, 3) := by decide +kernel
theorem wm_2183 : (Jvm.Cond.methodLink "GrownKindsModel" (475 : Nat) ({ cls := "GrownKindsModel", name := "goes", desc := "(IIIII)V" } : Jvm.MethodName)) ∈ gT := gT_in (List.mem_of_getElem? (i := 2183) (by decide +kernel)) (by decide +kernel)
theorem wm_2185 : (Jvm.Cond.instanceMethod ({ cls := "GrownKindsModel", name := "goes", desc := "(IIIII)V" } : Jvm.MethodName)) ∈ gT := gT_in (List.mem_of_getElem? (i := 2185) (by decide +kernel)) (by decide +kernel)
theorem wm_138 : Cond.selects "GrownKindsModel" ⟨"GrownKindsModel", "goes", "(IIIII)V"⟩ ⟨"GrownKindsModel", "goes", "(IIIII)V"⟩ ∈ gT := gT_in (List.mem_of_getElem? (i := 138) (by decide +kernel)) (by decide +kernel)
theorem wm_2186 : (Jvm.Cond.code ({ cls := "GrownKindsModel", name := "goes", desc := "(IIIII)V" } : Jvm.MethodName) prog_14_method_87_code (6 : Nat) (Option.none : Option Jvm.ClassFile.FieldType)) ∈ gT := gT_in (List.mem_of_getElem? (i := 2186) (by decide +kernel)) (by decide +kernel)
theorem dX12_length_26 : decode cX12_length 26 = .ok (.aload_n 0, 1) := by decide +kernel
theorem dX12_length_27 : decode cX12_length 27 = .ok (.getfield 374, 3) := by decide +kernel
theorem dX12_length_30 : decode cX12_length 30 = .ok (.ireturn, 1) := by decide +kernel
theorem dX12_length_14 : decode cX12_length 14 = .ok (.iload 4, 2) := by decide +kernel
theorem dX12_length_16 : decode cX12_length 16 = .ok (.ireturn, 1) := by decide +kernel
theorem dX12_sign_0 : decode cX12_sign 0 = .ok (.iload 4, 2) := by decide +kernel
theorem dX12_sign_2 : decode cX12_sign 2 = .ok (.ifCond .ge 8, 3) := by decide +kernel
theorem dX12_sign_10 : decode cX12_sign 10 = .ok (.aload_n 0, 1) := by decide +kernel
theorem dX12_sign_11 : decode cX12_sign 11 = .ok (.iload_n 1, 1) := by decide +kernel
theorem dX12_sign_12 : decode cX12_sign 12 = .ok (.iload_n 2, 1) := by decide +kernel
theorem dX12_sign_13 : decode cX12_sign 13 = .ok (.iload_n 3, 1) := by decide +kernel
theorem dX12_sign_14 : decode cX12_sign 14 = .ok (.invokevirtual 472, 3) := by decide +kernel
theorem dX12_sign_5 : decode cX12_sign 5 = .ok (.bipush (-2), 2) := by decide +kernel
theorem dX12_sign_7 : decode cX12_sign 7 = .ok (.goto 10, 3) := by decide +kernel
theorem dX12_sign_17 : decode cX12_sign 17 = .ok (.istore 5, 2) := by decide +kernel
theorem dX12_sign_19 : decode cX12_sign 19 = .ok (.iload 5, 2) := by decide +kernel
theorem dX12_sign_21 : decode cX12_sign 21 = .ok (.ifCond .ge 6, 3) := by decide +kernel
theorem dX12_sign_27 : decode cX12_sign 27 = .ok (.aload_n 0, 1) := by decide +kernel
theorem dX12_sign_28 : decode cX12_sign 28 = .ok (.iload_n 1, 1) := by decide +kernel
theorem dX12_sign_29 : decode cX12_sign 29 = .ok (.iload_n 2, 1) := by decide +kernel
theorem dX12_sign_30 : decode cX12_sign 30 = .ok (.iload_n 3, 1) := by decide +kernel
theorem dX12_sign_31 : decode cX12_sign 31 = .ok (.iload 4, 2) := by decide +kernel
theorem dX12_sign_33 : decode cX12_sign 33 = .ok (.iconst (-1), 1) := by decide +kernel
theorem dX12_sign_34 : decode cX12_sign 34 = .ok (.invokevirtual 475, 3) := by decide +kernel
theorem dX12_sign_37 : decode cX12_sign 37 = .ok (.aload_n 0, 1) := by decide +kernel
theorem dX12_sign_38 : decode cX12_sign 38 = .ok (.getfield 380, 3) := by decide +kernel
theorem dX12_sign_41 : decode cX12_sign 41 = .ok (.ireturn, 1) := by decide +kernel
theorem dX12_sign_24 : decode cX12_sign 24 = .ok (.iload 5, 2) := by decide +kernel
theorem dX12_sign_26 : decode cX12_sign 26 = .ok (.ireturn, 1) := by decide +kernel
theorem dX12_deep_0 : decode cX12_deep 0 = .ok (.aload_n 0, 1) := by decide +kernel
theorem dX12_deep_1 : decode cX12_deep 1 = .ok (.iload_n 1, 1) := by decide +kernel
theorem dX12_deep_2 : decode cX12_deep 2 = .ok (.iload_n 2, 1) := by decide +kernel
theorem dX12_deep_3 : decode cX12_deep 3 = .ok (.iload_n 3, 1) := by decide +kernel
theorem dX12_deep_4 : decode cX12_deep 4 = .ok (.invokevirtual 472, 3) := by decide +kernel
theorem dX12_deep_7 : decode cX12_deep 7 = .ok (.istore 4, 2) := by decide +kernel
theorem dX12_deep_9 : decode cX12_deep 9 = .ok (.iload 4, 2) := by decide +kernel
theorem dX12_deep_11 : decode cX12_deep 11 = .ok (.ifCond .ge 6, 3) := by decide +kernel
theorem dX12_deep_17 : decode cX12_deep 17 = .ok (.aload_n 0, 1) := by decide +kernel
theorem dX12_deep_18 : decode cX12_deep 18 = .ok (.iload_n 1, 1) := by decide +kernel
theorem dX12_deep_19 : decode cX12_deep 19 = .ok (.iload_n 2, 1) := by decide +kernel
theorem dX12_deep_20 : decode cX12_deep 20 = .ok (.iload_n 3, 1) := by decide +kernel
theorem dX12_deep_21 : decode cX12_deep 21 = .ok (.iconst (-1), 1) := by decide +kernel
theorem dX12_deep_22 : decode cX12_deep 22 = .ok (.iconst (-1), 1) := by decide +kernel
theorem dX12_deep_23 : decode cX12_deep 23 = .ok (.invokevirtual 475, 3) := by decide +kernel
theorem dX12_deep_26 : decode cX12_deep 26 = .ok (.aload_n 0, 1) := by decide +kernel
theorem dX12_deep_27 : decode cX12_deep 27 = .ok (.getfield 383, 3) := by decide +kernel
theorem dX12_deep_30 : decode cX12_deep 30 = .ok (.ireturn, 1) := by decide +kernel
theorem dX12_deep_14 : decode cX12_deep 14 = .ok (.iload 4, 2) := by decide +kernel
theorem dX12_deep_16 : decode cX12_deep 16 = .ok (.ireturn, 1) := by decide +kernel
theorem dX12_atoms_0 : decode cX12_atoms 0 = .ok (.iload 4, 2) := by decide +kernel
theorem dX12_atoms_2 : decode cX12_atoms 2 = .ok (.i2l, 1) := by decide +kernel
theorem dX12_atoms_3 : decode cX12_atoms 3 = .ok (.lconst 0, 1) := by decide +kernel
theorem dX12_atoms_4 : decode cX12_atoms 4 = .ok (.ldc2_w 339, 3) := by decide +kernel
theorem dX12_atoms_7 : decode cX12_atoms 7 = .ok (.invokestatic 97, 3) := by decide +kernel
theorem dX12_atoms_10 : decode cX12_atoms 10 = .ok (.ifCond .eq 13, 3) := by decide +kernel
theorem dX12_atoms_23 : decode cX12_atoms 23 = .ok (.bipush (-2), 2) := by decide +kernel
theorem dX12_atoms_13 : decode cX12_atoms 13 = .ok (.aload_n 0, 1) := by decide +kernel
theorem dX12_atoms_14 : decode cX12_atoms 14 = .ok (.iload_n 1, 1) := by decide +kernel
theorem dX12_atoms_15 : decode cX12_atoms 15 = .ok (.iload_n 2, 1) := by decide +kernel
theorem dX12_atoms_16 : decode cX12_atoms 16 = .ok (.iload_n 3, 1) := by decide +kernel
theorem dX12_atoms_17 : decode cX12_atoms 17 = .ok (.invokevirtual 472, 3) := by decide +kernel
theorem dX12_atoms_20 : decode cX12_atoms 20 = .ok (.goto 5, 3) := by decide +kernel
theorem dX12_atoms_25 : decode cX12_atoms 25 = .ok (.istore 5, 2) := by decide +kernel
theorem dX12_atoms_27 : decode cX12_atoms 27 = .ok (.iload 5, 2) := by decide +kernel
theorem dX12_atoms_29 : decode cX12_atoms 29 = .ok (.ifCond .ge 6, 3) := by decide +kernel
theorem dX12_atoms_35 : decode cX12_atoms 35 = .ok (.aload_n 0, 1) := by decide +kernel
theorem dX12_atoms_36 : decode cX12_atoms 36 = .ok (.iload_n 1, 1) := by decide +kernel
theorem dX12_atoms_37 : decode cX12_atoms 37 = .ok (.iload_n 2, 1) := by decide +kernel
theorem dX12_atoms_38 : decode cX12_atoms 38 = .ok (.iload_n 3, 1) := by decide +kernel
theorem dX12_atoms_39 : decode cX12_atoms 39 = .ok (.iconst (-1), 1) := by decide +kernel
theorem dX12_atoms_40 : decode cX12_atoms 40 = .ok (.iload 4, 2) := by decide +kernel
theorem dX12_atoms_42 : decode cX12_atoms 42 = .ok (.invokevirtual 475, 3) := by decide +kernel
theorem dX12_atoms_45 : decode cX12_atoms 45 = .ok (.aload_n 0, 1) := by decide +kernel
theorem dX12_atoms_46 : decode cX12_atoms 46 = .ok (.getfield 389, 3) := by decide +kernel
theorem dX12_atoms_49 : decode cX12_atoms 49 = .ok (.ireturn, 1) := by decide +kernel
theorem dX12_atoms_32 : decode cX12_atoms 32 = .ok (.iload 5, 2) := by decide +kernel
theorem dX12_atoms_34 : decode cX12_atoms 34 = .ok (.ireturn, 1) := by decide +kernel
theorem dX12_term_0 : decode cX12_term 0 = .ok (.aload_n 0, 1) := by decide +kernel
theorem dX12_term_1 : decode cX12_term 1 = .ok (.iload_n 1, 1) := by decide +kernel
theorem dX12_term_2 : decode cX12_term 2 = .ok (.iload_n 2, 1) := by decide +kernel
theorem dX12_term_3 : decode cX12_term 3 = .ok (.iload_n 3, 1) := by decide +kernel
theorem dX12_term_4 : decode cX12_term 4 = .ok (.invokevirtual 472, 3) := by decide +kernel
theorem dX12_term_7 : decode cX12_term 7 = .ok (.istore 4, 2) := by decide +kernel
theorem dX12_term_9 : decode cX12_term 9 = .ok (.iload 4, 2) := by decide +kernel
theorem dX12_term_11 : decode cX12_term 11 = .ok (.ifCond .ge 6, 3) := by decide +kernel
theorem dX12_term_17 : decode cX12_term 17 = .ok (.aload_n 0, 1) := by decide +kernel
theorem dX12_term_18 : decode cX12_term 18 = .ok (.iload_n 1, 1) := by decide +kernel
theorem dX12_term_19 : decode cX12_term 19 = .ok (.iload_n 2, 1) := by decide +kernel
theorem dX12_term_20 : decode cX12_term 20 = .ok (.iload_n 3, 1) := by decide +kernel
theorem dX12_term_21 : decode cX12_term 21 = .ok (.iconst (-1), 1) := by decide +kernel
theorem dX12_term_22 : decode cX12_term 22 = .ok (.iconst (-1), 1) := by decide +kernel
theorem dX12_term_23 : decode cX12_term 23 = .ok (.invokevirtual 475, 3) := by decide +kernel
theorem dX12_term_26 : decode cX12_term 26 = .ok (.aload_n 0, 1) := by decide +kernel
theorem dX12_term_27 : decode cX12_term 27 = .ok (.getfield 395, 3) := by decide +kernel
theorem dX12_term_30 : decode cX12_term 30 = .ok (.ireturn, 1) := by decide +kernel
theorem dX12_term_14 : decode cX12_term 14 = .ok (.iload 4, 2) := by decide +kernel
theorem dX12_term_16 : decode cX12_term 16 = .ok (.ireturn, 1) := by decide +kernel
theorem dX12_symmetries_0 : decode cX12_symmetries 0 = .ok (.aload_n 0, 1) := by decide +kernel
theorem dX12_symmetries_1 : decode cX12_symmetries 1 = .ok (.iload_n 1, 1) := by decide +kernel
theorem dX12_symmetries_2 : decode cX12_symmetries 2 = .ok (.iload_n 2, 1) := by decide +kernel
theorem dX12_symmetries_3 : decode cX12_symmetries 3 = .ok (.iload_n 3, 1) := by decide +kernel
theorem dX12_symmetries_4 : decode cX12_symmetries 4 = .ok (.invokevirtual 472, 3) := by decide +kernel
theorem dX12_symmetries_7 : decode cX12_symmetries 7 = .ok (.istore 4, 2) := by decide +kernel
theorem dX12_symmetries_9 : decode cX12_symmetries 9 = .ok (.iload 4, 2) := by decide +kernel
theorem dX12_symmetries_11 : decode cX12_symmetries 11 = .ok (.ifCond .ge 6, 3) := by decide +kernel
theorem dX12_symmetries_17 : decode cX12_symmetries 17 = .ok (.aload_n 0, 1) := by decide +kernel
theorem dX12_symmetries_18 : decode cX12_symmetries 18 = .ok (.iload_n 1, 1) := by decide +kernel
theorem dX12_symmetries_19 : decode cX12_symmetries 19 = .ok (.iload_n 2, 1) := by decide +kernel
theorem dX12_symmetries_20 : decode cX12_symmetries 20 = .ok (.iload_n 3, 1) := by decide +kernel
theorem dX12_symmetries_21 : decode cX12_symmetries 21 = .ok (.iconst (-1), 1) := by decide +kernel
theorem dX12_symmetries_22 : decode cX12_symmetries 22 = .ok (.iconst (-1), 1) := by decide +kernel
theorem dX12_symmetries_23 : decode cX12_symmetries 23 = .ok (.invokevirtual 475, 3) := by decide +kernel
theorem dX12_symmetries_26 : decode cX12_symmetries 26 = .ok (.aload_n 0, 1) := by decide +kernel
theorem dX12_symmetries_27 : decode cX12_symmetries 27 = .ok (.getfield 392, 3) := by decide +kernel
theorem dX12_symmetries_30 : decode cX12_symmetries 30 = .ok (.ireturn, 1) := by decide +kernel
theorem dX12_symmetries_14 : decode cX12_symmetries 14 = .ok (.iload 4, 2) := by decide +kernel
theorem dX12_symmetries_16 : decode cX12_symmetries 16 = .ok (.ireturn, 1) := by decide +kernel
theorem dX12_labels_0 : decode cX12_labels 0 = .ok (.aload_n 0, 1) := by decide +kernel
theorem dX12_labels_1 : decode cX12_labels 1 = .ok (.iload_n 1, 1) := by decide +kernel
theorem dX12_labels_2 : decode cX12_labels 2 = .ok (.iload_n 2, 1) := by decide +kernel
theorem dX12_labels_3 : decode cX12_labels 3 = .ok (.iload_n 3, 1) := by decide +kernel
theorem dX12_labels_4 : decode cX12_labels 4 = .ok (.invokevirtual 479, 3) := by decide +kernel
theorem wm_2285 : (Jvm.Cond.methodLink "GrownKindsModel" (479 : Nat) ({ cls := "GrownKindsModel", name := "symmetries", desc := "(III)I" } : Jvm.MethodName)) ∈ gT := gT_in (List.mem_of_getElem? (i := 2285) (by decide +kernel)) (by decide +kernel)
theorem wm_2278 : (Jvm.Cond.instanceMethod ({ cls := "GrownKindsModel", name := "symmetries", desc := "(III)I" } : Jvm.MethodName)) ∈ gT := gT_in (List.mem_of_getElem? (i := 2278) (by decide +kernel)) (by decide +kernel)
theorem wm_2279 : (Jvm.Cond.selects "GrownKindsModel" ({ cls := "GrownKindsModel", name := "symmetries", desc := "(III)I" } : Jvm.MethodName) ({ cls := "GrownKindsModel", name := "symmetries", desc := "(III)I" } : Jvm.MethodName)) ∈ gT := gT_in (List.mem_of_getElem? (i := 2279) (by decide +kernel)) (by decide +kernel)
theorem wm_2280 : (Jvm.Cond.code ({ cls := "GrownKindsModel", name := "symmetries", desc := "(III)I" } : Jvm.MethodName) prog_14_method_111_code (5 : Nat) (Option.some Jvm.ClassFile.FieldType.int)) ∈ gT := gT_in (List.mem_of_getElem? (i := 2280) (by decide +kernel)) (by decide +kernel)
theorem dX12_labels_7 : decode cX12_labels 7 = .ok (.istore 4, 2) := by decide +kernel
theorem dX12_labels_9 : decode cX12_labels 9 = .ok (.iload 4, 2) := by decide +kernel
theorem dX12_labels_11 : decode cX12_labels 11 = .ok (.ifCond .ge 8, 3) := by decide +kernel
theorem dX12_labels_19 : decode cX12_labels 19 = .ok (.iload_n 2, 1) := by decide +kernel
theorem dX12_labels_20 : decode cX12_labels 20 = .ok (.invokestatic 368, 3) := by decide +kernel
theorem dX12_labels_23 : decode cX12_labels 23 = .ok (.l2i, 1) := by decide +kernel
theorem dX12_labels_24 : decode cX12_labels 24 = .ok (.iload 4, 2) := by decide +kernel
theorem dX12_labels_26 : decode cX12_labels 26 = .ok (.idiv, 1) := by decide +kernel
theorem dX12_labels_27 : decode cX12_labels 27 = .ok (.ireturn, 1) := by decide +kernel
theorem dX12_labels_14 : decode cX12_labels 14 = .ok (.iload 4, 2) := by decide +kernel
theorem dX12_labels_16 : decode cX12_labels 16 = .ok (.goto 11, 3) := by decide +kernel
theorem dX12_most_0 : decode cX12_most 0 = .ok (.aload_n 0, 1) := by decide +kernel
theorem dX12_most_1 : decode cX12_most 1 = .ok (.iload_n 1, 1) := by decide +kernel
theorem dX12_most_2 : decode cX12_most 2 = .ok (.iload_n 2, 1) := by decide +kernel
theorem dX12_most_3 : decode cX12_most 3 = .ok (.invokevirtual 534, 3) := by decide +kernel
theorem dX12_most_6 : decode cX12_most 6 = .ok (.istore 5, 2) := by decide +kernel
theorem dX12_most_8 : decode cX12_most 8 = .ok (.iload 5, 2) := by decide +kernel
theorem dX12_most_10 : decode cX12_most 10 = .ok (.ifCond .ge 6, 3) := by decide +kernel
theorem dX12_most_16 : decode cX12_most 16 = .ok (.iconst 0, 1) := by decide +kernel
theorem dX12_most_17 : decode cX12_most 17 = .ok (.istore 6, 2) := by decide +kernel
theorem dX12_most_19 : decode cX12_most 19 = .ok (.iconst (-1), 1) := by decide +kernel
theorem dX12_most_20 : decode cX12_most 20 = .ok (.istore 7, 2) := by decide +kernel
theorem dX12_most_22 : decode cX12_most 22 = .ok (.iconst 0, 1) := by decide +kernel
theorem dX12_most_23 : decode cX12_most 23 = .ok (.istore 8, 2) := by decide +kernel
theorem dX12_most_25 : decode cX12_most 25 = .ok (.iload 8, 2) := by decide +kernel
theorem dX12_most_27 : decode cX12_most 27 = .ok (.i2l, 1) := by decide +kernel
theorem dX12_most_28 : decode cX12_most 28 = .ok (.aload_n 0, 1) := by decide +kernel
theorem dX12_most_29 : decode cX12_most 29 = .ok (.iload_n 1, 1) := by decide +kernel
theorem dX12_most_30 : decode cX12_most 30 = .ok (.iload_n 2, 1) := by decide +kernel
theorem dX12_most_31 : decode cX12_most 31 = .ok (.invokevirtual 320, 3) := by decide +kernel
theorem dX12_most_34 : decode cX12_most 34 = .ok (.lcmp, 1) := by decide +kernel
theorem dX12_most_35 : decode cX12_most 35 = .ok (.ifCond .ge 64, 3) := by decide +kernel
theorem dX12_most_38 : decode cX12_most 38 = .ok (.aload_n 0, 1) := by decide +kernel
theorem dX12_most_39 : decode cX12_most 39 = .ok (.iload_n 1, 1) := by decide +kernel
theorem dX12_most_40 : decode cX12_most 40 = .ok (.iload_n 2, 1) := by decide +kernel
theorem dX12_most_41 : decode cX12_most 41 = .ok (.iload 8, 2) := by decide +kernel
theorem dX12_most_43 : decode cX12_most 43 = .ok (.iconst (-1), 1) := by decide +kernel
theorem dX12_most_44 : decode cX12_most 44 = .ok (.iload 4, 2) := by decide +kernel
theorem dX12_most_46 : decode cX12_most 46 = .ok (.invokevirtual 475, 3) := by decide +kernel
theorem dX12_most_49 : decode cX12_most 49 = .ok (.iload_n 3, 1) := by decide +kernel
theorem dX12_most_50 : decode cX12_most 50 = .ok (.ifCond .ne 10, 3) := by decide +kernel
theorem dX12_most_60 : decode cX12_most 60 = .ok (.iload_n 3, 1) := by decide +kernel
theorem dX12_most_61 : decode cX12_most 61 = .ok (.iconst 1, 1) := by decide +kernel
theorem dX12_most_62 : decode cX12_most 62 = .ok (.if_icmp .ne 10, 3) := by decide +kernel
theorem dX12_most_72 : decode cX12_most 72 = .ok (.aload_n 0, 1) := by decide +kernel
theorem dX12_most_73 : decode cX12_most 73 = .ok (.getfield 392, 3) := by decide +kernel
theorem dX12_most_65 : decode cX12_most 65 = .ok (.aload_n 0, 1) := by decide +kernel
theorem dX12_most_66 : decode cX12_most 66 = .ok (.getfield 389, 3) := by decide +kernel
theorem dX12_most_69 : decode cX12_most 69 = .ok (.goto 7, 3) := by decide +kernel
theorem dX12_most_53 : decode cX12_most 53 = .ok (.aload_n 0, 1) := by decide +kernel
theorem dX12_most_54 : decode cX12_most 54 = .ok (.getfield 383, 3) := by decide +kernel
theorem dX12_most_57 : decode cX12_most 57 = .ok (.goto 19, 3) := by decide +kernel
theorem dX12_most_76 : decode cX12_most 76 = .ok (.istore 9, 2) := by decide +kernel
theorem dX12_most_78 : decode cX12_most 78 = .ok (.iload 9, 2) := by decide +kernel
theorem dX12_most_80 : decode cX12_most 80 = .ok (.iload 7, 2) := by decide +kernel
theorem dX12_most_82 : decode cX12_most 82 = .ok (.if_icmp .le 11, 3) := by decide +kernel
theorem dX12_most_93 : decode cX12_most 93 = .ok (.iinc 8 1, 3) := by decide +kernel
theorem dX12_most_96 : decode cX12_most 96 = .ok (.goto (-71), 3) := by decide +kernel
theorem dX12_most_85 : decode cX12_most 85 = .ok (.iload 9, 2) := by decide +kernel
theorem dX12_most_87 : decode cX12_most 87 = .ok (.istore 7, 2) := by decide +kernel
theorem dX12_most_89 : decode cX12_most 89 = .ok (.iload 8, 2) := by decide +kernel
theorem dX12_most_91 : decode cX12_most 91 = .ok (.istore 6, 2) := by decide +kernel
theorem dX12_most_99 : decode cX12_most 99 = .ok (.iload 6, 2) := by decide +kernel
theorem dX12_most_101 : decode cX12_most 101 = .ok (.ireturn, 1) := by decide +kernel
theorem dX12_most_13 : decode cX12_most 13 = .ok (.iload 5, 2) := by decide +kernel
theorem dX12_most_15 : decode cX12_most 15 = .ok (.ireturn, 1) := by decide +kernel
theorem dX12_deepest_0 : decode cX12_deepest 0 = .ok (.aload_n 0, 1) := by decide +kernel
theorem dX12_deepest_1 : decode cX12_deepest 1 = .ok (.iload_n 1, 1) := by decide +kernel
theorem dX12_deepest_2 : decode cX12_deepest 2 = .ok (.iload_n 2, 1) := by decide +kernel
theorem dX12_deepest_3 : decode cX12_deepest 3 = .ok (.iconst 0, 1) := by decide +kernel
theorem dX12_deepest_4 : decode cX12_deepest 4 = .ok (.iconst (-1), 1) := by decide +kernel
theorem dX12_deepest_5 : decode cX12_deepest 5 = .ok (.invokevirtual 537, 3) := by decide +kernel
theorem wm_2362 : (Jvm.Cond.methodLink "GrownKindsModel" (537 : Nat) ({ cls := "GrownKindsModel", name := "most", desc := "(IIII)I" } : Jvm.MethodName)) ∈ gT := gT_in (List.mem_of_getElem? (i := 2362) (by decide +kernel)) (by decide +kernel)
theorem wm_2364 : (Jvm.Cond.instanceMethod ({ cls := "GrownKindsModel", name := "most", desc := "(IIII)I" } : Jvm.MethodName)) ∈ gT := gT_in (List.mem_of_getElem? (i := 2364) (by decide +kernel)) (by decide +kernel)
theorem wm_171 : Cond.selects "GrownKindsModel" ⟨"GrownKindsModel", "most", "(IIII)I"⟩ ⟨"GrownKindsModel", "most", "(IIII)I"⟩ ∈ gT := gT_in (List.mem_of_getElem? (i := 171) (by decide +kernel)) (by decide +kernel)
theorem wm_2365 : (Jvm.Cond.code ({ cls := "GrownKindsModel", name := "most", desc := "(IIII)I" } : Jvm.MethodName) prog_14_method_131_code (10 : Nat) (Option.some Jvm.ClassFile.FieldType.int)) ∈ gT := gT_in (List.mem_of_getElem? (i := 2365) (by decide +kernel)) (by decide +kernel)
theorem dX12_deepest_8 : decode cX12_deepest 8 = .ok (.ireturn, 1) := by decide +kernel
theorem dX12_fullest_0 : decode cX12_fullest 0 = .ok (.iload_n 3, 1) := by decide +kernel
theorem dX12_fullest_1 : decode cX12_fullest 1 = .ok (.i2l, 1) := by decide +kernel
theorem dX12_fullest_2 : decode cX12_fullest 2 = .ok (.lconst 0, 1) := by decide +kernel
theorem dX12_fullest_3 : decode cX12_fullest 3 = .ok (.ldc2_w 339, 3) := by decide +kernel
theorem dX12_fullest_6 : decode cX12_fullest 6 = .ok (.invokestatic 97, 3) := by decide +kernel
theorem dX12_fullest_9 : decode cX12_fullest 9 = .ok (.ifCond .eq 14, 3) := by decide +kernel
theorem dX12_fullest_23 : decode cX12_fullest 23 = .ok (.bipush (-2), 2) := by decide +kernel
theorem dX12_fullest_25 : decode cX12_fullest 25 = .ok (.ireturn, 1) := by decide +kernel
theorem dX12_fullest_12 : decode cX12_fullest 12 = .ok (.aload_n 0, 1) := by decide +kernel
theorem dX12_fullest_13 : decode cX12_fullest 13 = .ok (.iload_n 1, 1) := by decide +kernel
theorem dX12_fullest_14 : decode cX12_fullest 14 = .ok (.iload_n 2, 1) := by decide +kernel
theorem dX12_fullest_15 : decode cX12_fullest 15 = .ok (.iconst 1, 1) := by decide +kernel
theorem dX12_fullest_16 : decode cX12_fullest 16 = .ok (.iload_n 3, 1) := by decide +kernel
theorem dX12_fullest_17 : decode cX12_fullest 17 = .ok (.invokevirtual 537, 3) := by decide +kernel
theorem dX12_fullest_20 : decode cX12_fullest 20 = .ok (.goto 5, 3) := by decide +kernel
theorem dX12_stiffest_0 : decode cX12_stiffest 0 = .ok (.aload_n 0, 1) := by decide +kernel
theorem dX12_stiffest_1 : decode cX12_stiffest 1 = .ok (.iload_n 1, 1) := by decide +kernel
theorem dX12_stiffest_2 : decode cX12_stiffest 2 = .ok (.iload_n 2, 1) := by decide +kernel
theorem dX12_stiffest_3 : decode cX12_stiffest 3 = .ok (.iconst 2, 1) := by decide +kernel
theorem dX12_stiffest_4 : decode cX12_stiffest 4 = .ok (.iconst (-1), 1) := by decide +kernel
theorem dX12_stiffest_5 : decode cX12_stiffest 5 = .ok (.invokevirtual 537, 3) := by decide +kernel
theorem dX12_stiffest_8 : decode cX12_stiffest 8 = .ok (.ireturn, 1) := by decide +kernel
theorem dX12_mean_0 : decode cX12_mean 0 = .ok (.iload_n 3, 1) := by decide +kernel
theorem dX12_mean_1 : decode cX12_mean 1 = .ok (.i2l, 1) := by decide +kernel
theorem dX12_mean_2 : decode cX12_mean 2 = .ok (.lconst 0, 1) := by decide +kernel
theorem dX12_mean_3 : decode cX12_mean 3 = .ok (.ldc2_w 339, 3) := by decide +kernel
theorem dX12_mean_6 : decode cX12_mean 6 = .ok (.invokestatic 97, 3) := by decide +kernel
theorem dX12_mean_9 : decode cX12_mean 9 = .ok (.ifCond .eq 23, 3) := by decide +kernel
theorem dX12_mean_32 : decode cX12_mean 32 = .ok (.bipush (-2), 2) := by decide +kernel
theorem dX12_mean_12 : decode cX12_mean 12 = .ok (.iload 4, 2) := by decide +kernel
theorem dX12_mean_14 : decode cX12_mean 14 = .ok (.i2l, 1) := by decide +kernel
theorem dX12_mean_15 : decode cX12_mean 15 = .ok (.lconst 0, 1) := by decide +kernel
theorem dX12_mean_16 : decode cX12_mean 16 = .ok (.lconst 1, 1) := by decide +kernel
theorem dX12_mean_17 : decode cX12_mean 17 = .ok (.invokestatic 97, 3) := by decide +kernel
theorem dX12_mean_20 : decode cX12_mean 20 = .ok (.ifCond .eq 12, 3) := by decide +kernel
theorem dX12_mean_23 : decode cX12_mean 23 = .ok (.aload_n 0, 1) := by decide +kernel
theorem dX12_mean_24 : decode cX12_mean 24 = .ok (.iload_n 1, 1) := by decide +kernel
theorem dX12_mean_25 : decode cX12_mean 25 = .ok (.iload_n 2, 1) := by decide +kernel
theorem dX12_mean_26 : decode cX12_mean 26 = .ok (.invokevirtual 534, 3) := by decide +kernel
theorem dX12_mean_29 : decode cX12_mean 29 = .ok (.goto 5, 3) := by decide +kernel
theorem dX12_mean_34 : decode cX12_mean 34 = .ok (.istore 5, 2) := by decide +kernel
theorem dX12_mean_36 : decode cX12_mean 36 = .ok (.iload 5, 2) := by decide +kernel
theorem dX12_mean_38 : decode cX12_mean 38 = .ok (.ifCond .ge 6, 3) := by decide +kernel
theorem dX12_mean_44 : decode cX12_mean 44 = .ok (.iconst 0, 1) := by decide +kernel
theorem dX12_mean_45 : decode cX12_mean 45 = .ok (.istore 6, 2) := by decide +kernel
theorem dX12_mean_47 : decode cX12_mean 47 = .ok (.iconst 0, 1) := by decide +kernel
theorem dX12_mean_48 : decode cX12_mean 48 = .ok (.istore 7, 2) := by decide +kernel
theorem dX12_mean_50 : decode cX12_mean 50 = .ok (.iload 7, 2) := by decide +kernel
theorem dX12_mean_52 : decode cX12_mean 52 = .ok (.i2l, 1) := by decide +kernel
theorem dX12_mean_53 : decode cX12_mean 53 = .ok (.aload_n 0, 1) := by decide +kernel
theorem dX12_mean_54 : decode cX12_mean 54 = .ok (.iload_n 1, 1) := by decide +kernel
theorem dX12_mean_55 : decode cX12_mean 55 = .ok (.iload_n 2, 1) := by decide +kernel
theorem dX12_mean_56 : decode cX12_mean 56 = .ok (.invokevirtual 320, 3) := by decide +kernel
theorem dX12_mean_59 : decode cX12_mean 59 = .ok (.lcmp, 1) := by decide +kernel
theorem dX12_mean_60 : decode cX12_mean 60 = .ok (.ifCond .ge 28, 3) := by decide +kernel
theorem dX12_mean_63 : decode cX12_mean 63 = .ok (.aload_n 0, 1) := by decide +kernel
theorem dX12_mean_64 : decode cX12_mean 64 = .ok (.iload_n 1, 1) := by decide +kernel
theorem dX12_mean_65 : decode cX12_mean 65 = .ok (.iload_n 2, 1) := by decide +kernel
theorem dX12_mean_66 : decode cX12_mean 66 = .ok (.iload 7, 2) := by decide +kernel
theorem dX12_mean_68 : decode cX12_mean 68 = .ok (.iconst (-1), 1) := by decide +kernel
theorem dX12_mean_69 : decode cX12_mean 69 = .ok (.iload_n 3, 1) := by decide +kernel
theorem dX12_mean_70 : decode cX12_mean 70 = .ok (.invokevirtual 475, 3) := by decide +kernel
theorem dX12_mean_73 : decode cX12_mean 73 = .ok (.iload 6, 2) := by decide +kernel
theorem dX12_mean_75 : decode cX12_mean 75 = .ok (.aload_n 0, 1) := by decide +kernel
theorem dX12_mean_76 : decode cX12_mean 76 = .ok (.getfield 389, 3) := by decide +kernel
theorem dX12_mean_79 : decode cX12_mean 79 = .ok (.iadd, 1) := by decide +kernel
theorem dX12_mean_80 : decode cX12_mean 80 = .ok (.istore 6, 2) := by decide +kernel
theorem dX12_mean_82 : decode cX12_mean 82 = .ok (.iinc 7 1, 3) := by decide +kernel
theorem dX12_mean_85 : decode cX12_mean 85 = .ok (.goto (-35), 3) := by decide +kernel
theorem dX12_mean_88 : decode cX12_mean 88 = .ok (.iload 6, 2) := by decide +kernel
theorem dX12_mean_90 : decode cX12_mean 90 = .ok (.aload_n 0, 1) := by decide +kernel
theorem dX12_mean_91 : decode cX12_mean 91 = .ok (.iload_n 1, 1) := by decide +kernel
theorem dX12_mean_92 : decode cX12_mean 92 = .ok (.iload_n 2, 1) := by decide +kernel
theorem dX12_mean_93 : decode cX12_mean 93 = .ok (.invokevirtual 320, 3) := by decide +kernel
theorem dX12_mean_96 : decode cX12_mean 96 = .ok (.l2i, 1) := by decide +kernel
theorem dX12_mean_97 : decode cX12_mean 97 = .ok (.iload 4, 2) := by decide +kernel
theorem dX12_mean_99 : decode cX12_mean 99 = .ok (.invokestatic 542, 3) := by decide +kernel
theorem dX12_mean_102 : decode cX12_mean 102 = .ok (.ireturn, 1) := by decide +kernel
theorem dX12_mean_41 : decode cX12_mean 41 = .ok (.iload 5, 2) := by decide +kernel
theorem dX12_mean_43 : decode cX12_mean 43 = .ok (.ireturn, 1) := by decide +kernel
theorem wV_12_401 : gWV "GrownKindsModel" 401 yX12_goesExpr cX12_goesExpr 15 none := ⟨wm_2187, wm_2189, wm_139, wm_188, wm_2190, by decide +kernel, by decide +kernel⟩
theorem wV_12_405 : gWV "GrownKindsModel" 405 yX12_signs cX12_signs 2 none := ⟨wm_2191, wm_2193, wm_140, wm_188, wm_2194, by decide +kernel, by decide +kernel⟩
theorem wV_12_408 : gWV "GrownKindsModel" 408 yX12_pairs cX12_pairs 4 (some .long) := ⟨wm_2195, wm_2197, wm_141, wm_188, wm_2198, by decide +kernel, by decide +kernel⟩
theorem wV_12_414 : gWV "GrownKindsModel" 414 yX12_goesPart cX12_goesPart 6 none := ⟨wm_2203, wm_2205, wm_143, wm_188, wm_2206, by decide +kernel, by decide +kernel⟩
theorem wV_12_431 : gWV "GrownKindsModel" 431 yX12_findsBag cX12_findsBag 18 none := ⟨wm_2242, wm_2244, wm_152, wm_188, wm_2245, by decide +kernel, by decide +kernel⟩
theorem wV_12_424 : gWV "GrownKindsModel" 424 yX12_findsRow cX12_findsRow 11 none := ⟨wm_2211, wm_2213, wm_145, wm_188, wm_2214, by decide +kernel, by decide +kernel⟩
theorem wV_12_437 : gWV "GrownKindsModel" 437 yX12_turnsIn cX12_turnsIn 8 (some .int) := ⟨wm_2254, wm_2256, wm_155, wm_188, wm_2257, by decide +kernel, by decide +kernel⟩
theorem wV_12_434 : gWV "GrownKindsModel" 434 yX12_changes cX12_changes 6 (some .int) := ⟨wm_2250, wm_2252, wm_154, wm_188, wm_2253, by decide +kernel, by decide +kernel⟩
theorem wV_12_417 : gWV "GrownKindsModel" 417 yX12_goesIn cX12_goesIn 12 none := ⟨wm_2207, wm_2209, wm_144, wm_188, wm_2210, by decide +kernel, by decide +kernel⟩
def mX12_goesExpr_178 (rec : Nat → Int → Int → Int → Int → St → Option (St)) (S_24 : St) (v_21 : Int) (v_22 : Int) (a4 : Int) : Nat → Int → Int → Option (Int × Int)
  | 0, _, _ => none
  | f + 1, v_33, v_34 => bd1 (mX12_pairs S_24 v_21 v_33 v_22) fun r_52 => gd ((inL v_34) ∧ (inL r_52)) <| if v_34 < r_52 then (some (v_34, v_33)) else (bd1 (mX12_pairs S_24 v_21 v_33 v_22) fun r_56 => nx (v_34 - r_56) fun x_57 => mX12_goesExpr_178 rec S_24 v_21 v_22 a4 f (v_33 + 1) x_57)
def mX12_goesExpr_170 (rec : Nat → Int → Int → Int → Int → St → Option (St)) (a4 : Int) : Nat → Int → Int → Int → St → Option (St)
  | 0, _, _, _, _ => none
  | f + 1, v_21, v_22, v_23, S_24 => gd (inI v_21) <| if v_21 < 0 then (some (S_24)) else (bd2 (mX12_goesExpr_178 rec S_24 v_21 v_22 a4 FU 0 v_23) fun y_35 y_36 => bd1 (mX12_behind S_24 v_21 (v_22 - y_36)) fun r_40 => gd ((0 ≤ y_35 ∧ y_35 ≤ 9223372036854775807) ∧ (0 < r_40 ∧ r_40 ≤ 9223372036854775807)) <| bd1 (rec 2 v_21 y_36 (y_35 / r_40) a4 S_24) fun S_43 => nx (y_35 % r_40) fun x_44 => nx (v_22 - y_36) fun x_45 => gd (0 ≤ (96 + v_21) ∧ (96 + v_21) < 228) <| nx (S_43 84 (96 + v_21)) fun x_47 => mX12_goesExpr_170 rec a4 f x_47 x_45 x_44 S_43)
def mX12_goesExpr_18 (rec : Nat → Int → Int → Int → Int → St → Option (St)) (S0 : St) (a1 : Int) (a2 : Int) (a4 : Int) : Nat → Int → Int → Int → Option (Int × Int × Int)
  | 0, _, _, _ => none
  | f + 1, v_3, v_4, v_5 => bd1 (mX12_isOff S0 a1 v_5) fun r_68 => bd1 (gd (inI r_68) <| if r_68 = 0 then (gd (0 ≤ (120 + v_4) ∧ (120 + v_4) < 228) <| bd1 (mX12_place (S0 84 (120 + v_4)) a2 0) fun r_91 => gd (0 ≤ r_91 ∧ r_91 < 1536) <| gd ((inL v_3) ∧ (inL (S0 91 r_91))) <| if v_3 < (S0 91 r_91) then (some (1)) else (some (0))) else (some (0))) fun t_69 => if t_69 = 0 then (bd1 (mX12_isOff S0 a1 v_5) fun r_73 => bd1 (gd (inI r_73) <| if r_73 = 0 then (gd (0 ≤ (120 + v_4) ∧ (120 + v_4) < 228) <| bd1 (mX12_place (S0 84 (120 + v_4)) a2 0) fun r_84 => gd (0 ≤ r_84 ∧ r_84 < 1536) <| some ((S0 91 r_84))) else (some (0))) fun z_74 => nx (v_3 - z_74) fun x_77 => gd (0 ≤ (144 + v_4) ∧ (144 + v_4) < 228) <| nx (S0 84 (144 + v_4)) fun x_79 => mX12_goesExpr_18 rec S0 a1 a2 a4 f x_77 x_79 (v_5 + 1)) else (some (v_5, v_4, v_3))
def bX12_goesExpr (rec : Nat → Int → Int → Int → Int → St → Option (St)) (S0 : St) (a1 : Int) (a2 : Int) (a3 : Int) (a4 : Int) : Option (St) := gd (0 ≤ (168 + a1) ∧ (168 + a1) < 228) <| nx (S0 84 (168 + a1)) fun x_2 => bd3 (mX12_goesExpr_18 rec S0 a1 a2 a4 FU a3 x_2 0) fun y_6 y_7 y_8 => bd1 (gd (inI (S0 83 27)) <| if 0 ≤ (S0 83 27) then (some ((S0 83 27))) else (some (y_6))) fun z_11 => nx (up S0 83 27 z_11) fun S_14 => gd (0 ≤ (198 + a1) ∧ (198 + a1) < 228) <| bd1 (gd (inI (S_14 84 (198 + a1))) <| if (S_14 84 (198 + a1)) ≤ 1 then (some (S_14)) else (bd1 (mX12_signs S_14 (48 + y_6)) fun S_61 => some (S_61))) fun S_16 => gd (0 ≤ (120 + y_7) ∧ (120 + y_7) < 228) <| nx (S_16 84 (120 + y_7)) fun x_20 => bd1 (mX12_goesExpr_170 rec a4 FU x_20 a2 y_8 S_16) fun S_25 => some (S_25)
set_option maxHeartbeats 4000000 in
set_option maxRecDepth 100000 in
theorem spX12_goesExpr (l : Launch) {D : va_G} {cy : Nat → ClassId} {b n : Nat} (hn : 102 ≤ n) {X : Nat → va_E} (rec : Nat → Int → Int → Int → Int → St → Option (St)) (d : Nat) (hd : 28 ≤ d) (hr0 : ∀ (S0 : St) (a1 : Int) (a2 : Int) (a3 : Int) (a4 : Int) (o1 : St), rec 0 a1 a2 a3 a4 S0 = some o1 → gV l yX12_goesExpr cX12_goesExpr 15 d 0 0 D cy b n (enc b cy X S0) [.ref (b + 80), .int (iI a1), .int (iI a2), .long (jJ a3), .int (iI a4)] (fun u => u = (n, enc b cy X o1))) (hr1 : ∀ (S0 : St) (a1 : Int) (a2 : Int) (a3 : Int) (a4 : Int) (o1 : St), rec 1 a1 a2 a3 a4 S0 = some o1 → gV l yX12_goesIn cX12_goesIn 12 d 0 0 D cy b n (enc b cy X S0) [.ref (b + 80), .int (iI a1), .int (iI a2), .long (jJ a3), .int (iI a4)] (fun u => u = (n, enc b cy X o1))) (hr2 : ∀ (S0 : St) (a1 : Int) (a2 : Int) (a3 : Int) (a4 : Int) (o1 : St), rec 2 a1 a2 a3 a4 S0 = some o1 → gV l yX12_goesPart cX12_goesPart 6 d 0 0 D cy b n (enc b cy X S0) [.ref (b + 80), .int (iI a1), .int (iI a2), .long (jJ a3), .int (iI a4)] (fun u => u = (n, enc b cy X o1))) (S0 : St) (a1 : Int) (a2 : Int) (a3 : Int) (a4 : Int) (o1 : St) (hM : bX12_goesExpr rec S0 a1 a2 a3 a4 = some o1) : gV l yX12_goesExpr cX12_goesExpr 15 (d + 1) 0 0 D cy b n (enc b cy X S0) [.ref (b + 80), .int (iI a1), .int (iI a2), .long (jJ a3), .int (iI a4)] (fun u => u = (n, enc b cy X o1)) := by
  refine gV_of (by decide) (Nat.le_of_ble_eq_true rfl) ?_
  intro p e s m args below meth c S hr hlk hin hsz ls hl hG
  have hx := S.1
  have hb := S.2.1
  have hl : lv_has ls 15 [(0, .ref (b + 80)), (1, .int (iI a1)), (2, .int (iI a2)), (3, .long (jJ a3)), (5, .int (iI a4))] := hl
  replace hG : gW D cy b n s s.heap [] (enc b cy X S0) := hG
  obtain ⟨H, eH⟩ : ∃ H, H = s.heap := ⟨_, rfl⟩
  obtain ⟨locs, elocs⟩ : ∃ locs : List Loc, locs = [] := ⟨_, rfl⟩
  rw [← eH, ← elocs] at hG
  rw [← eH, ← elocs]
  clear eH elocs
  unfold bX12_goesExpr at hM
  refine lv_iconst (v := iI 0) hx hb dX12_goesExpr_0 (by decide) ?_
  refine lv_istore (lv' := [(6, .int (iI 0)), (0, .ref (b + 80)), (1, .int (iI a1)), (2, .int (iI a2)), (3, .long (jJ a3)), (5, .int (iI a4))]) hx hb dX12_goesExpr_1 hl (by decide) rfl (fun ls hl => ?_)
  refine lv_aload_n hx hb dX12_goesExpr_3 rfl (lv_at hl 1 rfl) ?_
  refine m_get S hG 80 83 0 rfl ec_83 cpX12 wm_1673 dX12_goesExpr_4 rfl (Nat.lt_of_lt_of_le (Nat.le_of_ble_eq_true rfl) hn) (by decide) ?_
  refine lv_sipush (v := iI 168) hx hb dX12_goesExpr_7 (by decide) ?_
  refine lv_iload_n hx hb dX12_goesExpr_10 rfl (lv_at hl 2 rfl) ?_
  refine gi_add hx hb dX12_goesExpr_11 ?_
  obtain ⟨hg_1, hM⟩ := gd_some hM
  refine mi_ald S hG 81 84 rfl ec_84 (Nat.lt_of_lt_of_le (Nat.le_of_ble_eq_true rfl) hn) dX12_goesExpr_12 hg_1 (by decide) ?_
  refine gi_nm (fun x_2 ex_2 => ?_)
  replace hM := nx_at hM ex_2
  clear ex_2
  refine lv_istore (lv' := [(7, .int (iI x_2)), (6, .int (iI 0)), (0, .ref (b + 80)), (1, .int (iI a1)), (2, .int (iI a2)), (3, .long (jJ a3)), (5, .int (iI a4))]) hx hb dX12_goesExpr_13 hl (by decide) rfl (fun ls hl => ?_)
  refine lv_lload_n hx hb dX12_goesExpr_15 rfl (lv_at hl 5 rfl) ?_
  refine lv_lstore (lv' := [(8, .long (jJ a3)), (7, .int (iI x_2)), (6, .int (iI 0)), (0, .ref (b + 80)), (1, .int (iI a1)), (2, .int (iI a2)), (3, .long (jJ a3)), (5, .int (iI a4))]) hx hb dX12_goesExpr_16 hl (by decide) rfl (fun ls hl => ?_)
  obtain ⟨y_6, y_7, y_8, hc_9, hM⟩ := bd3_some hM
  have hK_10 : ∀ (H : Heap) (locs : List Loc) (ls : Array Slot), gW D cy b n s H locs (enc b cy X S0) → lv_has ls 15 [(0, .ref (b + 80)), (1, .int (iI a1)), (2, .int (iI a2)), (5, .int (iI a4)), (6, .int (iI y_6)), (7, .int (iI y_7)), (8, .long (jJ y_8))] → W p l e (gRm (d + 1) 0 0) s m args below meth c H locs 0 0 (gQV D cy b s args below 0 0 (fun u => u = (n, enc b cy X o1))) (F0 m 112 ls []) := by
    intro H locs ls hG hl
    refine lv_aload_n hx hb dX12_goesExpr_112 rfl (lv_at hl 0 rfl) ?_
    refine lv_aload_n hx hb dX12_goesExpr_113 rfl (lv_at hl 0 rfl) ?_
    refine m_get S hG 80 83 27 rfl ec_83 cpX12 wm_1700 dX12_goesExpr_114 rfl (Nat.lt_of_lt_of_le (Nat.le_of_ble_eq_true rfl) hn) (by decide) ?_
    obtain ⟨z_11, hc_12, hM⟩ := bd1_some hM
    have hK_13 : ∀ (H : Heap) (locs : List Loc) (ls : Array Slot), gW D cy b n s H locs (enc b cy X S0) → lv_has ls 15 [(0, .ref (b + 80)), (1, .int (iI a1)), (2, .int (iI a2)), (5, .int (iI a4)), (6, .int (iI y_6)), (7, .int (iI y_7)), (8, .long (jJ y_8))] → W p l e (gRm (d + 1) 0 0) s m args below meth c H locs 0 0 (gQV D cy b s args below 0 0 (fun u => u = (n, enc b cy X o1))) (F0 m 129 ls [.int (iI z_11), .ref (b + 80)]) := by
      intro H locs ls hG hl
      refine m_put S hG 80 83 27 rfl 27 z_11 ec_83 cpX12 wm_1700 dX12_goesExpr_129 (pf_83_27) (Nat.lt_of_lt_of_le (Nat.le_of_ble_eq_true rfl) hn) (by decide) (Nat.le_of_ble_eq_true rfl) rfl rfl rfl (fun H locs S_14 eS_14 hG => ?_)
      replace hM := nx_at hM eS_14
      clear eS_14
      refine lv_aload_n hx hb dX12_goesExpr_132 rfl (lv_at hl 0 rfl) ?_
      refine m_get S hG 80 83 0 rfl ec_83 cpX12 wm_1673 dX12_goesExpr_133 rfl (Nat.lt_of_lt_of_le (Nat.le_of_ble_eq_true rfl) hn) (by decide) ?_
      refine lv_sipush (v := iI 198) hx hb dX12_goesExpr_136 (by decide) ?_
      refine lv_iload_n hx hb dX12_goesExpr_139 rfl (lv_at hl 1 rfl) ?_
      refine gi_add hx hb dX12_goesExpr_140 ?_
      obtain ⟨hg_15, hM⟩ := gd_some hM
      refine mi_ald S hG 81 84 rfl ec_84 (Nat.lt_of_lt_of_le (Nat.le_of_ble_eq_true rfl) hn) dX12_goesExpr_141 hg_15 (by decide) ?_
      refine lv_iconst (v := iI 1) hx hb dX12_goesExpr_142 (by decide) ?_
      obtain ⟨S_16, hc_17, hM⟩ := bd1_some hM
      have hK_18 : ∀ (H : Heap) (locs : List Loc) (ls : Array Slot), gW D cy b n s H locs (enc b cy X S_16) → lv_has ls 15 [(0, .ref (b + 80)), (2, .int (iI a2)), (5, .int (iI a4)), (7, .int (iI y_7)), (8, .long (jJ y_8))] → W p l e (gRm (d + 1) 0 0) s m args below meth c H locs 0 0 (gQV D cy b s args below 0 0 (fun u => u = (n, enc b cy X o1))) (F0 m 155 ls []) := by
        intro H locs ls hG hl
        refine lv_iload_n hx hb dX12_goesExpr_155 rfl (lv_at hl 1 rfl) ?_
        refine lv_istore (lv' := [(10, .int (iI a2)), (0, .ref (b + 80)), (2, .int (iI a2)), (5, .int (iI a4)), (7, .int (iI y_7)), (8, .long (jJ y_8))]) hx hb dX12_goesExpr_156 hl (by decide) rfl (fun ls hl => ?_)
        refine lv_aload_n hx hb dX12_goesExpr_158 rfl (lv_at hl 1 rfl) ?_
        refine m_get S hG 80 83 0 rfl ec_83 cpX12 wm_1673 dX12_goesExpr_159 rfl (Nat.lt_of_lt_of_le (Nat.le_of_ble_eq_true rfl) hn) (by decide) ?_
        refine lv_bipush (v := iI 120) hx hb dX12_goesExpr_162 (by decide) ?_
        refine lv_iload hx hb dX12_goesExpr_164 (lv_at hl 4 rfl) ?_
        refine gi_add hx hb dX12_goesExpr_166 ?_
        obtain ⟨hg_19, hM⟩ := gd_some hM
        refine mi_ald S hG 81 84 rfl ec_84 (Nat.lt_of_lt_of_le (Nat.le_of_ble_eq_true rfl) hn) dX12_goesExpr_167 hg_19 (by decide) ?_
        refine gi_nm (fun x_20 ex_20 => ?_)
        replace hM := nx_at hM ex_20
        clear ex_20
        refine lv_istore (lv' := [(11, .int (iI x_20)), (10, .int (iI a2)), (0, .ref (b + 80)), (2, .int (iI a2)), (5, .int (iI a4)), (7, .int (iI y_7)), (8, .long (jJ y_8))]) hx hb dX12_goesExpr_168 hl (by decide) rfl (fun ls hl => ?_)
        obtain ⟨S_25, hc_26, hM⟩ := bd1_some hM
        have hK_27 : ∀ (H : Heap) (locs : List Loc) (ls : Array Slot), gW D cy b n s H locs (enc b cy X S_25) → lv_has ls 15 [] → W p l e (gRm (d + 1) 0 0) s m args below meth c H locs 0 0 (gQV D cy b s args below 0 0 (fun u => u = (n, enc b cy X o1))) (F0 m 272 ls []) := by
          intro H locs ls hG hl
          cases hM
          exact g_vret S hr hlk hG hsz dX12_goesExpr_272 ⟨Nat.le_of_ble_eq_true rfl, Nat.le_of_ble_eq_true rfl⟩ rfl
        have loop_28 : ∀ (f : Nat) (v_21 : Int) (v_22 : Int) (v_23 : Int) (S_24 : St) (H : Heap) (locs : List Loc) (ls : Array Slot), mX12_goesExpr_170 rec a4 f v_21 v_22 v_23 S_24 = some S_25 → gW D cy b n s H locs (enc b cy X S_24) → lv_has ls 15 [(11, .int (iI v_21)), (10, .int (iI v_22)), (0, .ref (b + 80)), (5, .int (iI a4)), (8, .long (jJ v_23))] → W p l e (gRm (d + 1) 0 0) s m args below meth c H locs 0 0 (gQV D cy b s args below 0 0 (fun u => u = (n, enc b cy X o1))) (F0 m 170 ls []) := by
          clear hM
          intro f
          induction f with
          | zero => intro v_21 v_22 v_23 S_24 H locs ls hM; rw [mX12_goesExpr_170] at hM; cases hM
          | succ f_30 ih_29 =>
            intro v_21 v_22 v_23 S_24 H locs ls hM hG hl
            rw [mX12_goesExpr_170] at hM
            refine lv_iload hx hb dX12_goesExpr_170 (lv_at hl 0 rfl) ?_
            obtain ⟨hg_31, hM⟩ := gd_some hM
            refine gi_if_lt (tgt := 272) hx hb dX12_goesExpr_172 (by decide) hg_31 (fun c_32 => ?_) (fun c_32 => ?_)
            · replace hM := ifp hM c_32
              cases hM
              exact hK_27 H locs ls hG (lv_sub hl [] rfl)
            · replace hM := ifn hM c_32
              refine lv_iconst (v := iI 0) hx hb dX12_goesExpr_175 (by decide) ?_
              refine lv_istore (lv' := [(12, .int (iI 0)), (11, .int (iI v_21)), (10, .int (iI v_22)), (0, .ref (b + 80)), (5, .int (iI a4)), (8, .long (jJ v_23))]) hx hb dX12_goesExpr_176 hl (by decide) rfl (fun ls hl => ?_)
              obtain ⟨y_35, y_36, hc_37, hM⟩ := bd2_some hM
              have hK_38 : ∀ (H : Heap) (locs : List Loc) (ls : Array Slot), gW D cy b n s H locs (enc b cy X S_24) → lv_has ls 15 [(11, .int (iI v_21)), (10, .int (iI v_22)), (0, .ref (b + 80)), (5, .int (iI a4)), (8, .long (jJ y_35)), (12, .int (iI y_36))] → W p l e (gRm (d + 1) 0 0) s m args below meth c H locs 0 0 (gQV D cy b s args below 0 0 (fun u => u = (n, enc b cy X o1))) (F0 m 215 ls []) := by
                intro H locs ls hG hl
                refine lv_aload_n hx hb dX12_goesExpr_215 rfl (lv_at hl 2 rfl) ?_
                refine lv_iload hx hb dX12_goesExpr_216 (lv_at hl 0 rfl) ?_
                refine lv_iload hx hb dX12_goesExpr_218 (lv_at hl 1 rfl) ?_
                refine lv_iload hx hb dX12_goesExpr_220 (lv_at hl 5 rfl) ?_
                refine gi_sub hx hb dX12_goesExpr_222 ?_
                obtain ⟨r_40, hc_39, hM⟩ := bd1_some hM
                refine g_vl (As := [.int (iI v_21), .int (iI (v_22 - y_36))]) (rest := []) S hG hsz (vX12_behind l hn v_21 (v_22 - y_36) hc_39) wV_12_411 (ec_83 _) cpX12 (Nat.lt_of_lt_of_le (Nat.le_of_ble_eq_true rfl) hn) dX12_goesExpr_223 rfl hl.1 (ar := 2) (by decide +kernel) rfl (by refine ⟨?_, ?_, ?_, ?_⟩ <;> first | exact Nat.le_of_ble_eq_true rfl | (simp only [gRm]; omega)) (Nat.le_of_ble_eq_true rfl) (fun rv uu H locs hp hG => ?_)
                obtain ⟨rfl, rfl⟩ := hp
                replace hG : gW D cy b n s H locs (enc b cy X S_24) := hG
                refine lv_lstore (lv' := [(13, .long (jJ r_40)), (11, .int (iI v_21)), (10, .int (iI v_22)), (0, .ref (b + 80)), (5, .int (iI a4)), (8, .long (jJ y_35)), (12, .int (iI y_36))]) hx hb dX12_goesExpr_226 hl (by decide) rfl (fun ls hl => ?_)
                refine lv_aload_n hx hb dX12_goesExpr_228 rfl (lv_at hl 3 rfl) ?_
                refine lv_iload hx hb dX12_goesExpr_229 (lv_at hl 1 rfl) ?_
                refine lv_iload hx hb dX12_goesExpr_231 (lv_at hl 6 rfl) ?_
                refine lv_lload hx hb dX12_goesExpr_233 (lv_at hl 5 rfl) ?_
                refine lv_lload hx hb dX12_goesExpr_235 (lv_at hl 0 rfl) ?_
                obtain ⟨hg_41, hM⟩ := gd_some hM
                refine gj_div hx hb dX12_goesExpr_237 hg_41.1 hg_41.2 ?_
                refine lv_iload hx hb dX12_goesExpr_238 (lv_at hl 4 rfl) ?_
                obtain ⟨S_43, hc_42, hM⟩ := bd1_some hM
                refine g_vv (As := [.int (iI v_21), .int (iI y_36), .long (jJ (y_35 / r_40)), .int (iI a4)]) (rest := []) S hG hsz (hr2 _ v_21 y_36 (y_35 / r_40) a4 _ hc_42) wV_12_414 (ec_83 _) cpX12 (Nat.lt_of_lt_of_le (Nat.le_of_ble_eq_true rfl) hn) dX12_goesExpr_240 rfl hl.1 (ar := 4) (by decide +kernel) rfl (by refine ⟨?_, ?_, ?_, ?_⟩ <;> first | exact Nat.le_of_ble_eq_true rfl | (simp only [gRm]; omega)) (Nat.le_of_ble_eq_true rfl) (fun uu H locs hp hG => ?_)
                obtain rfl := hp
                replace hG : gW D cy b n s H locs (enc b cy X S_43) := hG
                refine lv_lload hx hb dX12_goesExpr_243 (lv_at hl 5 rfl) ?_
                refine lv_lload hx hb dX12_goesExpr_245 (lv_at hl 0 rfl) ?_
                refine gj_rem hx hb dX12_goesExpr_247 hg_41.1 hg_41.2 ?_
                refine gj_nm (fun x_44 ex_44 => ?_)
                replace hM := nx_at hM ex_44
                clear ex_44
                refine lv_lstore (lv' := [(8, .long (jJ x_44)), (13, .long (jJ r_40)), (11, .int (iI v_21)), (10, .int (iI v_22)), (0, .ref (b + 80)), (5, .int (iI a4)), (12, .int (iI y_36))]) hx hb dX12_goesExpr_248 hl (by decide) rfl (fun ls hl => ?_)
                refine lv_iload hx hb dX12_goesExpr_250 (lv_at hl 3 rfl) ?_
                refine lv_iload hx hb dX12_goesExpr_252 (lv_at hl 6 rfl) ?_
                refine gi_sub hx hb dX12_goesExpr_254 ?_
                refine gi_nm (fun x_45 ex_45 => ?_)
                replace hM := nx_at hM ex_45
                clear ex_45
                refine lv_istore (lv' := [(10, .int (iI x_45)), (8, .long (jJ x_44)), (13, .long (jJ r_40)), (11, .int (iI v_21)), (0, .ref (b + 80)), (5, .int (iI a4)), (12, .int (iI y_36))]) hx hb dX12_goesExpr_255 hl (by decide) rfl (fun ls hl => ?_)
                refine lv_aload_n hx hb dX12_goesExpr_257 rfl (lv_at hl 4 rfl) ?_
                refine m_get S hG 80 83 0 rfl ec_83 cpX12 wm_1673 dX12_goesExpr_258 rfl (Nat.lt_of_lt_of_le (Nat.le_of_ble_eq_true rfl) hn) (by decide) ?_
                refine lv_bipush (v := iI 96) hx hb dX12_goesExpr_261 (by decide) ?_
                refine lv_iload hx hb dX12_goesExpr_263 (lv_at hl 3 rfl) ?_
                refine gi_add hx hb dX12_goesExpr_265 ?_
                obtain ⟨hg_46, hM⟩ := gd_some hM
                refine mi_ald S hG 81 84 rfl ec_84 (Nat.lt_of_lt_of_le (Nat.le_of_ble_eq_true rfl) hn) dX12_goesExpr_266 hg_46 (by decide) ?_
                refine gi_nm (fun x_47 ex_47 => ?_)
                replace hM := nx_at hM ex_47
                clear ex_47
                refine lv_istore (lv' := [(11, .int (iI x_47)), (10, .int (iI x_45)), (8, .long (jJ x_44)), (13, .long (jJ r_40)), (0, .ref (b + 80)), (5, .int (iI a4)), (12, .int (iI y_36))]) hx hb dX12_goesExpr_267 hl (by decide) rfl (fun ls hl => ?_)
                refine lv_goto (tgt := 170) hx hb dX12_goesExpr_269 (by decide) ?_
                exact ih_29 x_47 x_45 x_44 S_43 H locs ls hM hG (lv_sub hl [0, 1, 4, 5, 2] rfl)
              have loop_48 : ∀ (f : Nat) (v_33 : Int) (v_34 : Int) (H : Heap) (locs : List Loc) (ls : Array Slot), mX12_goesExpr_178 rec S_24 v_21 v_22 a4 f v_33 v_34 = some (y_35, y_36) → gW D cy b n s H locs (enc b cy X S_24) → lv_has ls 15 [(12, .int (iI v_33)), (11, .int (iI v_21)), (10, .int (iI v_22)), (0, .ref (b + 80)), (5, .int (iI a4)), (8, .long (jJ v_34))] → W p l e (gRm (d + 1) 0 0) s m args below meth c H locs 0 0 (gQV D cy b s args below 0 0 (fun u => u = (n, enc b cy X o1))) (F0 m 178 ls []) := by
                clear hM
                intro f
                induction f with
                | zero => intro v_33 v_34 H locs ls hM; rw [mX12_goesExpr_178] at hM; cases hM
                | succ f_50 ih_49 =>
                  intro v_33 v_34 H locs ls hM hG hl
                  rw [mX12_goesExpr_178] at hM
                  refine lv_lload hx hb dX12_goesExpr_178 (lv_at hl 5 rfl) ?_
                  refine lv_aload_n hx hb dX12_goesExpr_180 rfl (lv_at hl 3 rfl) ?_
                  refine lv_iload hx hb dX12_goesExpr_181 (lv_at hl 1 rfl) ?_
                  refine lv_iload hx hb dX12_goesExpr_183 (lv_at hl 0 rfl) ?_
                  refine lv_iload hx hb dX12_goesExpr_185 (lv_at hl 2 rfl) ?_
                  obtain ⟨r_52, hc_51, hM⟩ := bd1_some hM
                  refine g_vl (As := [.int (iI v_21), .int (iI v_33), .int (iI v_22)]) (rest := [.long (jJ v_34)]) S hG hsz (vX12_pairs l hn v_21 v_33 v_22 hc_51) wV_12_408 (ec_83 _) cpX12 (Nat.lt_of_lt_of_le (Nat.le_of_ble_eq_true rfl) hn) dX12_goesExpr_187 rfl hl.1 (ar := 3) (by decide +kernel) rfl (by refine ⟨?_, ?_, ?_, ?_⟩ <;> first | exact Nat.le_of_ble_eq_true rfl | (simp only [gRm]; omega)) (Nat.le_of_ble_eq_true rfl) (fun rv uu H locs hp hG => ?_)
                  obtain ⟨rfl, rfl⟩ := hp
                  replace hG : gW D cy b n s H locs (enc b cy X S_24) := hG
                  obtain ⟨hg_53, hM⟩ := gd_some hM
                  refine gj_cmp_lt (tgt := 215) hx hb dX12_goesExpr_190 dX12_goesExpr_191 (by decide) hg_53.1 hg_53.2 (fun c_54 => ?_) (fun c_54 => ?_)
                  · replace hM := ifp hM c_54
                    cases hM
                    exact hK_38 H locs ls hG (lv_sub hl [1, 2, 3, 4, 5, 0] rfl)
                  · replace hM := ifn hM c_54
                    refine lv_lload hx hb dX12_goesExpr_194 (lv_at hl 5 rfl) ?_
                    refine lv_aload_n hx hb dX12_goesExpr_196 rfl (lv_at hl 3 rfl) ?_
                    refine lv_iload hx hb dX12_goesExpr_197 (lv_at hl 1 rfl) ?_
                    refine lv_iload hx hb dX12_goesExpr_199 (lv_at hl 0 rfl) ?_
                    refine lv_iload hx hb dX12_goesExpr_201 (lv_at hl 2 rfl) ?_
                    obtain ⟨r_56, hc_55, hM⟩ := bd1_some hM
                    refine g_vl (As := [.int (iI v_21), .int (iI v_33), .int (iI v_22)]) (rest := [.long (jJ v_34)]) S hG hsz (vX12_pairs l hn v_21 v_33 v_22 hc_55) wV_12_408 (ec_83 _) cpX12 (Nat.lt_of_lt_of_le (Nat.le_of_ble_eq_true rfl) hn) dX12_goesExpr_203 rfl hl.1 (ar := 3) (by decide +kernel) rfl (by refine ⟨?_, ?_, ?_, ?_⟩ <;> first | exact Nat.le_of_ble_eq_true rfl | (simp only [gRm]; omega)) (Nat.le_of_ble_eq_true rfl) (fun rv uu H locs hp hG => ?_)
                    obtain ⟨rfl, rfl⟩ := hp
                    replace hG : gW D cy b n s H locs (enc b cy X S_24) := hG
                    refine gj_sub hx hb dX12_goesExpr_206 ?_
                    refine gj_nm (fun x_57 ex_57 => ?_)
                    replace hM := nx_at hM ex_57
                    clear ex_57
                    refine lv_lstore (lv' := [(8, .long (jJ x_57)), (12, .int (iI v_33)), (11, .int (iI v_21)), (10, .int (iI v_22)), (0, .ref (b + 80)), (5, .int (iI a4))]) hx hb dX12_goesExpr_207 hl (by decide) rfl (fun ls hl => ?_)
                    refine lv_iinc (v := iI (v_33 + 1)) (lv' := [(12, .int (iI (v_33 + 1))), (8, .long (jJ x_57)), (11, .int (iI v_21)), (10, .int (iI v_22)), (0, .ref (b + 80)), (5, .int (iI a4))]) hx hb dX12_goesExpr_209 hl (k := 1) rfl ((iI_add v_33 (1)).trans (congrArg iI (by omega))) (by decide) rfl (fun ls hl => ?_)
                    refine lv_goto (tgt := 178) hx hb dX12_goesExpr_212 (by decide) ?_
                    exact ih_49 (v_33 + 1) x_57 H locs ls hM hG (lv_sub hl [0, 2, 3, 4, 5, 1] rfl)
              exact loop_48 FU 0 v_23 H locs ls hc_37 hG (lv_sub hl [0, 1, 2, 3, 4, 5] rfl)
        exact loop_28 FU x_20 a2 y_8 S_16 H locs ls hc_26 hG (lv_sub hl [0, 1, 2, 4, 6] rfl)
      clear hM
      replace hM := hc_17
      obtain ⟨hg_58, hM⟩ := gd_some hM
      refine gi_icmp_le (tgt := 155) hx hb dX12_goesExpr_143 (by decide) hg_58 (by decide) (fun c_59 => ?_) (fun c_59 => ?_)
      · replace hM := ifp hM c_59
        cases hM
        exact hK_18 H locs ls hG (lv_sub hl [0, 2, 3, 5, 6] rfl)
      · replace hM := ifn hM c_59
        refine lv_aload_n hx hb dX12_goesExpr_146 rfl (lv_at hl 0 rfl) ?_
        refine lv_bipush (v := iI 48) hx hb dX12_goesExpr_147 (by decide) ?_
        refine lv_iload hx hb dX12_goesExpr_149 (lv_at hl 4 rfl) ?_
        refine gi_add hx hb dX12_goesExpr_151 ?_
        obtain ⟨S_61, hc_60, hM⟩ := bd1_some hM
        refine g_vv (As := [.int (iI (48 + y_6))]) (rest := []) S hG hsz (vX12_signs l hn (48 + y_6) hc_60) wV_12_405 (ec_83 _) cpX12 (Nat.lt_of_lt_of_le (Nat.le_of_ble_eq_true rfl) hn) dX12_goesExpr_152 rfl hl.1 (ar := 1) (by decide +kernel) rfl (by refine ⟨?_, ?_, ?_, ?_⟩ <;> first | exact Nat.le_of_ble_eq_true rfl | (simp only [gRm]; omega)) (Nat.le_of_ble_eq_true rfl) (fun uu H locs hp hG => ?_)
        obtain rfl := hp
        replace hG : gW D cy b n s H locs (enc b cy X S_61) := hG
        cases hM
        exact hK_18 H locs ls hG (lv_sub hl [0, 2, 3, 5, 6] rfl)
    clear hM
    replace hM := hc_12
    obtain ⟨hg_62, hM⟩ := gd_some hM
    refine gi_if_ge (tgt := 125) hx hb dX12_goesExpr_117 (by decide) hg_62 (fun c_63 => ?_) (fun c_63 => ?_)
    · replace hM := ifp hM c_63
      refine lv_aload_n hx hb dX12_goesExpr_125 rfl (lv_at hl 0 rfl) ?_
      refine m_get S hG 80 83 27 rfl ec_83 cpX12 wm_1700 dX12_goesExpr_126 rfl (Nat.lt_of_lt_of_le (Nat.le_of_ble_eq_true rfl) hn) (by decide) ?_
      cases hM
      exact hK_13 H locs ls hG (lv_sub hl [0, 1, 2, 3, 4, 5, 6] rfl)
    · replace hM := ifn hM c_63
      refine lv_iload hx hb dX12_goesExpr_120 (lv_at hl 4 rfl) ?_
      refine lv_goto (tgt := 129) hx hb dX12_goesExpr_122 (by decide) ?_
      cases hM
      exact hK_13 H locs ls hG (lv_sub hl [0, 1, 2, 3, 4, 5, 6] rfl)
  have loop_64 : ∀ (f : Nat) (v_3 : Int) (v_4 : Int) (v_5 : Int) (H : Heap) (locs : List Loc) (ls : Array Slot), mX12_goesExpr_18 rec S0 a1 a2 a4 f v_3 v_4 v_5 = some (y_6, y_7, y_8) → gW D cy b n s H locs (enc b cy X S0) → lv_has ls 15 [(8, .long (jJ v_3)), (7, .int (iI v_4)), (6, .int (iI v_5)), (0, .ref (b + 80)), (1, .int (iI a1)), (2, .int (iI a2)), (5, .int (iI a4))] → W p l e (gRm (d + 1) 0 0) s m args below meth c H locs 0 0 (gQV D cy b s args below 0 0 (fun u => u = (n, enc b cy X o1))) (F0 m 18 ls []) := by
    clear hM
    intro f
    induction f with
    | zero => intro v_3 v_4 v_5 H locs ls hM; rw [mX12_goesExpr_18] at hM; cases hM
    | succ f_66 ih_65 =>
      intro v_3 v_4 v_5 H locs ls hM hG hl
      rw [mX12_goesExpr_18] at hM
      refine lv_aload_n hx hb dX12_goesExpr_18 rfl (lv_at hl 3 rfl) ?_
      refine lv_iload_n hx hb dX12_goesExpr_19 rfl (lv_at hl 4 rfl) ?_
      refine lv_iload hx hb dX12_goesExpr_20 (lv_at hl 2 rfl) ?_
      obtain ⟨r_68, hc_67, hM⟩ := bd1_some hM
      refine g_vi (As := [.int (iI a1), .int (iI v_5)]) (rest := []) S hG hsz (vX12_isOff l hn a1 v_5 hc_67) wV_12_231 (ec_83 _) cpX12 (Nat.lt_of_lt_of_le (Nat.le_of_ble_eq_true rfl) hn) dX12_goesExpr_22 rfl hl.1 (ar := 2) (by decide +kernel) rfl (by refine ⟨?_, ?_, ?_, ?_⟩ <;> first | exact Nat.le_of_ble_eq_true rfl | (simp only [gRm]; omega)) (Nat.le_of_ble_eq_true rfl) (fun rv uu H locs hp hG => ?_)
      obtain ⟨rfl, rfl⟩ := hp
      replace hG : gW D cy b n s H locs (enc b cy X S0) := hG
      obtain ⟨t_69, hc_70, hM⟩ := bd1_some hM
      have hK_71 : ∀ (H : Heap) (locs : List Loc) (ls : Array Slot), t_69 = 0 → gW D cy b n s H locs (enc b cy X S0) → lv_has ls 15 [(8, .long (jJ v_3)), (7, .int (iI v_4)), (6, .int (iI v_5)), (0, .ref (b + 80)), (1, .int (iI a1)), (2, .int (iI a2)), (5, .int (iI a4))] → W p l e (gRm (d + 1) 0 0) s m args below meth c H locs 0 0 (gQV D cy b s args below 0 0 (fun u => u = (n, enc b cy X o1))) (F0 m 54 ls []) := by
        intro H locs ls ht hG hl
        subst ht
        replace hM := ifp hM rfl
        refine lv_lload hx hb dX12_goesExpr_54 (lv_at hl 0 rfl) ?_
        refine lv_aload_n hx hb dX12_goesExpr_56 rfl (lv_at hl 3 rfl) ?_
        refine lv_iload_n hx hb dX12_goesExpr_57 rfl (lv_at hl 4 rfl) ?_
        refine lv_iload hx hb dX12_goesExpr_58 (lv_at hl 2 rfl) ?_
        obtain ⟨r_73, hc_72, hM⟩ := bd1_some hM
        refine g_vi (As := [.int (iI a1), .int (iI v_5)]) (rest := [.long (jJ v_3)]) S hG hsz (vX12_isOff l hn a1 v_5 hc_72) wV_12_231 (ec_83 _) cpX12 (Nat.lt_of_lt_of_le (Nat.le_of_ble_eq_true rfl) hn) dX12_goesExpr_60 rfl hl.1 (ar := 2) (by decide +kernel) rfl (by refine ⟨?_, ?_, ?_, ?_⟩ <;> first | exact Nat.le_of_ble_eq_true rfl | (simp only [gRm]; omega)) (Nat.le_of_ble_eq_true rfl) (fun rv uu H locs hp hG => ?_)
        obtain ⟨rfl, rfl⟩ := hp
        replace hG : gW D cy b n s H locs (enc b cy X S0) := hG
        obtain ⟨z_74, hc_75, hM⟩ := bd1_some hM
        have hK_76 : ∀ (H : Heap) (locs : List Loc) (ls : Array Slot), gW D cy b n s H locs (enc b cy X S0) → lv_has ls 15 [(7, .int (iI v_4)), (6, .int (iI v_5)), (0, .ref (b + 80)), (1, .int (iI a1)), (2, .int (iI a2)), (5, .int (iI a4))] → W p l e (gRm (d + 1) 0 0) s m args below meth c H locs 0 0 (gQV D cy b s args below 0 0 (fun u => u = (n, enc b cy X o1))) (F0 m 90 ls [.long (jJ z_74), .long (jJ v_3)]) := by
          intro H locs ls hG hl
          refine gj_sub hx hb dX12_goesExpr_90 ?_
          refine gj_nm (fun x_77 ex_77 => ?_)
          replace hM := nx_at hM ex_77
          clear ex_77
          refine lv_lstore (lv' := [(8, .long (jJ x_77)), (7, .int (iI v_4)), (6, .int (iI v_5)), (0, .ref (b + 80)), (1, .int (iI a1)), (2, .int (iI a2)), (5, .int (iI a4))]) hx hb dX12_goesExpr_91 hl (by decide) rfl (fun ls hl => ?_)
          refine lv_aload_n hx hb dX12_goesExpr_93 rfl (lv_at hl 3 rfl) ?_
          refine m_get S hG 80 83 0 rfl ec_83 cpX12 wm_1673 dX12_goesExpr_94 rfl (Nat.lt_of_lt_of_le (Nat.le_of_ble_eq_true rfl) hn) (by decide) ?_
          refine lv_sipush (v := iI 144) hx hb dX12_goesExpr_97 (by decide) ?_
          refine lv_iload hx hb dX12_goesExpr_100 (lv_at hl 1 rfl) ?_
          refine gi_add hx hb dX12_goesExpr_102 ?_
          obtain ⟨hg_78, hM⟩ := gd_some hM
          refine mi_ald S hG 81 84 rfl ec_84 (Nat.lt_of_lt_of_le (Nat.le_of_ble_eq_true rfl) hn) dX12_goesExpr_103 hg_78 (by decide) ?_
          refine gi_nm (fun x_79 ex_79 => ?_)
          replace hM := nx_at hM ex_79
          clear ex_79
          refine lv_istore (lv' := [(7, .int (iI x_79)), (8, .long (jJ x_77)), (6, .int (iI v_5)), (0, .ref (b + 80)), (1, .int (iI a1)), (2, .int (iI a2)), (5, .int (iI a4))]) hx hb dX12_goesExpr_104 hl (by decide) rfl (fun ls hl => ?_)
          refine lv_iinc (v := iI (v_5 + 1)) (lv' := [(6, .int (iI (v_5 + 1))), (7, .int (iI x_79)), (8, .long (jJ x_77)), (0, .ref (b + 80)), (1, .int (iI a1)), (2, .int (iI a2)), (5, .int (iI a4))]) hx hb dX12_goesExpr_106 hl (k := 2) rfl ((iI_add v_5 (1)).trans (congrArg iI (by omega))) (by decide) rfl (fun ls hl => ?_)
          refine lv_goto (tgt := 18) hx hb dX12_goesExpr_109 (by decide) ?_
          exact ih_65 x_77 x_79 (v_5 + 1) H locs ls hM hG (lv_sub hl [2, 1, 0, 3, 4, 5, 6] rfl)
        clear hM
        replace hM := hc_75
        obtain ⟨hg_80, hM⟩ := gd_some hM
        refine gi_if_eq (tgt := 70) hx hb dX12_goesExpr_63 (by decide) hg_80 (fun c_81 => ?_) (fun c_81 => ?_)
        · replace hM := ifp hM c_81
          refine lv_aload_n hx hb dX12_goesExpr_70 rfl (lv_at hl 3 rfl) ?_
          refine m_get S hG 80 83 15 rfl ec_83 cpX12 wm_1688 dX12_goesExpr_71 rfl (Nat.lt_of_lt_of_le (Nat.le_of_ble_eq_true rfl) hn) (by decide) ?_
          refine lv_aload_n hx hb dX12_goesExpr_74 rfl (lv_at hl 3 rfl) ?_
          refine m_get S hG 80 83 0 rfl ec_83 cpX12 wm_1673 dX12_goesExpr_75 rfl (Nat.lt_of_lt_of_le (Nat.le_of_ble_eq_true rfl) hn) (by decide) ?_
          refine lv_bipush (v := iI 120) hx hb dX12_goesExpr_78 (by decide) ?_
          refine lv_iload hx hb dX12_goesExpr_80 (lv_at hl 1 rfl) ?_
          refine gi_add hx hb dX12_goesExpr_82 ?_
          obtain ⟨hg_82, hM⟩ := gd_some hM
          refine mi_ald S hG 81 84 rfl ec_84 (Nat.lt_of_lt_of_le (Nat.le_of_ble_eq_true rfl) hn) dX12_goesExpr_83 hg_82 (by decide) ?_
          refine lv_iload_n hx hb dX12_goesExpr_84 rfl (lv_at hl 5 rfl) ?_
          refine lv_iconst (v := iI 0) hx hb dX12_goesExpr_85 (by decide) ?_
          obtain ⟨r_84, hc_83, hM⟩ := bd1_some hM
          refine g_si (As := [.int (iI (S0 84 (120 + v_4))), .int (iI a2), .int (iI 0)]) (rest := [.ref (b + 88), .long (jJ v_3)]) S hG hsz (vX12_place l hn (S0 84 (120 + v_4)) a2 0 hc_83) wS_12_276 dX12_goesExpr_86 rfl hl.1 (ar := 3) (by decide +kernel) rfl (by refine ⟨?_, ?_, ?_, ?_⟩ <;> first | exact Nat.le_of_ble_eq_true rfl | (simp only [gRm]; omega)) (Nat.le_of_ble_eq_true rfl) (fun rv uu H locs hp hG => ?_)
          obtain ⟨rfl, rfl⟩ := hp
          replace hG : gW D cy b n s H locs (enc b cy X S0) := hG
          obtain ⟨hg_85, hM⟩ := gd_some hM
          refine mj_ald S hG 88 91 rfl ec_91 (Nat.lt_of_lt_of_le (Nat.le_of_ble_eq_true rfl) hn) dX12_goesExpr_89 hg_85 (by decide) ?_
          cases hM
          exact hK_76 H locs ls hG (lv_sub hl [1, 2, 3, 4, 5, 6] rfl)
        · replace hM := ifn hM c_81
          refine lv_lconst (v := jJ 0) hx hb dX12_goesExpr_66 (by decide) ?_
          refine lv_goto (tgt := 90) hx hb dX12_goesExpr_67 (by decide) ?_
          cases hM
          exact hK_76 H locs ls hG (lv_sub hl [1, 2, 3, 4, 5, 6] rfl)
      have hK_86 : ∀ (H : Heap) (locs : List Loc) (ls : Array Slot), t_69 = 1 → gW D cy b n s H locs (enc b cy X S0) → lv_has ls 15 [(8, .long (jJ v_3)), (7, .int (iI v_4)), (6, .int (iI v_5)), (0, .ref (b + 80)), (1, .int (iI a1)), (2, .int (iI a2)), (5, .int (iI a4))] → W p l e (gRm (d + 1) 0 0) s m args below meth c H locs 0 0 (gQV D cy b s args below 0 0 (fun u => u = (n, enc b cy X o1))) (F0 m 112 ls []) := by
        intro H locs ls ht hG hl
        subst ht
        replace hM := ifn hM (by decide)
        cases hM
        exact hK_10 H locs ls hG (lv_sub hl [3, 4, 5, 6, 2, 1, 0] rfl)
      clear hM
      replace hM := hc_70
      obtain ⟨hg_87, hM⟩ := gd_some hM
      refine gi_if_ne (tgt := 54) hx hb dX12_goesExpr_25 (by decide) hg_87 (fun c_88 => ?_) (fun c_88 => ?_)
      · replace hM := ifn hM c_88
        cases hM
        exact hK_71 H locs ls rfl hG (lv_sub hl [0, 1, 2, 3, 4, 5, 6] rfl)
      · replace hM := ifp hM c_88
        refine lv_lload hx hb dX12_goesExpr_28 (lv_at hl 0 rfl) ?_
        refine lv_aload_n hx hb dX12_goesExpr_30 rfl (lv_at hl 3 rfl) ?_
        refine m_get S hG 80 83 15 rfl ec_83 cpX12 wm_1688 dX12_goesExpr_31 rfl (Nat.lt_of_lt_of_le (Nat.le_of_ble_eq_true rfl) hn) (by decide) ?_
        refine lv_aload_n hx hb dX12_goesExpr_34 rfl (lv_at hl 3 rfl) ?_
        refine m_get S hG 80 83 0 rfl ec_83 cpX12 wm_1673 dX12_goesExpr_35 rfl (Nat.lt_of_lt_of_le (Nat.le_of_ble_eq_true rfl) hn) (by decide) ?_
        refine lv_bipush (v := iI 120) hx hb dX12_goesExpr_38 (by decide) ?_
        refine lv_iload hx hb dX12_goesExpr_40 (lv_at hl 1 rfl) ?_
        refine gi_add hx hb dX12_goesExpr_42 ?_
        obtain ⟨hg_89, hM⟩ := gd_some hM
        refine mi_ald S hG 81 84 rfl ec_84 (Nat.lt_of_lt_of_le (Nat.le_of_ble_eq_true rfl) hn) dX12_goesExpr_43 hg_89 (by decide) ?_
        refine lv_iload_n hx hb dX12_goesExpr_44 rfl (lv_at hl 5 rfl) ?_
        refine lv_iconst (v := iI 0) hx hb dX12_goesExpr_45 (by decide) ?_
        obtain ⟨r_91, hc_90, hM⟩ := bd1_some hM
        refine g_si (As := [.int (iI (S0 84 (120 + v_4))), .int (iI a2), .int (iI 0)]) (rest := [.ref (b + 88), .long (jJ v_3)]) S hG hsz (vX12_place l hn (S0 84 (120 + v_4)) a2 0 hc_90) wS_12_276 dX12_goesExpr_46 rfl hl.1 (ar := 3) (by decide +kernel) rfl (by refine ⟨?_, ?_, ?_, ?_⟩ <;> first | exact Nat.le_of_ble_eq_true rfl | (simp only [gRm]; omega)) (Nat.le_of_ble_eq_true rfl) (fun rv uu H locs hp hG => ?_)
        obtain ⟨rfl, rfl⟩ := hp
        replace hG : gW D cy b n s H locs (enc b cy X S0) := hG
        obtain ⟨hg_92, hM⟩ := gd_some hM
        refine mj_ald S hG 88 91 rfl ec_91 (Nat.lt_of_lt_of_le (Nat.le_of_ble_eq_true rfl) hn) dX12_goesExpr_49 hg_92 (by decide) ?_
        obtain ⟨hg_93, hM⟩ := gd_some hM
        refine gj_cmp_lt (tgt := 112) hx hb dX12_goesExpr_50 dX12_goesExpr_51 (by decide) hg_93.1 hg_93.2 (fun c_94 => ?_) (fun c_94 => ?_)
        · replace hM := ifp hM c_94
          cases hM
          exact hK_86 H locs ls rfl hG (lv_sub hl [0, 1, 2, 3, 4, 5, 6] rfl)
        · replace hM := ifn hM c_94
          cases hM
          exact hK_71 H locs ls rfl hG (lv_sub hl [0, 1, 2, 3, 4, 5, 6] rfl)
  exact loop_64 FU a3 x_2 0 H locs ls hc_9 hG (lv_sub hl [0, 1, 2, 3, 4, 5, 7] rfl)
def mX12_goesIn_202 (rec : Nat → Int → Int → Int → Int → St → Option (St)) (x_14 : Int) (x_5 : Int) (x_4 : Int) (x_2 : Int) (a4 : Int) : Nat → Int → St → Option (St)
  | 0, _, _ => none
  | f + 1, v_25, S_26 => gd ((inI v_25) ∧ (inI x_14)) <| if x_14 ≤ v_25 then (some (S_26)) else (gd (0 ≤ v_25 ∧ v_25 < 512) <| gd (inI (S_26 98 v_25)) <| bd1 (rec 2 x_4 (S_26 97 v_25) (S_26 98 v_25) a4 S_26) fun S_43 => mX12_goesIn_202 rec x_14 x_5 x_4 x_2 a4 f (v_25 + 1) S_43)
def bX12_goesIn (rec : Nat → Int → Int → Int → Int → St → Option (St)) (S0 : St) (a1 : Int) (a2 : Int) (a3 : Int) (a4 : Int) : Option (St) := gd (0 ≤ (24 + a1) ∧ (24 + a1) < 228) <| nx (S0 84 (24 + a1)) fun x_2 => gd (0 ≤ (72 + a1) ∧ (72 + a1) < 228) <| nx (S0 84 (72 + a1)) fun x_4 => nx (S0 83 31) fun x_5 => nx (up S0 83 32 a3) fun S_6 => gd (0 ≤ (48 + a1) ∧ (48 + a1) < 228) <| bd1 (gd (inI (S_6 84 (48 + a1))) <| if (S_6 84 (48 + a1)) = 0 then (some ((-1))) else (some ((S_6 84 (48 + a1))))) fun z_8 => bd1 (gd (inI x_2) <| if x_2 = 3 then (bd1 (mX12_findsRow S_6 x_4 a2 z_8) fun S_63 => some (S_63)) else (if x_2 = 6 then (bd2 (mX12_seeks S_6 x_4 x_5 a2 z_8) fun r_60 S_61 => some (S_61)) else (if x_2 = 5 then (bd1 (mX12_findsBag S_6 x_4 a2 z_8 1) fun S_58 => some (S_58)) else (bd1 (mX12_findsBag S_6 x_4 a2 z_8 0) fun S_56 => some (S_56))))) fun S_11 => nx (S_11 83 31) fun x_14 => bd1 (gd (inI x_2) <| if x_2 = 4 then (bd1 (mX12_changes S_11 x_5 x_14) fun r_50 => some (r_50)) else (if x_2 = 6 then (bd1 (mX12_turnsIn S_11 x_5 x_14) fun r_48 => some (r_48)) else (some (1)))) fun z_15 => nx (up S_11 83 26 ((S_11 83 26) * z_15)) fun S_18 => gd ((inI (S_18 83 23)) ∧ (inI a4)) <| nx (up S_18 83 23 (max (S_18 83 23) a4)) fun S_20 => bd1 (mJ0_charAt_5068e tx20 (x_2 - 3)) fun r_22 => bd1 (mX12_signs S_20 r_22) fun S_24 => bd1 (mX12_goesIn_202 rec x_14 x_5 x_4 x_2 a4 FU x_5 S_24) fun S_27 => bd1 (mJ0_charAt_5068e tx21 (x_2 - 3)) fun r_31 => bd1 (mX12_signs S_27 r_31) fun S_33 => nx (up S_33 83 31 x_5) fun S_34 => some (S_34)
set_option maxHeartbeats 4000000 in
set_option maxRecDepth 100000 in
theorem spX12_goesIn (l : Launch) {D : va_G} {cy : Nat → ClassId} {b n : Nat} (hn : 102 ≤ n) {X : Nat → va_E} (rec : Nat → Int → Int → Int → Int → St → Option (St)) (d : Nat) (hd : 28 ≤ d) (hr0 : ∀ (S0 : St) (a1 : Int) (a2 : Int) (a3 : Int) (a4 : Int) (o1 : St), rec 0 a1 a2 a3 a4 S0 = some o1 → gV l yX12_goesExpr cX12_goesExpr 15 d 0 0 D cy b n (enc b cy X S0) [.ref (b + 80), .int (iI a1), .int (iI a2), .long (jJ a3), .int (iI a4)] (fun u => u = (n, enc b cy X o1))) (hr1 : ∀ (S0 : St) (a1 : Int) (a2 : Int) (a3 : Int) (a4 : Int) (o1 : St), rec 1 a1 a2 a3 a4 S0 = some o1 → gV l yX12_goesIn cX12_goesIn 12 d 0 0 D cy b n (enc b cy X S0) [.ref (b + 80), .int (iI a1), .int (iI a2), .long (jJ a3), .int (iI a4)] (fun u => u = (n, enc b cy X o1))) (hr2 : ∀ (S0 : St) (a1 : Int) (a2 : Int) (a3 : Int) (a4 : Int) (o1 : St), rec 2 a1 a2 a3 a4 S0 = some o1 → gV l yX12_goesPart cX12_goesPart 6 d 0 0 D cy b n (enc b cy X S0) [.ref (b + 80), .int (iI a1), .int (iI a2), .long (jJ a3), .int (iI a4)] (fun u => u = (n, enc b cy X o1))) (S0 : St) (a1 : Int) (a2 : Int) (a3 : Int) (a4 : Int) (o1 : St) (hM : bX12_goesIn rec S0 a1 a2 a3 a4 = some o1) : gV l yX12_goesIn cX12_goesIn 12 (d + 1) 0 0 D cy b n (enc b cy X S0) [.ref (b + 80), .int (iI a1), .int (iI a2), .long (jJ a3), .int (iI a4)] (fun u => u = (n, enc b cy X o1)) := by
  refine gV_of (by decide) (Nat.le_of_ble_eq_true rfl) ?_
  intro p e s m args below meth c S hr hlk hin hsz ls hl hG
  have hx := S.1
  have hb := S.2.1
  have hl : lv_has ls 12 [(0, .ref (b + 80)), (1, .int (iI a1)), (2, .int (iI a2)), (3, .long (jJ a3)), (5, .int (iI a4))] := hl
  replace hG : gW D cy b n s s.heap [] (enc b cy X S0) := hG
  obtain ⟨H, eH⟩ : ∃ H, H = s.heap := ⟨_, rfl⟩
  obtain ⟨locs, elocs⟩ : ∃ locs : List Loc, locs = [] := ⟨_, rfl⟩
  rw [← eH, ← elocs] at hG
  rw [← eH, ← elocs]
  clear eH elocs
  unfold bX12_goesIn at hM
  refine lv_aload_n hx hb dX12_goesIn_0 rfl (lv_at hl 0 rfl) ?_
  refine m_get S hG 80 83 0 rfl ec_83 cpX12 wm_1673 dX12_goesIn_1 rfl (Nat.lt_of_lt_of_le (Nat.le_of_ble_eq_true rfl) hn) (by decide) ?_
  refine lv_bipush (v := iI 24) hx hb dX12_goesIn_4 (by decide) ?_
  refine lv_iload_n hx hb dX12_goesIn_6 rfl (lv_at hl 1 rfl) ?_
  refine gi_add hx hb dX12_goesIn_7 ?_
  obtain ⟨hg_1, hM⟩ := gd_some hM
  refine mi_ald S hG 81 84 rfl ec_84 (Nat.lt_of_lt_of_le (Nat.le_of_ble_eq_true rfl) hn) dX12_goesIn_8 hg_1 (by decide) ?_
  refine gi_nm (fun x_2 ex_2 => ?_)
  replace hM := nx_at hM ex_2
  clear ex_2
  refine lv_istore (lv' := [(6, .int (iI x_2)), (0, .ref (b + 80)), (1, .int (iI a1)), (2, .int (iI a2)), (3, .long (jJ a3)), (5, .int (iI a4))]) hx hb dX12_goesIn_9 hl (by decide) rfl (fun ls hl => ?_)
  refine lv_aload_n hx hb dX12_goesIn_11 rfl (lv_at hl 1 rfl) ?_
  refine m_get S hG 80 83 0 rfl ec_83 cpX12 wm_1673 dX12_goesIn_12 rfl (Nat.lt_of_lt_of_le (Nat.le_of_ble_eq_true rfl) hn) (by decide) ?_
  refine lv_bipush (v := iI 72) hx hb dX12_goesIn_15 (by decide) ?_
  refine lv_iload_n hx hb dX12_goesIn_17 rfl (lv_at hl 2 rfl) ?_
  refine gi_add hx hb dX12_goesIn_18 ?_
  obtain ⟨hg_3, hM⟩ := gd_some hM
  refine mi_ald S hG 81 84 rfl ec_84 (Nat.lt_of_lt_of_le (Nat.le_of_ble_eq_true rfl) hn) dX12_goesIn_19 hg_3 (by decide) ?_
  refine gi_nm (fun x_4 ex_4 => ?_)
  replace hM := nx_at hM ex_4
  clear ex_4
  refine lv_istore (lv' := [(7, .int (iI x_4)), (6, .int (iI x_2)), (0, .ref (b + 80)), (1, .int (iI a1)), (2, .int (iI a2)), (3, .long (jJ a3)), (5, .int (iI a4))]) hx hb dX12_goesIn_20 hl (by decide) rfl (fun ls hl => ?_)
  refine lv_aload_n hx hb dX12_goesIn_22 rfl (lv_at hl 2 rfl) ?_
  refine m_get S hG 80 83 31 rfl ec_83 cpX12 wm_1704 dX12_goesIn_23 rfl (Nat.lt_of_lt_of_le (Nat.le_of_ble_eq_true rfl) hn) (by decide) ?_
  refine gi_nm (fun x_5 ex_5 => ?_)
  replace hM := nx_at hM ex_5
  clear ex_5
  refine lv_istore (lv' := [(8, .int (iI x_5)), (7, .int (iI x_4)), (6, .int (iI x_2)), (0, .ref (b + 80)), (1, .int (iI a1)), (2, .int (iI a2)), (3, .long (jJ a3)), (5, .int (iI a4))]) hx hb dX12_goesIn_26 hl (by decide) rfl (fun ls hl => ?_)
  refine lv_aload_n hx hb dX12_goesIn_28 rfl (lv_at hl 3 rfl) ?_
  refine lv_lload_n hx hb dX12_goesIn_29 rfl (lv_at hl 6 rfl) ?_
  refine m_put S hG 80 83 32 rfl 32 a3 ec_83 cpX12 wm_1705 dX12_goesIn_30 (pf_83_32) (Nat.lt_of_lt_of_le (Nat.le_of_ble_eq_true rfl) hn) (by decide) (Nat.le_of_ble_eq_true rfl) rfl rfl rfl (fun H locs S_6 eS_6 hG => ?_)
  replace hM := nx_at hM eS_6
  clear eS_6
  refine lv_aload_n hx hb dX12_goesIn_33 rfl (lv_at hl 3 rfl) ?_
  refine m_get S hG 80 83 0 rfl ec_83 cpX12 wm_1673 dX12_goesIn_34 rfl (Nat.lt_of_lt_of_le (Nat.le_of_ble_eq_true rfl) hn) (by decide) ?_
  refine lv_bipush (v := iI 48) hx hb dX12_goesIn_37 (by decide) ?_
  refine lv_iload_n hx hb dX12_goesIn_39 rfl (lv_at hl 4 rfl) ?_
  refine gi_add hx hb dX12_goesIn_40 ?_
  obtain ⟨hg_7, hM⟩ := gd_some hM
  refine mi_ald S hG 81 84 rfl ec_84 (Nat.lt_of_lt_of_le (Nat.le_of_ble_eq_true rfl) hn) dX12_goesIn_41 hg_7 (by decide) ?_
  obtain ⟨z_8, hc_9, hM⟩ := bd1_some hM
  have hK_10 : ∀ (H : Heap) (locs : List Loc) (ls : Array Slot), gW D cy b n s H locs (enc b cy X S_6) → lv_has ls 12 [(8, .int (iI x_5)), (7, .int (iI x_4)), (6, .int (iI x_2)), (0, .ref (b + 80)), (2, .int (iI a2)), (5, .int (iI a4))] → W p l e (gRm (d + 1) 0 0) s m args below meth c H locs 0 0 (gQV D cy b s args below 0 0 (fun u => u = (n, enc b cy X o1))) (F0 m 58 ls [.int (iI z_8)]) := by
    intro H locs ls hG hl
    refine lv_istore (lv' := [(9, .int (iI z_8)), (8, .int (iI x_5)), (7, .int (iI x_4)), (6, .int (iI x_2)), (0, .ref (b + 80)), (2, .int (iI a2)), (5, .int (iI a4))]) hx hb dX12_goesIn_58 hl (by decide) rfl (fun ls hl => ?_)
    refine lv_iload hx hb dX12_goesIn_60 (lv_at hl 3 rfl) ?_
    refine lv_iconst (v := iI 3) hx hb dX12_goesIn_62 (by decide) ?_
    obtain ⟨S_11, hc_12, hM⟩ := bd1_some hM
    have hK_13 : ∀ (H : Heap) (locs : List Loc) (ls : Array Slot), gW D cy b n s H locs (enc b cy X S_11) → lv_has ls 12 [(8, .int (iI x_5)), (7, .int (iI x_4)), (6, .int (iI x_2)), (0, .ref (b + 80)), (5, .int (iI a4))] → W p l e (gRm (d + 1) 0 0) s m args below meth c H locs 0 0 (gQV D cy b s args below 0 0 (fun u => u = (n, enc b cy X o1))) (F0 m 120 ls []) := by
      intro H locs ls hG hl
      refine lv_aload_n hx hb dX12_goesIn_120 rfl (lv_at hl 3 rfl) ?_
      refine m_get S hG 80 83 31 rfl ec_83 cpX12 wm_1704 dX12_goesIn_121 rfl (Nat.lt_of_lt_of_le (Nat.le_of_ble_eq_true rfl) hn) (by decide) ?_
      refine gi_nm (fun x_14 ex_14 => ?_)
      replace hM := nx_at hM ex_14
      clear ex_14
      refine lv_istore (lv' := [(10, .int (iI x_14)), (8, .int (iI x_5)), (7, .int (iI x_4)), (6, .int (iI x_2)), (0, .ref (b + 80)), (5, .int (iI a4))]) hx hb dX12_goesIn_124 hl (by decide) rfl (fun ls hl => ?_)
      refine lv_aload_n hx hb dX12_goesIn_126 rfl (lv_at hl 4 rfl) ?_
      refine lv_dup hx hb dX12_goesIn_127 rfl ?_
      refine m_get S hG 80 83 26 rfl ec_83 cpX12 wm_1699 dX12_goesIn_128 rfl (Nat.lt_of_lt_of_le (Nat.le_of_ble_eq_true rfl) hn) (by decide) ?_
      refine lv_iload hx hb dX12_goesIn_131 (lv_at hl 3 rfl) ?_
      refine lv_iconst (v := iI 4) hx hb dX12_goesIn_133 (by decide) ?_
      obtain ⟨z_15, hc_16, hM⟩ := bd1_some hM
      have hK_17 : ∀ (H : Heap) (locs : List Loc) (ls : Array Slot), gW D cy b n s H locs (enc b cy X S_11) → lv_has ls 12 [(10, .int (iI x_14)), (8, .int (iI x_5)), (7, .int (iI x_4)), (6, .int (iI x_2)), (0, .ref (b + 80)), (5, .int (iI a4))] → W p l e (gRm (d + 1) 0 0) s m args below meth c H locs 0 0 (gQV D cy b s args below 0 0 (fun u => u = (n, enc b cy X o1))) (F0 m 167 ls [.int (iI z_15), .int (iI (S_11 83 26)), .ref (b + 80)]) := by
        intro H locs ls hG hl
        refine gi_mul hx hb dX12_goesIn_167 ?_
        refine m_put S hG 80 83 26 rfl 26 ((S_11 83 26) * z_15) ec_83 cpX12 wm_1699 dX12_goesIn_168 (pf_83_26) (Nat.lt_of_lt_of_le (Nat.le_of_ble_eq_true rfl) hn) (by decide) (Nat.le_of_ble_eq_true rfl) rfl rfl rfl (fun H locs S_18 eS_18 hG => ?_)
        replace hM := nx_at hM eS_18
        clear eS_18
        refine lv_aload_n hx hb dX12_goesIn_171 rfl (lv_at hl 4 rfl) ?_
        refine lv_aload_n hx hb dX12_goesIn_172 rfl (lv_at hl 4 rfl) ?_
        refine m_get S hG 80 83 23 rfl ec_83 cpX12 wm_1696 dX12_goesIn_173 rfl (Nat.lt_of_lt_of_le (Nat.le_of_ble_eq_true rfl) hn) (by decide) ?_
        refine lv_iload hx hb dX12_goesIn_176 (lv_at hl 5 rfl) ?_
        obtain ⟨hg_19, hM⟩ := gd_some hM
        refine gi_max S wm_2258 wm_1338 wm_190 wm_1339 hl.1 dX12_goesIn_178 (by refine ⟨?_, ?_, ?_, ?_⟩ <;> first | exact Nat.le_of_ble_eq_true rfl | (simp only [gRm]; omega)) hg_19.1 hg_19.2 ?_
        refine m_put S hG 80 83 23 rfl 23 (max (S_18 83 23) a4) ec_83 cpX12 wm_1696 dX12_goesIn_181 (pf_83_23) (Nat.lt_of_lt_of_le (Nat.le_of_ble_eq_true rfl) hn) (by decide) (Nat.le_of_ble_eq_true rfl) rfl rfl rfl (fun H locs S_20 eS_20 hG => ?_)
        replace hM := nx_at hM eS_20
        clear eS_20
        refine lv_aload_n hx hb dX12_goesIn_184 rfl (lv_at hl 4 rfl) ?_
        refine va_ldcwS (own := "GrownKindsModel") (index := 443) (tx := "[{<(") hx hb S.2.2.2.1 (hG.1.2.1.2.1 20 _ rfl).1 dX12_goesIn_185 ?_
        refine lv_iload hx hb dX12_goesIn_188 (lv_at hl 3 rfl) ?_
        refine lv_iconst (v := iI 3) hx hb dX12_goesIn_190 (by decide) ?_
        refine gi_sub hx hb dX12_goesIn_191 ?_
        obtain ⟨r_22, hc_21, hM⟩ := bd1_some hM
        refine g_viS (As := [.int (iI (x_2 - 3))]) (rest := [.ref (b + 80)]) S hG hsz (vJ0_charAt_5068e l hn hs20  (x_2 - 3) hc_21) wV_12_157 hs20 rfl dX12_goesIn_192 rfl hl.1 (ar := 1) (by decide +kernel) rfl (by refine ⟨?_, ?_, ?_, ?_⟩ <;> first | exact Nat.le_of_ble_eq_true rfl | (simp only [gRm]; omega)) (Nat.le_of_ble_eq_true rfl) (fun rv uu H locs hp hG => ?_)
        obtain ⟨rfl, rfl⟩ := hp
        replace hG : gW D cy b n s H locs (enc b cy X S_20) := hG
        obtain ⟨S_24, hc_23, hM⟩ := bd1_some hM
        refine g_vv (As := [.int (iI r_22)]) (rest := []) S hG hsz (vX12_signs l hn r_22 hc_23) wV_12_405 (ec_83 _) cpX12 (Nat.lt_of_lt_of_le (Nat.le_of_ble_eq_true rfl) hn) dX12_goesIn_195 rfl hl.1 (ar := 1) (by decide +kernel) rfl (by refine ⟨?_, ?_, ?_, ?_⟩ <;> first | exact Nat.le_of_ble_eq_true rfl | (simp only [gRm]; omega)) (Nat.le_of_ble_eq_true rfl) (fun uu H locs hp hG => ?_)
        obtain rfl := hp
        replace hG : gW D cy b n s H locs (enc b cy X S_24) := hG
        refine lv_iload hx hb dX12_goesIn_198 (lv_at hl 1 rfl) ?_
        refine lv_istore (lv' := [(11, .int (iI x_5)), (10, .int (iI x_14)), (8, .int (iI x_5)), (7, .int (iI x_4)), (6, .int (iI x_2)), (0, .ref (b + 80)), (5, .int (iI a4))]) hx hb dX12_goesIn_200 hl (by decide) rfl (fun ls hl => ?_)
        obtain ⟨S_27, hc_28, hM⟩ := bd1_some hM
        have hK_29 : ∀ (H : Heap) (locs : List Loc) (ls : Array Slot), gW D cy b n s H locs (enc b cy X S_27) → lv_has ls 12 [(8, .int (iI x_5)), (6, .int (iI x_2)), (0, .ref (b + 80))] → W p l e (gRm (d + 1) 0 0) s m args below meth c H locs 0 0 (gQV D cy b s args below 0 0 (fun u => u = (n, enc b cy X o1))) (F0 m 238 ls []) := by
          intro H locs ls hG hl
          refine lv_aload_n hx hb dX12_goesIn_238 rfl (lv_at hl 2 rfl) ?_
          refine va_ldcwS (own := "GrownKindsModel") (index := 445) (tx := "]}>)") hx hb S.2.2.2.1 (hG.1.2.1.2.1 21 _ rfl).1 dX12_goesIn_239 ?_
          refine lv_iload hx hb dX12_goesIn_242 (lv_at hl 1 rfl) ?_
          refine lv_iconst (v := iI 3) hx hb dX12_goesIn_244 (by decide) ?_
          refine gi_sub hx hb dX12_goesIn_245 ?_
          obtain ⟨r_31, hc_30, hM⟩ := bd1_some hM
          refine g_viS (As := [.int (iI (x_2 - 3))]) (rest := [.ref (b + 80)]) S hG hsz (vJ0_charAt_5068e l hn hs21  (x_2 - 3) hc_30) wV_12_157 hs21 rfl dX12_goesIn_246 rfl hl.1 (ar := 1) (by decide +kernel) rfl (by refine ⟨?_, ?_, ?_, ?_⟩ <;> first | exact Nat.le_of_ble_eq_true rfl | (simp only [gRm]; omega)) (Nat.le_of_ble_eq_true rfl) (fun rv uu H locs hp hG => ?_)
          obtain ⟨rfl, rfl⟩ := hp
          replace hG : gW D cy b n s H locs (enc b cy X S_27) := hG
          obtain ⟨S_33, hc_32, hM⟩ := bd1_some hM
          refine g_vv (As := [.int (iI r_31)]) (rest := []) S hG hsz (vX12_signs l hn r_31 hc_32) wV_12_405 (ec_83 _) cpX12 (Nat.lt_of_lt_of_le (Nat.le_of_ble_eq_true rfl) hn) dX12_goesIn_249 rfl hl.1 (ar := 1) (by decide +kernel) rfl (by refine ⟨?_, ?_, ?_, ?_⟩ <;> first | exact Nat.le_of_ble_eq_true rfl | (simp only [gRm]; omega)) (Nat.le_of_ble_eq_true rfl) (fun uu H locs hp hG => ?_)
          obtain rfl := hp
          replace hG : gW D cy b n s H locs (enc b cy X S_33) := hG
          refine lv_aload_n hx hb dX12_goesIn_252 rfl (lv_at hl 2 rfl) ?_
          refine lv_iload hx hb dX12_goesIn_253 (lv_at hl 0 rfl) ?_
          refine m_put S hG 80 83 31 rfl 31 x_5 ec_83 cpX12 wm_1704 dX12_goesIn_255 (pf_83_31) (Nat.lt_of_lt_of_le (Nat.le_of_ble_eq_true rfl) hn) (by decide) (Nat.le_of_ble_eq_true rfl) rfl rfl rfl (fun H locs S_34 eS_34 hG => ?_)
          replace hM := nx_at hM eS_34
          clear eS_34
          cases hM
          exact g_vret S hr hlk hG hsz dX12_goesIn_258 ⟨Nat.le_of_ble_eq_true rfl, Nat.le_of_ble_eq_true rfl⟩ rfl
        have loop_35 : ∀ (f : Nat) (v_25 : Int) (S_26 : St) (H : Heap) (locs : List Loc) (ls : Array Slot), mX12_goesIn_202 rec x_14 x_5 x_4 x_2 a4 f v_25 S_26 = some S_27 → gW D cy b n s H locs (enc b cy X S_26) → lv_has ls 12 [(11, .int (iI v_25)), (10, .int (iI x_14)), (8, .int (iI x_5)), (7, .int (iI x_4)), (6, .int (iI x_2)), (0, .ref (b + 80)), (5, .int (iI a4))] → W p l e (gRm (d + 1) 0 0) s m args below meth c H locs 0 0 (gQV D cy b s args below 0 0 (fun u => u = (n, enc b cy X o1))) (F0 m 202 ls []) := by
          clear hM
          intro f
          induction f with
          | zero => intro v_25 S_26 H locs ls hM; rw [mX12_goesIn_202] at hM; cases hM
          | succ f_37 ih_36 =>
            intro v_25 S_26 H locs ls hM hG hl
            rw [mX12_goesIn_202] at hM
            refine lv_iload hx hb dX12_goesIn_202 (lv_at hl 0 rfl) ?_
            refine lv_iload hx hb dX12_goesIn_204 (lv_at hl 1 rfl) ?_
            obtain ⟨hg_38, hM⟩ := gd_some hM
            refine gi_icmp_ge (tgt := 238) hx hb dX12_goesIn_206 (by decide) hg_38.1 hg_38.2 (fun c_39 => ?_) (fun c_39 => ?_)
            · replace hM := ifp hM c_39
              cases hM
              exact hK_29 H locs ls hG (lv_sub hl [2, 4, 5] rfl)
            · replace hM := ifn hM c_39
              refine lv_aload_n hx hb dX12_goesIn_209 rfl (lv_at hl 5 rfl) ?_
              refine lv_iload hx hb dX12_goesIn_210 (lv_at hl 3 rfl) ?_
              refine lv_aload_n hx hb dX12_goesIn_212 rfl (lv_at hl 5 rfl) ?_
              refine m_get S hG 80 83 29 rfl ec_83 cpX12 wm_1702 dX12_goesIn_213 rfl (Nat.lt_of_lt_of_le (Nat.le_of_ble_eq_true rfl) hn) (by decide) ?_
              refine lv_iload hx hb dX12_goesIn_216 (lv_at hl 0 rfl) ?_
              obtain ⟨hg_40, hM⟩ := gd_some hM
              refine mi_ald S hG 94 97 rfl ec_97 (Nat.lt_of_lt_of_le (Nat.le_of_ble_eq_true rfl) hn) dX12_goesIn_218 hg_40 (by decide) ?_
              refine lv_aload_n hx hb dX12_goesIn_219 rfl (lv_at hl 5 rfl) ?_
              refine m_get S hG 80 83 30 rfl ec_83 cpX12 wm_1703 dX12_goesIn_220 rfl (Nat.lt_of_lt_of_le (Nat.le_of_ble_eq_true rfl) hn) (by decide) ?_
              refine lv_iload hx hb dX12_goesIn_223 (lv_at hl 0 rfl) ?_
              refine mi_ald S hG 95 98 rfl ec_98 (Nat.lt_of_lt_of_le (Nat.le_of_ble_eq_true rfl) hn) dX12_goesIn_225 hg_40 (by decide) ?_
              obtain ⟨hg_41, hM⟩ := gd_some hM
              refine gi_i2l hx hb dX12_goesIn_226 hg_41 ?_
              refine lv_iload hx hb dX12_goesIn_227 (lv_at hl 6 rfl) ?_
              obtain ⟨S_43, hc_42, hM⟩ := bd1_some hM
              refine g_vv (As := [.int (iI x_4), .int (iI (S_26 97 v_25)), .long (jJ (S_26 98 v_25)), .int (iI a4)]) (rest := []) S hG hsz (hr2 _ x_4 (S_26 97 v_25) (S_26 98 v_25) a4 _ hc_42) wV_12_414 (ec_83 _) cpX12 (Nat.lt_of_lt_of_le (Nat.le_of_ble_eq_true rfl) hn) dX12_goesIn_229 rfl hl.1 (ar := 4) (by decide +kernel) rfl (by refine ⟨?_, ?_, ?_, ?_⟩ <;> first | exact Nat.le_of_ble_eq_true rfl | (simp only [gRm]; omega)) (Nat.le_of_ble_eq_true rfl) (fun uu H locs hp hG => ?_)
              obtain rfl := hp
              replace hG : gW D cy b n s H locs (enc b cy X S_43) := hG
              refine lv_iinc (v := iI (v_25 + 1)) (lv' := [(11, .int (iI (v_25 + 1))), (10, .int (iI x_14)), (8, .int (iI x_5)), (7, .int (iI x_4)), (6, .int (iI x_2)), (0, .ref (b + 80)), (5, .int (iI a4))]) hx hb dX12_goesIn_232 hl (k := 0) rfl ((iI_add v_25 (1)).trans (congrArg iI (by omega))) (by decide) rfl (fun ls hl => ?_)
              refine lv_goto (tgt := 202) hx hb dX12_goesIn_235 (by decide) ?_
              exact ih_36 (v_25 + 1) S_43 H locs ls hM hG (lv_sub hl [0, 1, 2, 3, 4, 5, 6] rfl)
        exact loop_35 FU x_5 S_24 H locs ls hc_28 hG (lv_sub hl [0, 1, 2, 3, 4, 5, 6] rfl)
      clear hM
      replace hM := hc_16
      obtain ⟨hg_44, hM⟩ := gd_some hM
      refine gi_icmp_ne (tgt := 148) hx hb dX12_goesIn_134 (by decide) hg_44 (by decide) (fun c_45 => ?_) (fun c_45 => ?_)
      · replace hM := ifn hM c_45
        refine lv_iload hx hb dX12_goesIn_148 (lv_at hl 3 rfl) ?_
        refine lv_bipush (v := iI 6) hx hb dX12_goesIn_150 (by decide) ?_
        refine gi_icmp_ne (tgt := 166) hx hb dX12_goesIn_152 (by decide) hg_44 (by decide) (fun c_46 => ?_) (fun c_46 => ?_)
        · replace hM := ifn hM c_46
          refine lv_iconst (v := iI 1) hx hb dX12_goesIn_166 (by decide) ?_
          cases hM
          exact hK_17 H locs ls hG (lv_sub hl [0, 1, 2, 3, 4, 5] rfl)
        · replace hM := ifp hM c_46
          refine lv_aload_n hx hb dX12_goesIn_155 rfl (lv_at hl 4 rfl) ?_
          refine lv_iload hx hb dX12_goesIn_156 (lv_at hl 1 rfl) ?_
          refine lv_iload hx hb dX12_goesIn_158 (lv_at hl 0 rfl) ?_
          obtain ⟨r_48, hc_47, hM⟩ := bd1_some hM
          refine g_vi (As := [.int (iI x_5), .int (iI x_14)]) (rest := [.int (iI (S_11 83 26)), .ref (b + 80)]) S hG hsz (vX12_turnsIn l hn x_5 x_14 hc_47) wV_12_437 (ec_83 _) cpX12 (Nat.lt_of_lt_of_le (Nat.le_of_ble_eq_true rfl) hn) dX12_goesIn_160 rfl hl.1 (ar := 2) (by decide +kernel) rfl (by refine ⟨?_, ?_, ?_, ?_⟩ <;> first | exact Nat.le_of_ble_eq_true rfl | (simp only [gRm]; omega)) (Nat.le_of_ble_eq_true rfl) (fun rv uu H locs hp hG => ?_)
          obtain ⟨rfl, rfl⟩ := hp
          replace hG : gW D cy b n s H locs (enc b cy X S_11) := hG
          refine lv_goto (tgt := 167) hx hb dX12_goesIn_163 (by decide) ?_
          cases hM
          exact hK_17 H locs ls hG (lv_sub hl [0, 1, 2, 3, 4, 5] rfl)
      · replace hM := ifp hM c_45
        refine lv_aload_n hx hb dX12_goesIn_137 rfl (lv_at hl 4 rfl) ?_
        refine lv_iload hx hb dX12_goesIn_138 (lv_at hl 1 rfl) ?_
        refine lv_iload hx hb dX12_goesIn_140 (lv_at hl 0 rfl) ?_
        obtain ⟨r_50, hc_49, hM⟩ := bd1_some hM
        refine g_vi (As := [.int (iI x_5), .int (iI x_14)]) (rest := [.int (iI (S_11 83 26)), .ref (b + 80)]) S hG hsz (vX12_changes l hn x_5 x_14 hc_49) wV_12_434 (ec_83 _) cpX12 (Nat.lt_of_lt_of_le (Nat.le_of_ble_eq_true rfl) hn) dX12_goesIn_142 rfl hl.1 (ar := 2) (by decide +kernel) rfl (by refine ⟨?_, ?_, ?_, ?_⟩ <;> first | exact Nat.le_of_ble_eq_true rfl | (simp only [gRm]; omega)) (Nat.le_of_ble_eq_true rfl) (fun rv uu H locs hp hG => ?_)
        obtain ⟨rfl, rfl⟩ := hp
        replace hG : gW D cy b n s H locs (enc b cy X S_11) := hG
        refine lv_goto (tgt := 167) hx hb dX12_goesIn_145 (by decide) ?_
        cases hM
        exact hK_17 H locs ls hG (lv_sub hl [0, 1, 2, 3, 4, 5] rfl)
    clear hM
    replace hM := hc_12
    obtain ⟨hg_51, hM⟩ := gd_some hM
    refine gi_icmp_ne (tgt := 78) hx hb dX12_goesIn_63 (by decide) hg_51 (by decide) (fun c_52 => ?_) (fun c_52 => ?_)
    · replace hM := ifn hM c_52
      refine lv_iload hx hb dX12_goesIn_78 (lv_at hl 3 rfl) ?_
      refine lv_bipush (v := iI 6) hx hb dX12_goesIn_80 (by decide) ?_
      refine gi_icmp_ne (tgt := 100) hx hb dX12_goesIn_82 (by decide) hg_51 (by decide) (fun c_53 => ?_) (fun c_53 => ?_)
      · replace hM := ifn hM c_53
        refine lv_aload_n hx hb dX12_goesIn_100 rfl (lv_at hl 4 rfl) ?_
        refine lv_iload hx hb dX12_goesIn_101 (lv_at hl 2 rfl) ?_
        refine lv_iload_n hx hb dX12_goesIn_103 rfl (lv_at hl 5 rfl) ?_
        refine lv_iload hx hb dX12_goesIn_104 (lv_at hl 0 rfl) ?_
        refine lv_iload hx hb dX12_goesIn_106 (lv_at hl 3 rfl) ?_
        refine lv_iconst (v := iI 5) hx hb dX12_goesIn_108 (by decide) ?_
        refine gi_icmp_ne (tgt := 116) hx hb dX12_goesIn_109 (by decide) hg_51 (by decide) (fun c_54 => ?_) (fun c_54 => ?_)
        · replace hM := ifn hM c_54
          refine lv_iconst (v := iI 0) hx hb dX12_goesIn_116 (by decide) ?_
          obtain ⟨S_56, hc_55, hM⟩ := bd1_some hM
          refine g_vv (As := [.int (iI x_4), .int (iI a2), .int (iI z_8), .int (iI 0)]) (rest := []) S hG hsz (vX12_findsBag l hn x_4 a2 z_8 0 hc_55) wV_12_431 (ec_83 _) cpX12 (Nat.lt_of_lt_of_le (Nat.le_of_ble_eq_true rfl) hn) dX12_goesIn_117 rfl hl.1 (ar := 4) (by decide +kernel) rfl (by refine ⟨?_, ?_, ?_, ?_⟩ <;> first | exact Nat.le_of_ble_eq_true rfl | (simp only [gRm]; omega)) (Nat.le_of_ble_eq_true rfl) (fun uu H locs hp hG => ?_)
          obtain rfl := hp
          replace hG : gW D cy b n s H locs (enc b cy X S_56) := hG
          cases hM
          exact hK_13 H locs ls hG (lv_sub hl [1, 2, 3, 4, 6] rfl)
        · replace hM := ifp hM c_54
          refine lv_iconst (v := iI 1) hx hb dX12_goesIn_112 (by decide) ?_
          refine lv_goto (tgt := 117) hx hb dX12_goesIn_113 (by decide) ?_
          obtain ⟨S_58, hc_57, hM⟩ := bd1_some hM
          refine g_vv (As := [.int (iI x_4), .int (iI a2), .int (iI z_8), .int (iI 1)]) (rest := []) S hG hsz (vX12_findsBag l hn x_4 a2 z_8 1 hc_57) wV_12_431 (ec_83 _) cpX12 (Nat.lt_of_lt_of_le (Nat.le_of_ble_eq_true rfl) hn) dX12_goesIn_117 rfl hl.1 (ar := 4) (by decide +kernel) rfl (by refine ⟨?_, ?_, ?_, ?_⟩ <;> first | exact Nat.le_of_ble_eq_true rfl | (simp only [gRm]; omega)) (Nat.le_of_ble_eq_true rfl) (fun uu H locs hp hG => ?_)
          obtain rfl := hp
          replace hG : gW D cy b n s H locs (enc b cy X S_58) := hG
          cases hM
          exact hK_13 H locs ls hG (lv_sub hl [1, 2, 3, 4, 6] rfl)
      · replace hM := ifp hM c_53
        refine lv_aload_n hx hb dX12_goesIn_85 rfl (lv_at hl 4 rfl) ?_
        refine lv_iload hx hb dX12_goesIn_86 (lv_at hl 2 rfl) ?_
        refine lv_iload hx hb dX12_goesIn_88 (lv_at hl 1 rfl) ?_
        refine lv_iload_n hx hb dX12_goesIn_90 rfl (lv_at hl 5 rfl) ?_
        refine lv_iload hx hb dX12_goesIn_91 (lv_at hl 0 rfl) ?_
        obtain ⟨r_60, S_61, hc_59, hM⟩ := bd2_some hM
        refine g_vi (As := [.int (iI x_4), .int (iI x_5), .int (iI a2), .int (iI z_8)]) (rest := []) S hG hsz (vX12_seeks l hn x_4 x_5 a2 z_8 hc_59) wV_12_427 (ec_83 _) cpX12 (Nat.lt_of_lt_of_le (Nat.le_of_ble_eq_true rfl) hn) dX12_goesIn_93 rfl hl.1 (ar := 4) (by decide +kernel) rfl (by refine ⟨?_, ?_, ?_, ?_⟩ <;> first | exact Nat.le_of_ble_eq_true rfl | (simp only [gRm]; omega)) (Nat.le_of_ble_eq_true rfl) (fun rv uu H locs hp hG => ?_)
        obtain ⟨rfl, rfl⟩ := hp
        replace hG : gW D cy b n s H locs (enc b cy X S_61) := hG
        refine lv_pop hx hb dX12_goesIn_96 rfl ?_
        refine lv_goto (tgt := 120) hx hb dX12_goesIn_97 (by decide) ?_
        cases hM
        exact hK_13 H locs ls hG (lv_sub hl [1, 2, 3, 4, 6] rfl)
    · replace hM := ifp hM c_52
      refine lv_aload_n hx hb dX12_goesIn_66 rfl (lv_at hl 4 rfl) ?_
      refine lv_iload hx hb dX12_goesIn_67 (lv_at hl 2 rfl) ?_
      refine lv_iload_n hx hb dX12_goesIn_69 rfl (lv_at hl 5 rfl) ?_
      refine lv_iload hx hb dX12_goesIn_70 (lv_at hl 0 rfl) ?_
      obtain ⟨S_63, hc_62, hM⟩ := bd1_some hM
      refine g_vv (As := [.int (iI x_4), .int (iI a2), .int (iI z_8)]) (rest := []) S hG hsz (vX12_findsRow l hn x_4 a2 z_8 hc_62) wV_12_424 (ec_83 _) cpX12 (Nat.lt_of_lt_of_le (Nat.le_of_ble_eq_true rfl) hn) dX12_goesIn_72 rfl hl.1 (ar := 3) (by decide +kernel) rfl (by refine ⟨?_, ?_, ?_, ?_⟩ <;> first | exact Nat.le_of_ble_eq_true rfl | (simp only [gRm]; omega)) (Nat.le_of_ble_eq_true rfl) (fun uu H locs hp hG => ?_)
      obtain rfl := hp
      replace hG : gW D cy b n s H locs (enc b cy X S_63) := hG
      refine lv_goto (tgt := 120) hx hb dX12_goesIn_75 (by decide) ?_
      cases hM
      exact hK_13 H locs ls hG (lv_sub hl [1, 2, 3, 4, 6] rfl)
  clear hM
  replace hM := hc_9
  obtain ⟨hg_64, hM⟩ := gd_some hM
  refine gi_if_ne (tgt := 49) hx hb dX12_goesIn_42 (by decide) hg_64 (fun c_65 => ?_) (fun c_65 => ?_)
  · replace hM := ifn hM c_65
    refine lv_aload_n hx hb dX12_goesIn_49 rfl (lv_at hl 3 rfl) ?_
    refine m_get S hG 80 83 0 rfl ec_83 cpX12 wm_1673 dX12_goesIn_50 rfl (Nat.lt_of_lt_of_le (Nat.le_of_ble_eq_true rfl) hn) (by decide) ?_
    refine lv_bipush (v := iI 48) hx hb dX12_goesIn_53 (by decide) ?_
    refine lv_iload_n hx hb dX12_goesIn_55 rfl (lv_at hl 4 rfl) ?_
    refine gi_add hx hb dX12_goesIn_56 ?_
    refine mi_ald S hG 81 84 rfl ec_84 (Nat.lt_of_lt_of_le (Nat.le_of_ble_eq_true rfl) hn) dX12_goesIn_57 hg_7 (by decide) ?_
    cases hM
    exact hK_10 H locs ls hG (lv_sub hl [0, 1, 2, 3, 5, 7] rfl)
  · replace hM := ifp hM c_65
    refine lv_iconst (v := iI (-1)) hx hb dX12_goesIn_45 (by decide) ?_
    refine lv_goto (tgt := 58) hx hb dX12_goesIn_46 (by decide) ?_
    cases hM
    exact hK_10 H locs ls hG (lv_sub hl [0, 1, 2, 3, 5, 7] rfl)
def bX12_goesPart (rec : Nat → Int → Int → Int → Int → St → Option (St)) (S0 : St) (a1 : Int) (a2 : Int) (a3 : Int) (a4 : Int) : Option (St) := gd (0 ≤ (24 + a1) ∧ (24 + a1) < 228) <| nx (S0 84 (24 + a1)) fun x_2 => gd (inI x_2) <| if x_2 = 0 then (gd (0 ≤ (48 + a1) ∧ (48 + a1) < 228) <| bd1 (gd ((inI (S0 84 (48 + a1))) ∧ (inI (S0 83 24))) <| if (S0 84 (48 + a1)) = (S0 83 24) then (some (1)) else (some (0))) fun z_6 => nx (up S0 83 25 ((S0 83 25) + z_6)) fun S_9 => bd1 (mX12_signs S_9 (97 + (S_9 84 (48 + a1)))) fun S_11 => some (S_11)) else (if x_2 = 1 then (bd1 (mX12_signs S0 45) fun S_15 => some (S_15)) else (if x_2 = 2 then (gd (0 ≤ (48 + a1) ∧ (48 + a1) < 228) <| bd1 (rec 0 (S0 84 (48 + a1)) a2 a3 a4 S0) fun S_18 => some (S_18)) else (if x_2 = 3 then (bd1 (rec 1 a1 a2 a3 (a4 + 1) S0) fun S_20 => some (S_20)) else (if x_2 = 4 then (bd1 (rec 1 a1 a2 a3 (a4 + 1) S0) fun S_22 => some (S_22)) else (if x_2 = 5 then (bd1 (rec 1 a1 a2 a3 (a4 + 1) S0) fun S_24 => some (S_24)) else (if x_2 = 6 then (bd1 (rec 1 a1 a2 a3 (a4 + 1) S0) fun S_26 => some (S_26)) else (if x_2 = 7 then (gd (0 ≤ (48 + a1) ∧ (48 + a1) < 228) <| bd1 (rec 0 (S0 84 (48 + a1)) a2 a3 a4 S0) fun S_29 => some (S_29)) else (bd1 (rec 1 a1 a2 a3 (a4 + 1) S0) fun S_31 => some (S_31)))))))))
set_option maxHeartbeats 4000000 in
set_option maxRecDepth 100000 in
theorem spX12_goesPart (l : Launch) {D : va_G} {cy : Nat → ClassId} {b n : Nat} (hn : 102 ≤ n) {X : Nat → va_E} (rec : Nat → Int → Int → Int → Int → St → Option (St)) (d : Nat) (hd : 28 ≤ d) (hr0 : ∀ (S0 : St) (a1 : Int) (a2 : Int) (a3 : Int) (a4 : Int) (o1 : St), rec 0 a1 a2 a3 a4 S0 = some o1 → gV l yX12_goesExpr cX12_goesExpr 15 d 0 0 D cy b n (enc b cy X S0) [.ref (b + 80), .int (iI a1), .int (iI a2), .long (jJ a3), .int (iI a4)] (fun u => u = (n, enc b cy X o1))) (hr1 : ∀ (S0 : St) (a1 : Int) (a2 : Int) (a3 : Int) (a4 : Int) (o1 : St), rec 1 a1 a2 a3 a4 S0 = some o1 → gV l yX12_goesIn cX12_goesIn 12 d 0 0 D cy b n (enc b cy X S0) [.ref (b + 80), .int (iI a1), .int (iI a2), .long (jJ a3), .int (iI a4)] (fun u => u = (n, enc b cy X o1))) (hr2 : ∀ (S0 : St) (a1 : Int) (a2 : Int) (a3 : Int) (a4 : Int) (o1 : St), rec 2 a1 a2 a3 a4 S0 = some o1 → gV l yX12_goesPart cX12_goesPart 6 d 0 0 D cy b n (enc b cy X S0) [.ref (b + 80), .int (iI a1), .int (iI a2), .long (jJ a3), .int (iI a4)] (fun u => u = (n, enc b cy X o1))) (S0 : St) (a1 : Int) (a2 : Int) (a3 : Int) (a4 : Int) (o1 : St) (hM : bX12_goesPart rec S0 a1 a2 a3 a4 = some o1) : gV l yX12_goesPart cX12_goesPart 6 (d + 1) 0 0 D cy b n (enc b cy X S0) [.ref (b + 80), .int (iI a1), .int (iI a2), .long (jJ a3), .int (iI a4)] (fun u => u = (n, enc b cy X o1)) := by
  refine gV_of (by decide) (Nat.le_of_ble_eq_true rfl) ?_
  intro p e s m args below meth c S hr hlk hin hsz ls hl hG
  have hx := S.1
  have hb := S.2.1
  have hl : lv_has ls 6 [(0, .ref (b + 80)), (1, .int (iI a1)), (2, .int (iI a2)), (3, .long (jJ a3)), (5, .int (iI a4))] := hl
  replace hG : gW D cy b n s s.heap [] (enc b cy X S0) := hG
  obtain ⟨H, eH⟩ : ∃ H, H = s.heap := ⟨_, rfl⟩
  obtain ⟨locs, elocs⟩ : ∃ locs : List Loc, locs = [] := ⟨_, rfl⟩
  rw [← eH, ← elocs] at hG
  rw [← eH, ← elocs]
  clear eH elocs
  unfold bX12_goesPart at hM
  refine lv_aload_n hx hb dX12_goesPart_0 rfl (lv_at hl 0 rfl) ?_
  refine m_get S hG 80 83 0 rfl ec_83 cpX12 wm_1673 dX12_goesPart_1 rfl (Nat.lt_of_lt_of_le (Nat.le_of_ble_eq_true rfl) hn) (by decide) ?_
  refine lv_bipush (v := iI 24) hx hb dX12_goesPart_4 (by decide) ?_
  refine lv_iload_n hx hb dX12_goesPart_6 rfl (lv_at hl 1 rfl) ?_
  refine gi_add hx hb dX12_goesPart_7 ?_
  obtain ⟨hg_1, hM⟩ := gd_some hM
  refine mi_ald S hG 81 84 rfl ec_84 (Nat.lt_of_lt_of_le (Nat.le_of_ble_eq_true rfl) hn) dX12_goesPart_8 hg_1 (by decide) ?_
  refine gi_nm (fun x_2 ex_2 => ?_)
  replace hM := nx_at hM ex_2
  clear ex_2
  obtain ⟨hg_3, hM⟩ := gd_some hM
  rcases (show x_2 = 0 ∨ x_2 = 1 ∨ x_2 = 2 ∨ x_2 = 3 ∨ x_2 = 4 ∨ x_2 = 5 ∨ x_2 = 6 ∨ x_2 = 7 ∨ (x_2 < 0 ∨ 7 < x_2) by omega) with hs_4 | hs_4 | hs_4 | hs_4 | hs_4 | hs_4 | hs_4 | hs_4 | hs_4
  · replace hM := ifp hM hs_4
    refine gi_tsI (off := 47) (tgt := 56) hx hb 0 dX12_goesPart_9 hg_3 (by omega) (by omega) (by rfl) (by decide) ?_
    refine lv_aload_n hx hb dX12_goesPart_56 rfl (lv_at hl 0 rfl) ?_
    refine lv_dup hx hb dX12_goesPart_57 rfl ?_
    refine m_get S hG 80 83 25 rfl ec_83 cpX12 wm_1698 dX12_goesPart_58 rfl (Nat.lt_of_lt_of_le (Nat.le_of_ble_eq_true rfl) hn) (by decide) ?_
    refine lv_aload_n hx hb dX12_goesPart_61 rfl (lv_at hl 0 rfl) ?_
    refine m_get S hG 80 83 0 rfl ec_83 cpX12 wm_1673 dX12_goesPart_62 rfl (Nat.lt_of_lt_of_le (Nat.le_of_ble_eq_true rfl) hn) (by decide) ?_
    refine lv_bipush (v := iI 48) hx hb dX12_goesPart_65 (by decide) ?_
    refine lv_iload_n hx hb dX12_goesPart_67 rfl (lv_at hl 1 rfl) ?_
    refine gi_add hx hb dX12_goesPart_68 ?_
    obtain ⟨hg_5, hM⟩ := gd_some hM
    refine mi_ald S hG 81 84 rfl ec_84 (Nat.lt_of_lt_of_le (Nat.le_of_ble_eq_true rfl) hn) dX12_goesPart_69 hg_5 (by decide) ?_
    refine lv_aload_n hx hb dX12_goesPart_70 rfl (lv_at hl 0 rfl) ?_
    refine m_get S hG 80 83 24 rfl ec_83 cpX12 wm_1697 dX12_goesPart_71 rfl (Nat.lt_of_lt_of_le (Nat.le_of_ble_eq_true rfl) hn) (by decide) ?_
    obtain ⟨z_6, hc_7, hM⟩ := bd1_some hM
    have hK_8 : ∀ (H : Heap) (locs : List Loc) (ls : Array Slot), gW D cy b n s H locs (enc b cy X S0) → lv_has ls 6 [(0, .ref (b + 80)), (1, .int (iI a1))] → W p l e (gRm (d + 1) 0 0) s m args below meth c H locs 0 0 (gQV D cy b s args below 0 0 (fun u => u = (n, enc b cy X o1))) (F0 m 82 ls [.int (iI z_6), .int (iI (S0 83 25)), .ref (b + 80)]) := by
      intro H locs ls hG hl
      refine gi_add hx hb dX12_goesPart_82 ?_
      refine m_put S hG 80 83 25 rfl 25 ((S0 83 25) + z_6) ec_83 cpX12 wm_1698 dX12_goesPart_83 (pf_83_25) (Nat.lt_of_lt_of_le (Nat.le_of_ble_eq_true rfl) hn) (by decide) (Nat.le_of_ble_eq_true rfl) rfl rfl rfl (fun H locs S_9 eS_9 hG => ?_)
      replace hM := nx_at hM eS_9
      clear eS_9
      refine lv_aload_n hx hb dX12_goesPart_86 rfl (lv_at hl 0 rfl) ?_
      refine lv_bipush (v := iI 97) hx hb dX12_goesPart_87 (by decide) ?_
      refine lv_aload_n hx hb dX12_goesPart_89 rfl (lv_at hl 0 rfl) ?_
      refine m_get S hG 80 83 0 rfl ec_83 cpX12 wm_1673 dX12_goesPart_90 rfl (Nat.lt_of_lt_of_le (Nat.le_of_ble_eq_true rfl) hn) (by decide) ?_
      refine lv_bipush (v := iI 48) hx hb dX12_goesPart_93 (by decide) ?_
      refine lv_iload_n hx hb dX12_goesPart_95 rfl (lv_at hl 1 rfl) ?_
      refine gi_add hx hb dX12_goesPart_96 ?_
      refine mi_ald S hG 81 84 rfl ec_84 (Nat.lt_of_lt_of_le (Nat.le_of_ble_eq_true rfl) hn) dX12_goesPart_97 hg_5 (by decide) ?_
      refine gi_add hx hb dX12_goesPart_98 ?_
      obtain ⟨S_11, hc_10, hM⟩ := bd1_some hM
      refine g_vv (As := [.int (iI (97 + (S_9 84 (48 + a1))))]) (rest := []) S hG hsz (vX12_signs l hn (97 + (S_9 84 (48 + a1))) hc_10) wV_12_405 (ec_83 _) cpX12 (Nat.lt_of_lt_of_le (Nat.le_of_ble_eq_true rfl) hn) dX12_goesPart_99 rfl hl.1 (ar := 1) (by decide +kernel) rfl (by refine ⟨?_, ?_, ?_, ?_⟩ <;> first | exact Nat.le_of_ble_eq_true rfl | (simp only [gRm]; omega)) (Nat.le_of_ble_eq_true rfl) (fun uu H locs hp hG => ?_)
      obtain rfl := hp
      replace hG : gW D cy b n s H locs (enc b cy X S_11) := hG
      refine lv_goto (tgt := 165) hx hb dX12_goesPart_102 (by decide) ?_
      cases hM
      exact g_vret S hr hlk hG hsz dX12_goesPart_165 ⟨Nat.le_of_ble_eq_true rfl, Nat.le_of_ble_eq_true rfl⟩ rfl
    clear hM
    replace hM := hc_7
    obtain ⟨hg_12, hM⟩ := gd_some hM
    refine gi_icmp_ne (tgt := 81) hx hb dX12_goesPart_74 (by decide) hg_12.1 hg_12.2 (fun c_13 => ?_) (fun c_13 => ?_)
    · replace hM := ifn hM c_13
      refine lv_iconst (v := iI 0) hx hb dX12_goesPart_81 (by decide) ?_
      cases hM
      exact hK_8 H locs ls hG (lv_sub hl [0, 1] rfl)
    · replace hM := ifp hM c_13
      refine lv_iconst (v := iI 1) hx hb dX12_goesPart_77 (by decide) ?_
      refine lv_goto (tgt := 82) hx hb dX12_goesPart_78 (by decide) ?_
      cases hM
      exact hK_8 H locs ls hG (lv_sub hl [0, 1] rfl)
  · replace hM := ifn hM (by omega)
    replace hM := ifp hM hs_4
    refine gi_tsI (off := 96) (tgt := 105) hx hb 1 dX12_goesPart_9 hg_3 (by omega) (by omega) (by rfl) (by decide) ?_
    refine lv_aload_n hx hb dX12_goesPart_105 rfl (lv_at hl 0 rfl) ?_
    refine lv_bipush (v := iI 45) hx hb dX12_goesPart_106 (by decide) ?_
    obtain ⟨S_15, hc_14, hM⟩ := bd1_some hM
    refine g_vv (As := [.int (iI 45)]) (rest := []) S hG hsz (vX12_signs l hn 45 hc_14) wV_12_405 (ec_83 _) cpX12 (Nat.lt_of_lt_of_le (Nat.le_of_ble_eq_true rfl) hn) dX12_goesPart_108 rfl hl.1 (ar := 1) (by decide +kernel) rfl (by refine ⟨?_, ?_, ?_, ?_⟩ <;> first | exact Nat.le_of_ble_eq_true rfl | (simp only [gRm]; omega)) (Nat.le_of_ble_eq_true rfl) (fun uu H locs hp hG => ?_)
    obtain rfl := hp
    replace hG : gW D cy b n s H locs (enc b cy X S_15) := hG
    refine lv_goto (tgt := 165) hx hb dX12_goesPart_111 (by decide) ?_
    cases hM
    exact g_vret S hr hlk hG hsz dX12_goesPart_165 ⟨Nat.le_of_ble_eq_true rfl, Nat.le_of_ble_eq_true rfl⟩ rfl
  · replace hM := ifn hM (by omega)
    replace hM := ifn hM (by omega)
    replace hM := ifp hM hs_4
    refine gi_tsI (off := 105) (tgt := 114) hx hb 2 dX12_goesPart_9 hg_3 (by omega) (by omega) (by rfl) (by decide) ?_
    refine lv_aload_n hx hb dX12_goesPart_114 rfl (lv_at hl 0 rfl) ?_
    refine lv_aload_n hx hb dX12_goesPart_115 rfl (lv_at hl 0 rfl) ?_
    refine m_get S hG 80 83 0 rfl ec_83 cpX12 wm_1673 dX12_goesPart_116 rfl (Nat.lt_of_lt_of_le (Nat.le_of_ble_eq_true rfl) hn) (by decide) ?_
    refine lv_bipush (v := iI 48) hx hb dX12_goesPart_119 (by decide) ?_
    refine lv_iload_n hx hb dX12_goesPart_121 rfl (lv_at hl 1 rfl) ?_
    refine gi_add hx hb dX12_goesPart_122 ?_
    obtain ⟨hg_16, hM⟩ := gd_some hM
    refine mi_ald S hG 81 84 rfl ec_84 (Nat.lt_of_lt_of_le (Nat.le_of_ble_eq_true rfl) hn) dX12_goesPart_123 hg_16 (by decide) ?_
    refine lv_iload_n hx hb dX12_goesPart_124 rfl (lv_at hl 2 rfl) ?_
    refine lv_lload_n hx hb dX12_goesPart_125 rfl (lv_at hl 3 rfl) ?_
    refine lv_iload hx hb dX12_goesPart_126 (lv_at hl 4 rfl) ?_
    obtain ⟨S_18, hc_17, hM⟩ := bd1_some hM
    refine g_vv (As := [.int (iI (S0 84 (48 + a1))), .int (iI a2), .long (jJ a3), .int (iI a4)]) (rest := []) S hG hsz (hr0 _ (S0 84 (48 + a1)) a2 a3 a4 _ hc_17) wV_12_401 (ec_83 _) cpX12 (Nat.lt_of_lt_of_le (Nat.le_of_ble_eq_true rfl) hn) dX12_goesPart_128 rfl hl.1 (ar := 4) (by decide +kernel) rfl (by refine ⟨?_, ?_, ?_, ?_⟩ <;> first | exact Nat.le_of_ble_eq_true rfl | (simp only [gRm]; omega)) (Nat.le_of_ble_eq_true rfl) (fun uu H locs hp hG => ?_)
    obtain rfl := hp
    replace hG : gW D cy b n s H locs (enc b cy X S_18) := hG
    refine lv_goto (tgt := 165) hx hb dX12_goesPart_131 (by decide) ?_
    cases hM
    exact g_vret S hr hlk hG hsz dX12_goesPart_165 ⟨Nat.le_of_ble_eq_true rfl, Nat.le_of_ble_eq_true rfl⟩ rfl
  · replace hM := ifn hM (by omega)
    replace hM := ifn hM (by omega)
    replace hM := ifn hM (by omega)
    replace hM := ifp hM hs_4
    refine gi_tsI (off := 145) (tgt := 154) hx hb 3 dX12_goesPart_9 hg_3 (by omega) (by omega) (by rfl) (by decide) ?_
    refine lv_aload_n hx hb dX12_goesPart_154 rfl (lv_at hl 0 rfl) ?_
    refine lv_iload_n hx hb dX12_goesPart_155 rfl (lv_at hl 1 rfl) ?_
    refine lv_iload_n hx hb dX12_goesPart_156 rfl (lv_at hl 2 rfl) ?_
    refine lv_lload_n hx hb dX12_goesPart_157 rfl (lv_at hl 3 rfl) ?_
    refine lv_iload hx hb dX12_goesPart_158 (lv_at hl 4 rfl) ?_
    refine lv_iconst (v := iI 1) hx hb dX12_goesPart_160 (by decide) ?_
    refine gi_add hx hb dX12_goesPart_161 ?_
    obtain ⟨S_20, hc_19, hM⟩ := bd1_some hM
    refine g_vv (As := [.int (iI a1), .int (iI a2), .long (jJ a3), .int (iI (a4 + 1))]) (rest := []) S hG hsz (hr1 _ a1 a2 a3 (a4 + 1) _ hc_19) wV_12_417 (ec_83 _) cpX12 (Nat.lt_of_lt_of_le (Nat.le_of_ble_eq_true rfl) hn) dX12_goesPart_162 rfl hl.1 (ar := 4) (by decide +kernel) rfl (by refine ⟨?_, ?_, ?_, ?_⟩ <;> first | exact Nat.le_of_ble_eq_true rfl | (simp only [gRm]; omega)) (Nat.le_of_ble_eq_true rfl) (fun uu H locs hp hG => ?_)
    obtain rfl := hp
    replace hG : gW D cy b n s H locs (enc b cy X S_20) := hG
    cases hM
    exact g_vret S hr hlk hG hsz dX12_goesPart_165 ⟨Nat.le_of_ble_eq_true rfl, Nat.le_of_ble_eq_true rfl⟩ rfl
  · replace hM := ifn hM (by omega)
    replace hM := ifn hM (by omega)
    replace hM := ifn hM (by omega)
    replace hM := ifn hM (by omega)
    replace hM := ifp hM hs_4
    refine gi_tsI (off := 145) (tgt := 154) hx hb 4 dX12_goesPart_9 hg_3 (by omega) (by omega) (by rfl) (by decide) ?_
    refine lv_aload_n hx hb dX12_goesPart_154 rfl (lv_at hl 0 rfl) ?_
    refine lv_iload_n hx hb dX12_goesPart_155 rfl (lv_at hl 1 rfl) ?_
    refine lv_iload_n hx hb dX12_goesPart_156 rfl (lv_at hl 2 rfl) ?_
    refine lv_lload_n hx hb dX12_goesPart_157 rfl (lv_at hl 3 rfl) ?_
    refine lv_iload hx hb dX12_goesPart_158 (lv_at hl 4 rfl) ?_
    refine lv_iconst (v := iI 1) hx hb dX12_goesPart_160 (by decide) ?_
    refine gi_add hx hb dX12_goesPart_161 ?_
    obtain ⟨S_22, hc_21, hM⟩ := bd1_some hM
    refine g_vv (As := [.int (iI a1), .int (iI a2), .long (jJ a3), .int (iI (a4 + 1))]) (rest := []) S hG hsz (hr1 _ a1 a2 a3 (a4 + 1) _ hc_21) wV_12_417 (ec_83 _) cpX12 (Nat.lt_of_lt_of_le (Nat.le_of_ble_eq_true rfl) hn) dX12_goesPart_162 rfl hl.1 (ar := 4) (by decide +kernel) rfl (by refine ⟨?_, ?_, ?_, ?_⟩ <;> first | exact Nat.le_of_ble_eq_true rfl | (simp only [gRm]; omega)) (Nat.le_of_ble_eq_true rfl) (fun uu H locs hp hG => ?_)
    obtain rfl := hp
    replace hG : gW D cy b n s H locs (enc b cy X S_22) := hG
    cases hM
    exact g_vret S hr hlk hG hsz dX12_goesPart_165 ⟨Nat.le_of_ble_eq_true rfl, Nat.le_of_ble_eq_true rfl⟩ rfl
  · replace hM := ifn hM (by omega)
    replace hM := ifn hM (by omega)
    replace hM := ifn hM (by omega)
    replace hM := ifn hM (by omega)
    replace hM := ifn hM (by omega)
    replace hM := ifp hM hs_4
    refine gi_tsI (off := 145) (tgt := 154) hx hb 5 dX12_goesPart_9 hg_3 (by omega) (by omega) (by rfl) (by decide) ?_
    refine lv_aload_n hx hb dX12_goesPart_154 rfl (lv_at hl 0 rfl) ?_
    refine lv_iload_n hx hb dX12_goesPart_155 rfl (lv_at hl 1 rfl) ?_
    refine lv_iload_n hx hb dX12_goesPart_156 rfl (lv_at hl 2 rfl) ?_
    refine lv_lload_n hx hb dX12_goesPart_157 rfl (lv_at hl 3 rfl) ?_
    refine lv_iload hx hb dX12_goesPart_158 (lv_at hl 4 rfl) ?_
    refine lv_iconst (v := iI 1) hx hb dX12_goesPart_160 (by decide) ?_
    refine gi_add hx hb dX12_goesPart_161 ?_
    obtain ⟨S_24, hc_23, hM⟩ := bd1_some hM
    refine g_vv (As := [.int (iI a1), .int (iI a2), .long (jJ a3), .int (iI (a4 + 1))]) (rest := []) S hG hsz (hr1 _ a1 a2 a3 (a4 + 1) _ hc_23) wV_12_417 (ec_83 _) cpX12 (Nat.lt_of_lt_of_le (Nat.le_of_ble_eq_true rfl) hn) dX12_goesPart_162 rfl hl.1 (ar := 4) (by decide +kernel) rfl (by refine ⟨?_, ?_, ?_, ?_⟩ <;> first | exact Nat.le_of_ble_eq_true rfl | (simp only [gRm]; omega)) (Nat.le_of_ble_eq_true rfl) (fun uu H locs hp hG => ?_)
    obtain rfl := hp
    replace hG : gW D cy b n s H locs (enc b cy X S_24) := hG
    cases hM
    exact g_vret S hr hlk hG hsz dX12_goesPart_165 ⟨Nat.le_of_ble_eq_true rfl, Nat.le_of_ble_eq_true rfl⟩ rfl
  · replace hM := ifn hM (by omega)
    replace hM := ifn hM (by omega)
    replace hM := ifn hM (by omega)
    replace hM := ifn hM (by omega)
    replace hM := ifn hM (by omega)
    replace hM := ifn hM (by omega)
    replace hM := ifp hM hs_4
    refine gi_tsI (off := 145) (tgt := 154) hx hb 6 dX12_goesPart_9 hg_3 (by omega) (by omega) (by rfl) (by decide) ?_
    refine lv_aload_n hx hb dX12_goesPart_154 rfl (lv_at hl 0 rfl) ?_
    refine lv_iload_n hx hb dX12_goesPart_155 rfl (lv_at hl 1 rfl) ?_
    refine lv_iload_n hx hb dX12_goesPart_156 rfl (lv_at hl 2 rfl) ?_
    refine lv_lload_n hx hb dX12_goesPart_157 rfl (lv_at hl 3 rfl) ?_
    refine lv_iload hx hb dX12_goesPart_158 (lv_at hl 4 rfl) ?_
    refine lv_iconst (v := iI 1) hx hb dX12_goesPart_160 (by decide) ?_
    refine gi_add hx hb dX12_goesPart_161 ?_
    obtain ⟨S_26, hc_25, hM⟩ := bd1_some hM
    refine g_vv (As := [.int (iI a1), .int (iI a2), .long (jJ a3), .int (iI (a4 + 1))]) (rest := []) S hG hsz (hr1 _ a1 a2 a3 (a4 + 1) _ hc_25) wV_12_417 (ec_83 _) cpX12 (Nat.lt_of_lt_of_le (Nat.le_of_ble_eq_true rfl) hn) dX12_goesPart_162 rfl hl.1 (ar := 4) (by decide +kernel) rfl (by refine ⟨?_, ?_, ?_, ?_⟩ <;> first | exact Nat.le_of_ble_eq_true rfl | (simp only [gRm]; omega)) (Nat.le_of_ble_eq_true rfl) (fun uu H locs hp hG => ?_)
    obtain rfl := hp
    replace hG : gW D cy b n s H locs (enc b cy X S_26) := hG
    cases hM
    exact g_vret S hr hlk hG hsz dX12_goesPart_165 ⟨Nat.le_of_ble_eq_true rfl, Nat.le_of_ble_eq_true rfl⟩ rfl
  · replace hM := ifn hM (by omega)
    replace hM := ifn hM (by omega)
    replace hM := ifn hM (by omega)
    replace hM := ifn hM (by omega)
    replace hM := ifn hM (by omega)
    replace hM := ifn hM (by omega)
    replace hM := ifn hM (by omega)
    replace hM := ifp hM hs_4
    refine gi_tsI (off := 125) (tgt := 134) hx hb 7 dX12_goesPart_9 hg_3 (by omega) (by omega) (by rfl) (by decide) ?_
    refine lv_aload_n hx hb dX12_goesPart_134 rfl (lv_at hl 0 rfl) ?_
    refine lv_aload_n hx hb dX12_goesPart_135 rfl (lv_at hl 0 rfl) ?_
    refine m_get S hG 80 83 0 rfl ec_83 cpX12 wm_1673 dX12_goesPart_136 rfl (Nat.lt_of_lt_of_le (Nat.le_of_ble_eq_true rfl) hn) (by decide) ?_
    refine lv_bipush (v := iI 48) hx hb dX12_goesPart_139 (by decide) ?_
    refine lv_iload_n hx hb dX12_goesPart_141 rfl (lv_at hl 1 rfl) ?_
    refine gi_add hx hb dX12_goesPart_142 ?_
    obtain ⟨hg_27, hM⟩ := gd_some hM
    refine mi_ald S hG 81 84 rfl ec_84 (Nat.lt_of_lt_of_le (Nat.le_of_ble_eq_true rfl) hn) dX12_goesPart_143 hg_27 (by decide) ?_
    refine lv_iload_n hx hb dX12_goesPart_144 rfl (lv_at hl 2 rfl) ?_
    refine lv_lload_n hx hb dX12_goesPart_145 rfl (lv_at hl 3 rfl) ?_
    refine lv_iload hx hb dX12_goesPart_146 (lv_at hl 4 rfl) ?_
    obtain ⟨S_29, hc_28, hM⟩ := bd1_some hM
    refine g_vv (As := [.int (iI (S0 84 (48 + a1))), .int (iI a2), .long (jJ a3), .int (iI a4)]) (rest := []) S hG hsz (hr0 _ (S0 84 (48 + a1)) a2 a3 a4 _ hc_28) wV_12_401 (ec_83 _) cpX12 (Nat.lt_of_lt_of_le (Nat.le_of_ble_eq_true rfl) hn) dX12_goesPart_148 rfl hl.1 (ar := 4) (by decide +kernel) rfl (by refine ⟨?_, ?_, ?_, ?_⟩ <;> first | exact Nat.le_of_ble_eq_true rfl | (simp only [gRm]; omega)) (Nat.le_of_ble_eq_true rfl) (fun uu H locs hp hG => ?_)
    obtain rfl := hp
    replace hG : gW D cy b n s H locs (enc b cy X S_29) := hG
    refine lv_goto (tgt := 165) hx hb dX12_goesPart_151 (by decide) ?_
    cases hM
    exact g_vret S hr hlk hG hsz dX12_goesPart_165 ⟨Nat.le_of_ble_eq_true rfl, Nat.le_of_ble_eq_true rfl⟩ rfl
  · replace hM := ifn hM (by omega)
    replace hM := ifn hM (by omega)
    replace hM := ifn hM (by omega)
    replace hM := ifn hM (by omega)
    replace hM := ifn hM (by omega)
    replace hM := ifn hM (by omega)
    replace hM := ifn hM (by omega)
    replace hM := ifn hM (by omega)
    refine gi_tsO (tgt := 154) hx hb dX12_goesPart_9 hg_3 hs_4 (by decide) ?_
    refine lv_aload_n hx hb dX12_goesPart_154 rfl (lv_at hl 0 rfl) ?_
    refine lv_iload_n hx hb dX12_goesPart_155 rfl (lv_at hl 1 rfl) ?_
    refine lv_iload_n hx hb dX12_goesPart_156 rfl (lv_at hl 2 rfl) ?_
    refine lv_lload_n hx hb dX12_goesPart_157 rfl (lv_at hl 3 rfl) ?_
    refine lv_iload hx hb dX12_goesPart_158 (lv_at hl 4 rfl) ?_
    refine lv_iconst (v := iI 1) hx hb dX12_goesPart_160 (by decide) ?_
    refine gi_add hx hb dX12_goesPart_161 ?_
    obtain ⟨S_31, hc_30, hM⟩ := bd1_some hM
    refine g_vv (As := [.int (iI a1), .int (iI a2), .long (jJ a3), .int (iI (a4 + 1))]) (rest := []) S hG hsz (hr1 _ a1 a2 a3 (a4 + 1) _ hc_30) wV_12_417 (ec_83 _) cpX12 (Nat.lt_of_lt_of_le (Nat.le_of_ble_eq_true rfl) hn) dX12_goesPart_162 rfl hl.1 (ar := 4) (by decide +kernel) rfl (by refine ⟨?_, ?_, ?_, ?_⟩ <;> first | exact Nat.le_of_ble_eq_true rfl | (simp only [gRm]; omega)) (Nat.le_of_ble_eq_true rfl) (fun uu H locs hp hG => ?_)
    obtain rfl := hp
    replace hG : gW D cy b n s H locs (enc b cy X S_31) := hG
    cases hM
    exact g_vret S hr hlk hG hsz dX12_goesPart_165 ⟨Nat.le_of_ble_eq_true rfl, Nat.le_of_ble_eq_true rfl⟩ rfl
def RX12_goesExpr : Nat → Nat → Int → Int → Int → Int → St → Option (St)
  | 0, _, _, _, _, _, _ => none
  | f + 1, t, x1, x2, x3, x4, S0 => if t = 0 then (bX12_goesExpr (RX12_goesExpr f) S0 x1 x2 x3 x4) else (if t = 1 then (bX12_goesIn (RX12_goesExpr f) S0 x1 x2 x3 x4) else (if t = 2 then (bX12_goesPart (RX12_goesExpr f) S0 x1 x2 x3 x4) else (none)))
set_option maxHeartbeats 4000000 in
theorem vRX12_goesExpr (l : Launch) {D : va_G} {cy : Nat → ClassId} {b n : Nat} (hn : 102 ≤ n) {X : Nat → va_E} : ∀ f : Nat, (∀ (S0 : St) (a1 : Int) (a2 : Int) (a3 : Int) (a4 : Int) (o1 : St), RX12_goesExpr f 0 a1 a2 a3 a4 S0 = some o1 → gV l yX12_goesExpr cX12_goesExpr 15 (28 + f) 0 0 D cy b n (enc b cy X S0) [.ref (b + 80), .int (iI a1), .int (iI a2), .long (jJ a3), .int (iI a4)] (fun u => u = (n, enc b cy X o1))) ∧ (∀ (S0 : St) (a1 : Int) (a2 : Int) (a3 : Int) (a4 : Int) (o1 : St), RX12_goesExpr f 1 a1 a2 a3 a4 S0 = some o1 → gV l yX12_goesIn cX12_goesIn 12 (28 + f) 0 0 D cy b n (enc b cy X S0) [.ref (b + 80), .int (iI a1), .int (iI a2), .long (jJ a3), .int (iI a4)] (fun u => u = (n, enc b cy X o1))) ∧ (∀ (S0 : St) (a1 : Int) (a2 : Int) (a3 : Int) (a4 : Int) (o1 : St), RX12_goesExpr f 2 a1 a2 a3 a4 S0 = some o1 → gV l yX12_goesPart cX12_goesPart 6 (28 + f) 0 0 D cy b n (enc b cy X S0) [.ref (b + 80), .int (iI a1), .int (iI a2), .long (jJ a3), .int (iI a4)] (fun u => u = (n, enc b cy X o1))) := by
  intro f
  induction f with
  | zero =>
    refine ⟨?_, ?_, ?_⟩
    all_goals
      intros; rename_i hM; rw [RX12_goesExpr] at hM; cases hM
  | succ f ih =>
    obtain ⟨hr0, hr1, hr2⟩ := ih
    refine ⟨?_, ?_, ?_⟩
    · intro S0 a1 a2 a3 a4 o1 hM
      rw [RX12_goesExpr] at hM
      replace hM := ifp hM rfl
      exact spX12_goesExpr l hn (RX12_goesExpr f) (28 + f) (Nat.le_add_right _ _) hr0 hr1 hr2 S0 a1 a2 a3 a4 _ hM
    · intro S0 a1 a2 a3 a4 o1 hM
      rw [RX12_goesExpr] at hM
      replace hM := ifn hM (by decide)
      replace hM := ifp hM rfl
      exact spX12_goesIn l hn (RX12_goesExpr f) (28 + f) (Nat.le_add_right _ _) hr0 hr1 hr2 S0 a1 a2 a3 a4 _ hM
    · intro S0 a1 a2 a3 a4 o1 hM
      rw [RX12_goesExpr] at hM
      replace hM := ifn hM (by decide)
      replace hM := ifn hM (by decide)
      replace hM := ifp hM rfl
      exact spX12_goesPart l hn (RX12_goesExpr f) (28 + f) (Nat.le_add_right _ _) hr0 hr1 hr2 S0 a1 a2 a3 a4 _ hM
def mX12_goesExpr (S0 : St) (a1 : Int) (a2 : Int) (a3 : Int) (a4 : Int) : Option (St) := RX12_goesExpr 900 0 a1 a2 a3 a4 S0
theorem vX12_goesExpr (l : Launch) {D : va_G} {cy : Nat → ClassId} {b n : Nat} (hn : 102 ≤ n) {X : Nat → va_E} {S0 : St} (a1 : Int) (a2 : Int) (a3 : Int) (a4 : Int) {o1 : St} (hM : mX12_goesExpr S0 a1 a2 a3 a4 = some o1) : gV l yX12_goesExpr cX12_goesExpr 15 928 0 0 D cy b n (enc b cy X S0) [.ref (b + 80), .int (iI a1), .int (iI a2), .long (jJ a3), .int (iI a4)] (fun u => u = (n, enc b cy X o1)) := by
  unfold mX12_goesExpr at hM
  exact (vRX12_goesExpr l hn 900).1 S0 a1 a2 a3 a4 _ hM
def mX12_goesIn (S0 : St) (a1 : Int) (a2 : Int) (a3 : Int) (a4 : Int) : Option (St) := RX12_goesExpr 900 1 a1 a2 a3 a4 S0
theorem vX12_goesIn (l : Launch) {D : va_G} {cy : Nat → ClassId} {b n : Nat} (hn : 102 ≤ n) {X : Nat → va_E} {S0 : St} (a1 : Int) (a2 : Int) (a3 : Int) (a4 : Int) {o1 : St} (hM : mX12_goesIn S0 a1 a2 a3 a4 = some o1) : gV l yX12_goesIn cX12_goesIn 12 928 0 0 D cy b n (enc b cy X S0) [.ref (b + 80), .int (iI a1), .int (iI a2), .long (jJ a3), .int (iI a4)] (fun u => u = (n, enc b cy X o1)) := by
  unfold mX12_goesIn at hM
  exact (vRX12_goesExpr l hn 900).2.1 S0 a1 a2 a3 a4 _ hM
def mX12_goesPart (S0 : St) (a1 : Int) (a2 : Int) (a3 : Int) (a4 : Int) : Option (St) := RX12_goesExpr 900 2 a1 a2 a3 a4 S0
theorem vX12_goesPart (l : Launch) {D : va_G} {cy : Nat → ClassId} {b n : Nat} (hn : 102 ≤ n) {X : Nat → va_E} {S0 : St} (a1 : Int) (a2 : Int) (a3 : Int) (a4 : Int) {o1 : St} (hM : mX12_goesPart S0 a1 a2 a3 a4 = some o1) : gV l yX12_goesPart cX12_goesPart 6 928 0 0 D cy b n (enc b cy X S0) [.ref (b + 80), .int (iI a1), .int (iI a2), .long (jJ a3), .int (iI a4)] (fun u => u = (n, enc b cy X o1)) := by
  unfold mX12_goesPart at hM
  exact (vRX12_goesExpr l hn 900).2.2 S0 a1 a2 a3 a4 _ hM
def mX12_goes (S0 : St) (a1 : Int) (a2 : Int) (a3 : Int) (a4 : Int) (a5 : Int) : Option (St) := nx (up S0 83 20 0) fun S_1 => nx (up S_1 83 21 a4) fun S_2 => nx (up S_2 83 22 (-1)) fun S_3 => nx (up S_3 83 23 0) fun S_4 => nx (up S_4 83 24 a5) fun S_5 => nx (up S_5 83 25 0) fun S_6 => nx (up S_6 83 26 1) fun S_7 => nx (up S_7 83 27 (-1)) fun S_8 => nx (up S_8 83 31 0) fun S_9 => gd (inI a3) <| bd1 (mX12_goesExpr S_9 a1 a2 a3 0) fun S_12 => some (S_12)
set_option maxHeartbeats 4000000 in
set_option maxRecDepth 100000 in
theorem vX12_goes (l : Launch) {D : va_G} {cy : Nat → ClassId} {b n : Nat} (hn : 102 ≤ n) {X : Nat → va_E} {S0 : St} (a1 : Int) (a2 : Int) (a3 : Int) (a4 : Int) (a5 : Int) {o1 : St} (hM : mX12_goes S0 a1 a2 a3 a4 a5 = some o1) : gV l yX12_goes cX12_goes 6 929 0 0 D cy b n (enc b cy X S0) [.ref (b + 80), .int (iI a1), .int (iI a2), .int (iI a3), .int (iI a4), .int (iI a5)] (fun u => u = (n, enc b cy X o1)) := by
  refine gV_of (by decide) (Nat.le_of_ble_eq_true rfl) ?_
  intro p e s m args below meth c S hr hlk hin hsz ls hl hG
  have hx := S.1
  have hb := S.2.1
  have hl : lv_has ls 6 [(0, .ref (b + 80)), (1, .int (iI a1)), (2, .int (iI a2)), (3, .int (iI a3)), (4, .int (iI a4)), (5, .int (iI a5))] := hl
  replace hG : gW D cy b n s s.heap [] (enc b cy X S0) := hG
  obtain ⟨H, eH⟩ : ∃ H, H = s.heap := ⟨_, rfl⟩
  obtain ⟨locs, elocs⟩ : ∃ locs : List Loc, locs = [] := ⟨_, rfl⟩
  rw [← eH, ← elocs] at hG
  rw [← eH, ← elocs]
  clear eH elocs
  unfold mX12_goes at hM
  refine lv_aload_n hx hb dX12_goes_0 rfl (lv_at hl 0 rfl) ?_
  refine lv_iconst (v := iI 0) hx hb dX12_goes_1 (by decide) ?_
  refine m_put S hG 80 83 20 rfl 20 0 ec_83 cpX12 wm_1693 dX12_goes_2 (pf_83_20) (Nat.lt_of_lt_of_le (Nat.le_of_ble_eq_true rfl) hn) (by decide) (Nat.le_of_ble_eq_true rfl) rfl rfl rfl (fun H locs S_1 eS_1 hG => ?_)
  replace hM := nx_at hM eS_1
  clear eS_1
  refine lv_aload_n hx hb dX12_goes_5 rfl (lv_at hl 0 rfl) ?_
  refine lv_iload hx hb dX12_goes_6 (lv_at hl 4 rfl) ?_
  refine m_put S hG 80 83 21 rfl 21 a4 ec_83 cpX12 wm_1694 dX12_goes_8 (pf_83_21) (Nat.lt_of_lt_of_le (Nat.le_of_ble_eq_true rfl) hn) (by decide) (Nat.le_of_ble_eq_true rfl) rfl rfl rfl (fun H locs S_2 eS_2 hG => ?_)
  replace hM := nx_at hM eS_2
  clear eS_2
  refine lv_aload_n hx hb dX12_goes_11 rfl (lv_at hl 0 rfl) ?_
  refine lv_iconst (v := iI (-1)) hx hb dX12_goes_12 (by decide) ?_
  refine m_put S hG 80 83 22 rfl 22 (-1) ec_83 cpX12 wm_1695 dX12_goes_13 (pf_83_22) (Nat.lt_of_lt_of_le (Nat.le_of_ble_eq_true rfl) hn) (by decide) (Nat.le_of_ble_eq_true rfl) rfl rfl rfl (fun H locs S_3 eS_3 hG => ?_)
  replace hM := nx_at hM eS_3
  clear eS_3
  refine lv_aload_n hx hb dX12_goes_16 rfl (lv_at hl 0 rfl) ?_
  refine lv_iconst (v := iI 0) hx hb dX12_goes_17 (by decide) ?_
  refine m_put S hG 80 83 23 rfl 23 0 ec_83 cpX12 wm_1696 dX12_goes_18 (pf_83_23) (Nat.lt_of_lt_of_le (Nat.le_of_ble_eq_true rfl) hn) (by decide) (Nat.le_of_ble_eq_true rfl) rfl rfl rfl (fun H locs S_4 eS_4 hG => ?_)
  replace hM := nx_at hM eS_4
  clear eS_4
  refine lv_aload_n hx hb dX12_goes_21 rfl (lv_at hl 0 rfl) ?_
  refine lv_iload hx hb dX12_goes_22 (lv_at hl 5 rfl) ?_
  refine m_put S hG 80 83 24 rfl 24 a5 ec_83 cpX12 wm_1697 dX12_goes_24 (pf_83_24) (Nat.lt_of_lt_of_le (Nat.le_of_ble_eq_true rfl) hn) (by decide) (Nat.le_of_ble_eq_true rfl) rfl rfl rfl (fun H locs S_5 eS_5 hG => ?_)
  replace hM := nx_at hM eS_5
  clear eS_5
  refine lv_aload_n hx hb dX12_goes_27 rfl (lv_at hl 0 rfl) ?_
  refine lv_iconst (v := iI 0) hx hb dX12_goes_28 (by decide) ?_
  refine m_put S hG 80 83 25 rfl 25 0 ec_83 cpX12 wm_1698 dX12_goes_29 (pf_83_25) (Nat.lt_of_lt_of_le (Nat.le_of_ble_eq_true rfl) hn) (by decide) (Nat.le_of_ble_eq_true rfl) rfl rfl rfl (fun H locs S_6 eS_6 hG => ?_)
  replace hM := nx_at hM eS_6
  clear eS_6
  refine lv_aload_n hx hb dX12_goes_32 rfl (lv_at hl 0 rfl) ?_
  refine lv_iconst (v := iI 1) hx hb dX12_goes_33 (by decide) ?_
  refine m_put S hG 80 83 26 rfl 26 1 ec_83 cpX12 wm_1699 dX12_goes_34 (pf_83_26) (Nat.lt_of_lt_of_le (Nat.le_of_ble_eq_true rfl) hn) (by decide) (Nat.le_of_ble_eq_true rfl) rfl rfl rfl (fun H locs S_7 eS_7 hG => ?_)
  replace hM := nx_at hM eS_7
  clear eS_7
  refine lv_aload_n hx hb dX12_goes_37 rfl (lv_at hl 0 rfl) ?_
  refine lv_iconst (v := iI (-1)) hx hb dX12_goes_38 (by decide) ?_
  refine m_put S hG 80 83 27 rfl 27 (-1) ec_83 cpX12 wm_1700 dX12_goes_39 (pf_83_27) (Nat.lt_of_lt_of_le (Nat.le_of_ble_eq_true rfl) hn) (by decide) (Nat.le_of_ble_eq_true rfl) rfl rfl rfl (fun H locs S_8 eS_8 hG => ?_)
  replace hM := nx_at hM eS_8
  clear eS_8
  refine lv_aload_n hx hb dX12_goes_42 rfl (lv_at hl 0 rfl) ?_
  refine lv_iconst (v := iI 0) hx hb dX12_goes_43 (by decide) ?_
  refine m_put S hG 80 83 31 rfl 31 0 ec_83 cpX12 wm_1704 dX12_goes_44 (pf_83_31) (Nat.lt_of_lt_of_le (Nat.le_of_ble_eq_true rfl) hn) (by decide) (Nat.le_of_ble_eq_true rfl) rfl rfl rfl (fun H locs S_9 eS_9 hG => ?_)
  replace hM := nx_at hM eS_9
  clear eS_9
  refine lv_aload_n hx hb dX12_goes_47 rfl (lv_at hl 0 rfl) ?_
  refine lv_iload_n hx hb dX12_goes_48 rfl (lv_at hl 1 rfl) ?_
  refine lv_iload_n hx hb dX12_goes_49 rfl (lv_at hl 2 rfl) ?_
  refine lv_iload_n hx hb dX12_goes_50 rfl (lv_at hl 3 rfl) ?_
  obtain ⟨hg_10, hM⟩ := gd_some hM
  refine gi_i2l hx hb dX12_goes_51 hg_10 ?_
  refine lv_iconst (v := iI 0) hx hb dX12_goes_52 (by decide) ?_
  obtain ⟨S_12, hc_11, hM⟩ := bd1_some hM
  refine g_vv (As := [.int (iI a1), .int (iI a2), .long (jJ a3), .int (iI 0)]) (rest := []) S hG hsz (vX12_goesExpr l hn a1 a2 a3 0 hc_11) wV_12_401 (ec_83 _) cpX12 (Nat.lt_of_lt_of_le (Nat.le_of_ble_eq_true rfl) hn) dX12_goes_53 rfl hl.1 (ar := 4) (by decide +kernel) rfl ⟨Nat.le_of_ble_eq_true rfl, Nat.le_of_ble_eq_true rfl, Nat.le_of_ble_eq_true rfl, Nat.le_of_ble_eq_true rfl⟩ (Nat.le_of_ble_eq_true rfl) (fun uu H locs hp hG => ?_)
  obtain rfl := hp
  replace hG : gW D cy b n s H locs (enc b cy X S_12) := hG
  cases hM
  exact g_vret S hr hlk hG hsz dX12_goes_56 ⟨Nat.le_of_ble_eq_true rfl, Nat.le_of_ble_eq_true rfl⟩ rfl
theorem wV_12_472 : gWV "GrownKindsModel" 472 yX12_whyNot cX12_whyNot 4 (some .int) := ⟨wm_2178, wm_2180, wm_137, wm_188, wm_2181, by decide +kernel, by decide +kernel⟩
theorem wV_12_475 : gWV "GrownKindsModel" 475 yX12_goes cX12_goes 6 none := ⟨wm_2183, wm_2185, wm_138, wm_188, wm_2186, by decide +kernel, by decide +kernel⟩
def mX12_length (S0 : St) (a1 : Int) (a2 : Int) (a3 : Int) : Option (Int × St) := bd2 (mX12_whyNot S0 a1 a2 a3) fun r_2 S_3 => gd (inI r_2) <| if 0 ≤ r_2 then (bd1 (mX12_goes S_3 a1 a2 a3 (-1) (-1)) fun S_7 => some ((S_7 83 20), S_7)) else (some (r_2, S_3))
set_option maxHeartbeats 4000000 in
set_option maxRecDepth 100000 in
theorem vX12_length (l : Launch) {D : va_G} {cy : Nat → ClassId} {b n : Nat} (hn : 102 ≤ n) {X : Nat → va_E} {S0 : St} (a1 : Int) (a2 : Int) (a3 : Int) {o1 : Int} {o2 : St} (hM : mX12_length S0 a1 a2 a3 = some (o1, o2)) : gI l yX12_length cX12_length 5 (some .int) 930 0 0 D cy b n (enc b cy X S0) [.ref (b + 80), .int (iI a1), .int (iI a2), .int (iI a3)] (fun r u => r = iI o1 ∧ u = (n, enc b cy X o2)) := by
  refine gI_of (by decide) (Nat.le_of_ble_eq_true rfl) ?_
  intro p e s m args below meth c S hr hlk hin hsz ls hl hG
  have hx := S.1
  have hb := S.2.1
  have hl : lv_has ls 5 [(0, .ref (b + 80)), (1, .int (iI a1)), (2, .int (iI a2)), (3, .int (iI a3))] := hl
  replace hG : gW D cy b n s s.heap [] (enc b cy X S0) := hG
  obtain ⟨H, eH⟩ : ∃ H, H = s.heap := ⟨_, rfl⟩
  obtain ⟨locs, elocs⟩ : ∃ locs : List Loc, locs = [] := ⟨_, rfl⟩
  rw [← eH, ← elocs] at hG
  rw [← eH, ← elocs]
  clear eH elocs
  unfold mX12_length at hM
  refine lv_aload_n hx hb dX12_length_0 rfl (lv_at hl 0 rfl) ?_
  refine lv_iload_n hx hb dX12_length_1 rfl (lv_at hl 1 rfl) ?_
  refine lv_iload_n hx hb dX12_length_2 rfl (lv_at hl 2 rfl) ?_
  refine lv_iload_n hx hb dX12_length_3 rfl (lv_at hl 3 rfl) ?_
  obtain ⟨r_2, S_3, hc_1, hM⟩ := bd2_some hM
  refine g_vi (As := [.int (iI a1), .int (iI a2), .int (iI a3)]) (rest := []) S hG hsz (vX12_whyNot l hn a1 a2 a3 hc_1) wV_12_472 (ec_83 _) cpX12 (Nat.lt_of_lt_of_le (Nat.le_of_ble_eq_true rfl) hn) dX12_length_4 rfl hl.1 (ar := 3) (by decide +kernel) rfl ⟨Nat.le_of_ble_eq_true rfl, Nat.le_of_ble_eq_true rfl, Nat.le_of_ble_eq_true rfl, Nat.le_of_ble_eq_true rfl⟩ (Nat.le_of_ble_eq_true rfl) (fun rv uu H locs hp hG => ?_)
  obtain ⟨rfl, rfl⟩ := hp
  replace hG : gW D cy b n s H locs (enc b cy X S_3) := hG
  refine lv_istore (lv' := [(4, .int (iI r_2)), (0, .ref (b + 80)), (1, .int (iI a1)), (2, .int (iI a2)), (3, .int (iI a3))]) hx hb dX12_length_7 hl (by decide) rfl (fun ls hl => ?_)
  refine lv_iload hx hb dX12_length_9 (lv_at hl 0 rfl) ?_
  obtain ⟨hg_4, hM⟩ := gd_some hM
  refine gi_if_ge (tgt := 17) hx hb dX12_length_11 (by decide) hg_4 (fun c_5 => ?_) (fun c_5 => ?_)
  · replace hM := ifp hM c_5
    refine lv_aload_n hx hb dX12_length_17 rfl (lv_at hl 1 rfl) ?_
    refine lv_iload_n hx hb dX12_length_18 rfl (lv_at hl 2 rfl) ?_
    refine lv_iload_n hx hb dX12_length_19 rfl (lv_at hl 3 rfl) ?_
    refine lv_iload_n hx hb dX12_length_20 rfl (lv_at hl 4 rfl) ?_
    refine lv_iconst (v := iI (-1)) hx hb dX12_length_21 (by decide) ?_
    refine lv_iconst (v := iI (-1)) hx hb dX12_length_22 (by decide) ?_
    obtain ⟨S_7, hc_6, hM⟩ := bd1_some hM
    refine g_vv (As := [.int (iI a1), .int (iI a2), .int (iI a3), .int (iI (-1)), .int (iI (-1))]) (rest := []) S hG hsz (vX12_goes l hn a1 a2 a3 (-1) (-1) hc_6) wV_12_475 (ec_83 _) cpX12 (Nat.lt_of_lt_of_le (Nat.le_of_ble_eq_true rfl) hn) dX12_length_23 rfl hl.1 (ar := 5) (by decide +kernel) rfl ⟨Nat.le_of_ble_eq_true rfl, Nat.le_of_ble_eq_true rfl, Nat.le_of_ble_eq_true rfl, Nat.le_of_ble_eq_true rfl⟩ (Nat.le_of_ble_eq_true rfl) (fun uu H locs hp hG => ?_)
    obtain rfl := hp
    replace hG : gW D cy b n s H locs (enc b cy X S_7) := hG
    refine lv_aload_n hx hb dX12_length_26 rfl (lv_at hl 1 rfl) ?_
    refine m_get S hG 80 83 20 rfl ec_83 cpX12 wm_1693 dX12_length_27 rfl (Nat.lt_of_lt_of_le (Nat.le_of_ble_eq_true rfl) hn) (by decide) ?_
    cases hM
    exact g_iret S hr hlk hG hsz dX12_length_30 ⟨Nat.le_of_ble_eq_true rfl, Nat.le_of_ble_eq_true rfl⟩ ⟨rfl, rfl⟩
  · replace hM := ifn hM c_5
    refine lv_iload hx hb dX12_length_14 (lv_at hl 0 rfl) ?_
    cases hM
    exact g_iret S hr hlk hG hsz dX12_length_16 ⟨Nat.le_of_ble_eq_true rfl, Nat.le_of_ble_eq_true rfl⟩ ⟨rfl, rfl⟩
def mX12_sign (S0 : St) (a1 : Int) (a2 : Int) (a3 : Int) (a4 : Int) : Option (Int × St) := bd2 (gd (inI a4) <| if 0 ≤ a4 then (bd2 (mX12_whyNot S0 a1 a2 a3) fun r_12 S_13 => some (r_12, S_13)) else (some ((-2), S0))) fun z_1 S_2 => gd (inI z_1) <| if 0 ≤ z_1 then (bd1 (mX12_goes S_2 a1 a2 a3 a4 (-1)) fun S_8 => some ((S_8 83 22), S_8)) else (some (z_1, S_2))
set_option maxHeartbeats 4000000 in
set_option maxRecDepth 100000 in
theorem vX12_sign (l : Launch) {D : va_G} {cy : Nat → ClassId} {b n : Nat} (hn : 102 ≤ n) {X : Nat → va_E} {S0 : St} (a1 : Int) (a2 : Int) (a3 : Int) (a4 : Int) {o1 : Int} {o2 : St} (hM : mX12_sign S0 a1 a2 a3 a4 = some (o1, o2)) : gI l yX12_sign cX12_sign 6 (some .int) 930 0 0 D cy b n (enc b cy X S0) [.ref (b + 80), .int (iI a1), .int (iI a2), .int (iI a3), .int (iI a4)] (fun r u => r = iI o1 ∧ u = (n, enc b cy X o2)) := by
  refine gI_of (by decide) (Nat.le_of_ble_eq_true rfl) ?_
  intro p e s m args below meth c S hr hlk hin hsz ls hl hG
  have hx := S.1
  have hb := S.2.1
  have hl : lv_has ls 6 [(0, .ref (b + 80)), (1, .int (iI a1)), (2, .int (iI a2)), (3, .int (iI a3)), (4, .int (iI a4))] := hl
  replace hG : gW D cy b n s s.heap [] (enc b cy X S0) := hG
  obtain ⟨H, eH⟩ : ∃ H, H = s.heap := ⟨_, rfl⟩
  obtain ⟨locs, elocs⟩ : ∃ locs : List Loc, locs = [] := ⟨_, rfl⟩
  rw [← eH, ← elocs] at hG
  rw [← eH, ← elocs]
  clear eH elocs
  unfold mX12_sign at hM
  refine lv_iload hx hb dX12_sign_0 (lv_at hl 4 rfl) ?_
  obtain ⟨z_1, S_2, hc_3, hM⟩ := bd2_some hM
  have hK_4 : ∀ (H : Heap) (locs : List Loc) (ls : Array Slot), gW D cy b n s H locs (enc b cy X S_2) → lv_has ls 6 [(0, .ref (b + 80)), (1, .int (iI a1)), (2, .int (iI a2)), (3, .int (iI a3)), (4, .int (iI a4))] → W p l e (gRm 930 0 0) s m args below meth c H locs 0 0 (gQI D cy b s args below 0 0 (fun r u => r = iI o1 ∧ u = (n, enc b cy X o2))) (F0 m 17 ls [.int (iI z_1)]) := by
    intro H locs ls hG hl
    refine lv_istore (lv' := [(5, .int (iI z_1)), (0, .ref (b + 80)), (1, .int (iI a1)), (2, .int (iI a2)), (3, .int (iI a3)), (4, .int (iI a4))]) hx hb dX12_sign_17 hl (by decide) rfl (fun ls hl => ?_)
    refine lv_iload hx hb dX12_sign_19 (lv_at hl 0 rfl) ?_
    obtain ⟨hg_5, hM⟩ := gd_some hM
    refine gi_if_ge (tgt := 27) hx hb dX12_sign_21 (by decide) hg_5 (fun c_6 => ?_) (fun c_6 => ?_)
    · replace hM := ifp hM c_6
      refine lv_aload_n hx hb dX12_sign_27 rfl (lv_at hl 1 rfl) ?_
      refine lv_iload_n hx hb dX12_sign_28 rfl (lv_at hl 2 rfl) ?_
      refine lv_iload_n hx hb dX12_sign_29 rfl (lv_at hl 3 rfl) ?_
      refine lv_iload_n hx hb dX12_sign_30 rfl (lv_at hl 4 rfl) ?_
      refine lv_iload hx hb dX12_sign_31 (lv_at hl 5 rfl) ?_
      refine lv_iconst (v := iI (-1)) hx hb dX12_sign_33 (by decide) ?_
      obtain ⟨S_8, hc_7, hM⟩ := bd1_some hM
      refine g_vv (As := [.int (iI a1), .int (iI a2), .int (iI a3), .int (iI a4), .int (iI (-1))]) (rest := []) S hG hsz (vX12_goes l hn a1 a2 a3 a4 (-1) hc_7) wV_12_475 (ec_83 _) cpX12 (Nat.lt_of_lt_of_le (Nat.le_of_ble_eq_true rfl) hn) dX12_sign_34 rfl hl.1 (ar := 5) (by decide +kernel) rfl ⟨Nat.le_of_ble_eq_true rfl, Nat.le_of_ble_eq_true rfl, Nat.le_of_ble_eq_true rfl, Nat.le_of_ble_eq_true rfl⟩ (Nat.le_of_ble_eq_true rfl) (fun uu H locs hp hG => ?_)
      obtain rfl := hp
      replace hG : gW D cy b n s H locs (enc b cy X S_8) := hG
      refine lv_aload_n hx hb dX12_sign_37 rfl (lv_at hl 1 rfl) ?_
      refine m_get S hG 80 83 22 rfl ec_83 cpX12 wm_1695 dX12_sign_38 rfl (Nat.lt_of_lt_of_le (Nat.le_of_ble_eq_true rfl) hn) (by decide) ?_
      cases hM
      exact g_iret S hr hlk hG hsz dX12_sign_41 ⟨Nat.le_of_ble_eq_true rfl, Nat.le_of_ble_eq_true rfl⟩ ⟨rfl, rfl⟩
    · replace hM := ifn hM c_6
      refine lv_iload hx hb dX12_sign_24 (lv_at hl 0 rfl) ?_
      cases hM
      exact g_iret S hr hlk hG hsz dX12_sign_26 ⟨Nat.le_of_ble_eq_true rfl, Nat.le_of_ble_eq_true rfl⟩ ⟨rfl, rfl⟩
  clear hM
  replace hM := hc_3
  obtain ⟨hg_9, hM⟩ := gd_some hM
  refine gi_if_ge (tgt := 10) hx hb dX12_sign_2 (by decide) hg_9 (fun c_10 => ?_) (fun c_10 => ?_)
  · replace hM := ifp hM c_10
    refine lv_aload_n hx hb dX12_sign_10 rfl (lv_at hl 0 rfl) ?_
    refine lv_iload_n hx hb dX12_sign_11 rfl (lv_at hl 1 rfl) ?_
    refine lv_iload_n hx hb dX12_sign_12 rfl (lv_at hl 2 rfl) ?_
    refine lv_iload_n hx hb dX12_sign_13 rfl (lv_at hl 3 rfl) ?_
    obtain ⟨r_12, S_13, hc_11, hM⟩ := bd2_some hM
    refine g_vi (As := [.int (iI a1), .int (iI a2), .int (iI a3)]) (rest := []) S hG hsz (vX12_whyNot l hn a1 a2 a3 hc_11) wV_12_472 (ec_83 _) cpX12 (Nat.lt_of_lt_of_le (Nat.le_of_ble_eq_true rfl) hn) dX12_sign_14 rfl hl.1 (ar := 3) (by decide +kernel) rfl ⟨Nat.le_of_ble_eq_true rfl, Nat.le_of_ble_eq_true rfl, Nat.le_of_ble_eq_true rfl, Nat.le_of_ble_eq_true rfl⟩ (Nat.le_of_ble_eq_true rfl) (fun rv uu H locs hp hG => ?_)
    obtain ⟨rfl, rfl⟩ := hp
    replace hG : gW D cy b n s H locs (enc b cy X S_13) := hG
    cases hM
    exact hK_4 H locs ls hG (lv_sub hl [0, 1, 2, 3, 4] rfl)
  · replace hM := ifn hM c_10
    refine lv_bipush (v := iI (-2)) hx hb dX12_sign_5 (by decide) ?_
    refine lv_goto (tgt := 17) hx hb dX12_sign_7 (by decide) ?_
    cases hM
    exact hK_4 H locs ls hG (lv_sub hl [0, 1, 2, 3, 4] rfl)
def mX12_deep (S0 : St) (a1 : Int) (a2 : Int) (a3 : Int) : Option (Int × St) := bd2 (mX12_whyNot S0 a1 a2 a3) fun r_2 S_3 => gd (inI r_2) <| if 0 ≤ r_2 then (bd1 (mX12_goes S_3 a1 a2 a3 (-1) (-1)) fun S_7 => some ((S_7 83 23), S_7)) else (some (r_2, S_3))
set_option maxHeartbeats 4000000 in
set_option maxRecDepth 100000 in
theorem vX12_deep (l : Launch) {D : va_G} {cy : Nat → ClassId} {b n : Nat} (hn : 102 ≤ n) {X : Nat → va_E} {S0 : St} (a1 : Int) (a2 : Int) (a3 : Int) {o1 : Int} {o2 : St} (hM : mX12_deep S0 a1 a2 a3 = some (o1, o2)) : gI l yX12_deep cX12_deep 5 (some .int) 930 0 0 D cy b n (enc b cy X S0) [.ref (b + 80), .int (iI a1), .int (iI a2), .int (iI a3)] (fun r u => r = iI o1 ∧ u = (n, enc b cy X o2)) := by
  refine gI_of (by decide) (Nat.le_of_ble_eq_true rfl) ?_
  intro p e s m args below meth c S hr hlk hin hsz ls hl hG
  have hx := S.1
  have hb := S.2.1
  have hl : lv_has ls 5 [(0, .ref (b + 80)), (1, .int (iI a1)), (2, .int (iI a2)), (3, .int (iI a3))] := hl
  replace hG : gW D cy b n s s.heap [] (enc b cy X S0) := hG
  obtain ⟨H, eH⟩ : ∃ H, H = s.heap := ⟨_, rfl⟩
  obtain ⟨locs, elocs⟩ : ∃ locs : List Loc, locs = [] := ⟨_, rfl⟩
  rw [← eH, ← elocs] at hG
  rw [← eH, ← elocs]
  clear eH elocs
  unfold mX12_deep at hM
  refine lv_aload_n hx hb dX12_deep_0 rfl (lv_at hl 0 rfl) ?_
  refine lv_iload_n hx hb dX12_deep_1 rfl (lv_at hl 1 rfl) ?_
  refine lv_iload_n hx hb dX12_deep_2 rfl (lv_at hl 2 rfl) ?_
  refine lv_iload_n hx hb dX12_deep_3 rfl (lv_at hl 3 rfl) ?_
  obtain ⟨r_2, S_3, hc_1, hM⟩ := bd2_some hM
  refine g_vi (As := [.int (iI a1), .int (iI a2), .int (iI a3)]) (rest := []) S hG hsz (vX12_whyNot l hn a1 a2 a3 hc_1) wV_12_472 (ec_83 _) cpX12 (Nat.lt_of_lt_of_le (Nat.le_of_ble_eq_true rfl) hn) dX12_deep_4 rfl hl.1 (ar := 3) (by decide +kernel) rfl ⟨Nat.le_of_ble_eq_true rfl, Nat.le_of_ble_eq_true rfl, Nat.le_of_ble_eq_true rfl, Nat.le_of_ble_eq_true rfl⟩ (Nat.le_of_ble_eq_true rfl) (fun rv uu H locs hp hG => ?_)
  obtain ⟨rfl, rfl⟩ := hp
  replace hG : gW D cy b n s H locs (enc b cy X S_3) := hG
  refine lv_istore (lv' := [(4, .int (iI r_2)), (0, .ref (b + 80)), (1, .int (iI a1)), (2, .int (iI a2)), (3, .int (iI a3))]) hx hb dX12_deep_7 hl (by decide) rfl (fun ls hl => ?_)
  refine lv_iload hx hb dX12_deep_9 (lv_at hl 0 rfl) ?_
  obtain ⟨hg_4, hM⟩ := gd_some hM
  refine gi_if_ge (tgt := 17) hx hb dX12_deep_11 (by decide) hg_4 (fun c_5 => ?_) (fun c_5 => ?_)
  · replace hM := ifp hM c_5
    refine lv_aload_n hx hb dX12_deep_17 rfl (lv_at hl 1 rfl) ?_
    refine lv_iload_n hx hb dX12_deep_18 rfl (lv_at hl 2 rfl) ?_
    refine lv_iload_n hx hb dX12_deep_19 rfl (lv_at hl 3 rfl) ?_
    refine lv_iload_n hx hb dX12_deep_20 rfl (lv_at hl 4 rfl) ?_
    refine lv_iconst (v := iI (-1)) hx hb dX12_deep_21 (by decide) ?_
    refine lv_iconst (v := iI (-1)) hx hb dX12_deep_22 (by decide) ?_
    obtain ⟨S_7, hc_6, hM⟩ := bd1_some hM
    refine g_vv (As := [.int (iI a1), .int (iI a2), .int (iI a3), .int (iI (-1)), .int (iI (-1))]) (rest := []) S hG hsz (vX12_goes l hn a1 a2 a3 (-1) (-1) hc_6) wV_12_475 (ec_83 _) cpX12 (Nat.lt_of_lt_of_le (Nat.le_of_ble_eq_true rfl) hn) dX12_deep_23 rfl hl.1 (ar := 5) (by decide +kernel) rfl ⟨Nat.le_of_ble_eq_true rfl, Nat.le_of_ble_eq_true rfl, Nat.le_of_ble_eq_true rfl, Nat.le_of_ble_eq_true rfl⟩ (Nat.le_of_ble_eq_true rfl) (fun uu H locs hp hG => ?_)
    obtain rfl := hp
    replace hG : gW D cy b n s H locs (enc b cy X S_7) := hG
    refine lv_aload_n hx hb dX12_deep_26 rfl (lv_at hl 1 rfl) ?_
    refine m_get S hG 80 83 23 rfl ec_83 cpX12 wm_1696 dX12_deep_27 rfl (Nat.lt_of_lt_of_le (Nat.le_of_ble_eq_true rfl) hn) (by decide) ?_
    cases hM
    exact g_iret S hr hlk hG hsz dX12_deep_30 ⟨Nat.le_of_ble_eq_true rfl, Nat.le_of_ble_eq_true rfl⟩ ⟨rfl, rfl⟩
  · replace hM := ifn hM c_5
    refine lv_iload hx hb dX12_deep_14 (lv_at hl 0 rfl) ?_
    cases hM
    exact g_iret S hr hlk hG hsz dX12_deep_16 ⟨Nat.le_of_ble_eq_true rfl, Nat.le_of_ble_eq_true rfl⟩ ⟨rfl, rfl⟩
def mX12_atoms (S0 : St) (a1 : Int) (a2 : Int) (a3 : Int) (a4 : Int) : Option (Int × St) := gd (inI a4) <| bd1 (mX12_in a4 0 25) fun r_3 => bd2 (gd (inI r_3) <| if r_3 = 0 then (some ((-2), S0)) else (bd2 (mX12_whyNot S0 a1 a2 a3) fun r_15 S_16 => some (r_15, S_16))) fun z_4 S_5 => gd (inI z_4) <| if 0 ≤ z_4 then (bd1 (mX12_goes S_5 a1 a2 a3 (-1) a4) fun S_11 => some ((S_11 83 25), S_11)) else (some (z_4, S_5))
set_option maxHeartbeats 4000000 in
set_option maxRecDepth 100000 in
theorem vX12_atoms (l : Launch) {D : va_G} {cy : Nat → ClassId} {b n : Nat} (hn : 102 ≤ n) {X : Nat → va_E} {S0 : St} (a1 : Int) (a2 : Int) (a3 : Int) (a4 : Int) {o1 : Int} {o2 : St} (hM : mX12_atoms S0 a1 a2 a3 a4 = some (o1, o2)) : gI l yX12_atoms cX12_atoms 6 (some .int) 930 0 0 D cy b n (enc b cy X S0) [.ref (b + 80), .int (iI a1), .int (iI a2), .int (iI a3), .int (iI a4)] (fun r u => r = iI o1 ∧ u = (n, enc b cy X o2)) := by
  refine gI_of (by decide) (Nat.le_of_ble_eq_true rfl) ?_
  intro p e s m args below meth c S hr hlk hin hsz ls hl hG
  have hx := S.1
  have hb := S.2.1
  have hl : lv_has ls 6 [(0, .ref (b + 80)), (1, .int (iI a1)), (2, .int (iI a2)), (3, .int (iI a3)), (4, .int (iI a4))] := hl
  replace hG : gW D cy b n s s.heap [] (enc b cy X S0) := hG
  obtain ⟨H, eH⟩ : ∃ H, H = s.heap := ⟨_, rfl⟩
  obtain ⟨locs, elocs⟩ : ∃ locs : List Loc, locs = [] := ⟨_, rfl⟩
  rw [← eH, ← elocs] at hG
  rw [← eH, ← elocs]
  clear eH elocs
  unfold mX12_atoms at hM
  refine lv_iload hx hb dX12_atoms_0 (lv_at hl 4 rfl) ?_
  obtain ⟨hg_1, hM⟩ := gd_some hM
  refine gi_i2l hx hb dX12_atoms_2 hg_1 ?_
  refine lv_lconst (v := jJ 0) hx hb dX12_atoms_3 (by decide) ?_
  refine lv_ldc2 (v := 25) hx hb S.2.2.2.1 (S.2.2.2.2 _ wm_2111) dX12_atoms_4 ?_
  refine gj_as 25 (by decide) ?_
  obtain ⟨r_3, hc_2, hM⟩ := bd1_some hM
  refine g_si (As := [.long (jJ a4), .long (jJ 0), .long (jJ 25)]) (rest := []) S hG hsz (vX12_in l hn a4 0 25 hc_2) wS_12_97 dX12_atoms_7 rfl hl.1 (ar := 3) (by decide +kernel) rfl ⟨Nat.le_of_ble_eq_true rfl, Nat.le_of_ble_eq_true rfl, Nat.le_of_ble_eq_true rfl, Nat.le_of_ble_eq_true rfl⟩ (Nat.le_of_ble_eq_true rfl) (fun rv uu H locs hp hG => ?_)
  obtain ⟨rfl, rfl⟩ := hp
  replace hG : gW D cy b n s H locs (enc b cy X S0) := hG
  obtain ⟨z_4, S_5, hc_6, hM⟩ := bd2_some hM
  have hK_7 : ∀ (H : Heap) (locs : List Loc) (ls : Array Slot), gW D cy b n s H locs (enc b cy X S_5) → lv_has ls 6 [(0, .ref (b + 80)), (1, .int (iI a1)), (2, .int (iI a2)), (3, .int (iI a3)), (4, .int (iI a4))] → W p l e (gRm 930 0 0) s m args below meth c H locs 0 0 (gQI D cy b s args below 0 0 (fun r u => r = iI o1 ∧ u = (n, enc b cy X o2))) (F0 m 25 ls [.int (iI z_4)]) := by
    intro H locs ls hG hl
    refine lv_istore (lv' := [(5, .int (iI z_4)), (0, .ref (b + 80)), (1, .int (iI a1)), (2, .int (iI a2)), (3, .int (iI a3)), (4, .int (iI a4))]) hx hb dX12_atoms_25 hl (by decide) rfl (fun ls hl => ?_)
    refine lv_iload hx hb dX12_atoms_27 (lv_at hl 0 rfl) ?_
    obtain ⟨hg_8, hM⟩ := gd_some hM
    refine gi_if_ge (tgt := 35) hx hb dX12_atoms_29 (by decide) hg_8 (fun c_9 => ?_) (fun c_9 => ?_)
    · replace hM := ifp hM c_9
      refine lv_aload_n hx hb dX12_atoms_35 rfl (lv_at hl 1 rfl) ?_
      refine lv_iload_n hx hb dX12_atoms_36 rfl (lv_at hl 2 rfl) ?_
      refine lv_iload_n hx hb dX12_atoms_37 rfl (lv_at hl 3 rfl) ?_
      refine lv_iload_n hx hb dX12_atoms_38 rfl (lv_at hl 4 rfl) ?_
      refine lv_iconst (v := iI (-1)) hx hb dX12_atoms_39 (by decide) ?_
      refine lv_iload hx hb dX12_atoms_40 (lv_at hl 5 rfl) ?_
      obtain ⟨S_11, hc_10, hM⟩ := bd1_some hM
      refine g_vv (As := [.int (iI a1), .int (iI a2), .int (iI a3), .int (iI (-1)), .int (iI a4)]) (rest := []) S hG hsz (vX12_goes l hn a1 a2 a3 (-1) a4 hc_10) wV_12_475 (ec_83 _) cpX12 (Nat.lt_of_lt_of_le (Nat.le_of_ble_eq_true rfl) hn) dX12_atoms_42 rfl hl.1 (ar := 5) (by decide +kernel) rfl ⟨Nat.le_of_ble_eq_true rfl, Nat.le_of_ble_eq_true rfl, Nat.le_of_ble_eq_true rfl, Nat.le_of_ble_eq_true rfl⟩ (Nat.le_of_ble_eq_true rfl) (fun uu H locs hp hG => ?_)
      obtain rfl := hp
      replace hG : gW D cy b n s H locs (enc b cy X S_11) := hG
      refine lv_aload_n hx hb dX12_atoms_45 rfl (lv_at hl 1 rfl) ?_
      refine m_get S hG 80 83 25 rfl ec_83 cpX12 wm_1698 dX12_atoms_46 rfl (Nat.lt_of_lt_of_le (Nat.le_of_ble_eq_true rfl) hn) (by decide) ?_
      cases hM
      exact g_iret S hr hlk hG hsz dX12_atoms_49 ⟨Nat.le_of_ble_eq_true rfl, Nat.le_of_ble_eq_true rfl⟩ ⟨rfl, rfl⟩
    · replace hM := ifn hM c_9
      refine lv_iload hx hb dX12_atoms_32 (lv_at hl 0 rfl) ?_
      cases hM
      exact g_iret S hr hlk hG hsz dX12_atoms_34 ⟨Nat.le_of_ble_eq_true rfl, Nat.le_of_ble_eq_true rfl⟩ ⟨rfl, rfl⟩
  clear hM
  replace hM := hc_6
  obtain ⟨hg_12, hM⟩ := gd_some hM
  refine gi_if_eq (tgt := 23) hx hb dX12_atoms_10 (by decide) hg_12 (fun c_13 => ?_) (fun c_13 => ?_)
  · replace hM := ifp hM c_13
    refine lv_bipush (v := iI (-2)) hx hb dX12_atoms_23 (by decide) ?_
    cases hM
    exact hK_7 H locs ls hG (lv_sub hl [0, 1, 2, 3, 4] rfl)
  · replace hM := ifn hM c_13
    refine lv_aload_n hx hb dX12_atoms_13 rfl (lv_at hl 0 rfl) ?_
    refine lv_iload_n hx hb dX12_atoms_14 rfl (lv_at hl 1 rfl) ?_
    refine lv_iload_n hx hb dX12_atoms_15 rfl (lv_at hl 2 rfl) ?_
    refine lv_iload_n hx hb dX12_atoms_16 rfl (lv_at hl 3 rfl) ?_
    obtain ⟨r_15, S_16, hc_14, hM⟩ := bd2_some hM
    refine g_vi (As := [.int (iI a1), .int (iI a2), .int (iI a3)]) (rest := []) S hG hsz (vX12_whyNot l hn a1 a2 a3 hc_14) wV_12_472 (ec_83 _) cpX12 (Nat.lt_of_lt_of_le (Nat.le_of_ble_eq_true rfl) hn) dX12_atoms_17 rfl hl.1 (ar := 3) (by decide +kernel) rfl ⟨Nat.le_of_ble_eq_true rfl, Nat.le_of_ble_eq_true rfl, Nat.le_of_ble_eq_true rfl, Nat.le_of_ble_eq_true rfl⟩ (Nat.le_of_ble_eq_true rfl) (fun rv uu H locs hp hG => ?_)
    obtain ⟨rfl, rfl⟩ := hp
    replace hG : gW D cy b n s H locs (enc b cy X S_16) := hG
    refine lv_goto (tgt := 25) hx hb dX12_atoms_20 (by decide) ?_
    cases hM
    exact hK_7 H locs ls hG (lv_sub hl [0, 1, 2, 3, 4] rfl)
def mX12_term (S0 : St) (a1 : Int) (a2 : Int) (a3 : Int) : Option (Int × St) := bd2 (mX12_whyNot S0 a1 a2 a3) fun r_2 S_3 => gd (inI r_2) <| if 0 ≤ r_2 then (bd1 (mX12_goes S_3 a1 a2 a3 (-1) (-1)) fun S_7 => some ((S_7 83 27), S_7)) else (some (r_2, S_3))
set_option maxHeartbeats 4000000 in
set_option maxRecDepth 100000 in
theorem vX12_term (l : Launch) {D : va_G} {cy : Nat → ClassId} {b n : Nat} (hn : 102 ≤ n) {X : Nat → va_E} {S0 : St} (a1 : Int) (a2 : Int) (a3 : Int) {o1 : Int} {o2 : St} (hM : mX12_term S0 a1 a2 a3 = some (o1, o2)) : gI l yX12_term cX12_term 5 (some .int) 930 0 0 D cy b n (enc b cy X S0) [.ref (b + 80), .int (iI a1), .int (iI a2), .int (iI a3)] (fun r u => r = iI o1 ∧ u = (n, enc b cy X o2)) := by
  refine gI_of (by decide) (Nat.le_of_ble_eq_true rfl) ?_
  intro p e s m args below meth c S hr hlk hin hsz ls hl hG
  have hx := S.1
  have hb := S.2.1
  have hl : lv_has ls 5 [(0, .ref (b + 80)), (1, .int (iI a1)), (2, .int (iI a2)), (3, .int (iI a3))] := hl
  replace hG : gW D cy b n s s.heap [] (enc b cy X S0) := hG
  obtain ⟨H, eH⟩ : ∃ H, H = s.heap := ⟨_, rfl⟩
  obtain ⟨locs, elocs⟩ : ∃ locs : List Loc, locs = [] := ⟨_, rfl⟩
  rw [← eH, ← elocs] at hG
  rw [← eH, ← elocs]
  clear eH elocs
  unfold mX12_term at hM
  refine lv_aload_n hx hb dX12_term_0 rfl (lv_at hl 0 rfl) ?_
  refine lv_iload_n hx hb dX12_term_1 rfl (lv_at hl 1 rfl) ?_
  refine lv_iload_n hx hb dX12_term_2 rfl (lv_at hl 2 rfl) ?_
  refine lv_iload_n hx hb dX12_term_3 rfl (lv_at hl 3 rfl) ?_
  obtain ⟨r_2, S_3, hc_1, hM⟩ := bd2_some hM
  refine g_vi (As := [.int (iI a1), .int (iI a2), .int (iI a3)]) (rest := []) S hG hsz (vX12_whyNot l hn a1 a2 a3 hc_1) wV_12_472 (ec_83 _) cpX12 (Nat.lt_of_lt_of_le (Nat.le_of_ble_eq_true rfl) hn) dX12_term_4 rfl hl.1 (ar := 3) (by decide +kernel) rfl ⟨Nat.le_of_ble_eq_true rfl, Nat.le_of_ble_eq_true rfl, Nat.le_of_ble_eq_true rfl, Nat.le_of_ble_eq_true rfl⟩ (Nat.le_of_ble_eq_true rfl) (fun rv uu H locs hp hG => ?_)
  obtain ⟨rfl, rfl⟩ := hp
  replace hG : gW D cy b n s H locs (enc b cy X S_3) := hG
  refine lv_istore (lv' := [(4, .int (iI r_2)), (0, .ref (b + 80)), (1, .int (iI a1)), (2, .int (iI a2)), (3, .int (iI a3))]) hx hb dX12_term_7 hl (by decide) rfl (fun ls hl => ?_)
  refine lv_iload hx hb dX12_term_9 (lv_at hl 0 rfl) ?_
  obtain ⟨hg_4, hM⟩ := gd_some hM
  refine gi_if_ge (tgt := 17) hx hb dX12_term_11 (by decide) hg_4 (fun c_5 => ?_) (fun c_5 => ?_)
  · replace hM := ifp hM c_5
    refine lv_aload_n hx hb dX12_term_17 rfl (lv_at hl 1 rfl) ?_
    refine lv_iload_n hx hb dX12_term_18 rfl (lv_at hl 2 rfl) ?_
    refine lv_iload_n hx hb dX12_term_19 rfl (lv_at hl 3 rfl) ?_
    refine lv_iload_n hx hb dX12_term_20 rfl (lv_at hl 4 rfl) ?_
    refine lv_iconst (v := iI (-1)) hx hb dX12_term_21 (by decide) ?_
    refine lv_iconst (v := iI (-1)) hx hb dX12_term_22 (by decide) ?_
    obtain ⟨S_7, hc_6, hM⟩ := bd1_some hM
    refine g_vv (As := [.int (iI a1), .int (iI a2), .int (iI a3), .int (iI (-1)), .int (iI (-1))]) (rest := []) S hG hsz (vX12_goes l hn a1 a2 a3 (-1) (-1) hc_6) wV_12_475 (ec_83 _) cpX12 (Nat.lt_of_lt_of_le (Nat.le_of_ble_eq_true rfl) hn) dX12_term_23 rfl hl.1 (ar := 5) (by decide +kernel) rfl ⟨Nat.le_of_ble_eq_true rfl, Nat.le_of_ble_eq_true rfl, Nat.le_of_ble_eq_true rfl, Nat.le_of_ble_eq_true rfl⟩ (Nat.le_of_ble_eq_true rfl) (fun uu H locs hp hG => ?_)
    obtain rfl := hp
    replace hG : gW D cy b n s H locs (enc b cy X S_7) := hG
    refine lv_aload_n hx hb dX12_term_26 rfl (lv_at hl 1 rfl) ?_
    refine m_get S hG 80 83 27 rfl ec_83 cpX12 wm_1700 dX12_term_27 rfl (Nat.lt_of_lt_of_le (Nat.le_of_ble_eq_true rfl) hn) (by decide) ?_
    cases hM
    exact g_iret S hr hlk hG hsz dX12_term_30 ⟨Nat.le_of_ble_eq_true rfl, Nat.le_of_ble_eq_true rfl⟩ ⟨rfl, rfl⟩
  · replace hM := ifn hM c_5
    refine lv_iload hx hb dX12_term_14 (lv_at hl 0 rfl) ?_
    cases hM
    exact g_iret S hr hlk hG hsz dX12_term_16 ⟨Nat.le_of_ble_eq_true rfl, Nat.le_of_ble_eq_true rfl⟩ ⟨rfl, rfl⟩
def mX12_symmetries (S0 : St) (a1 : Int) (a2 : Int) (a3 : Int) : Option (Int × St) := bd2 (mX12_whyNot S0 a1 a2 a3) fun r_2 S_3 => gd (inI r_2) <| if 0 ≤ r_2 then (bd1 (mX12_goes S_3 a1 a2 a3 (-1) (-1)) fun S_7 => some ((S_7 83 26), S_7)) else (some (r_2, S_3))
set_option maxHeartbeats 4000000 in
set_option maxRecDepth 100000 in
theorem vX12_symmetries (l : Launch) {D : va_G} {cy : Nat → ClassId} {b n : Nat} (hn : 102 ≤ n) {X : Nat → va_E} {S0 : St} (a1 : Int) (a2 : Int) (a3 : Int) {o1 : Int} {o2 : St} (hM : mX12_symmetries S0 a1 a2 a3 = some (o1, o2)) : gI l yX12_symmetries cX12_symmetries 5 (some .int) 930 0 0 D cy b n (enc b cy X S0) [.ref (b + 80), .int (iI a1), .int (iI a2), .int (iI a3)] (fun r u => r = iI o1 ∧ u = (n, enc b cy X o2)) := by
  refine gI_of (by decide) (Nat.le_of_ble_eq_true rfl) ?_
  intro p e s m args below meth c S hr hlk hin hsz ls hl hG
  have hx := S.1
  have hb := S.2.1
  have hl : lv_has ls 5 [(0, .ref (b + 80)), (1, .int (iI a1)), (2, .int (iI a2)), (3, .int (iI a3))] := hl
  replace hG : gW D cy b n s s.heap [] (enc b cy X S0) := hG
  obtain ⟨H, eH⟩ : ∃ H, H = s.heap := ⟨_, rfl⟩
  obtain ⟨locs, elocs⟩ : ∃ locs : List Loc, locs = [] := ⟨_, rfl⟩
  rw [← eH, ← elocs] at hG
  rw [← eH, ← elocs]
  clear eH elocs
  unfold mX12_symmetries at hM
  refine lv_aload_n hx hb dX12_symmetries_0 rfl (lv_at hl 0 rfl) ?_
  refine lv_iload_n hx hb dX12_symmetries_1 rfl (lv_at hl 1 rfl) ?_
  refine lv_iload_n hx hb dX12_symmetries_2 rfl (lv_at hl 2 rfl) ?_
  refine lv_iload_n hx hb dX12_symmetries_3 rfl (lv_at hl 3 rfl) ?_
  obtain ⟨r_2, S_3, hc_1, hM⟩ := bd2_some hM
  refine g_vi (As := [.int (iI a1), .int (iI a2), .int (iI a3)]) (rest := []) S hG hsz (vX12_whyNot l hn a1 a2 a3 hc_1) wV_12_472 (ec_83 _) cpX12 (Nat.lt_of_lt_of_le (Nat.le_of_ble_eq_true rfl) hn) dX12_symmetries_4 rfl hl.1 (ar := 3) (by decide +kernel) rfl ⟨Nat.le_of_ble_eq_true rfl, Nat.le_of_ble_eq_true rfl, Nat.le_of_ble_eq_true rfl, Nat.le_of_ble_eq_true rfl⟩ (Nat.le_of_ble_eq_true rfl) (fun rv uu H locs hp hG => ?_)
  obtain ⟨rfl, rfl⟩ := hp
  replace hG : gW D cy b n s H locs (enc b cy X S_3) := hG
  refine lv_istore (lv' := [(4, .int (iI r_2)), (0, .ref (b + 80)), (1, .int (iI a1)), (2, .int (iI a2)), (3, .int (iI a3))]) hx hb dX12_symmetries_7 hl (by decide) rfl (fun ls hl => ?_)
  refine lv_iload hx hb dX12_symmetries_9 (lv_at hl 0 rfl) ?_
  obtain ⟨hg_4, hM⟩ := gd_some hM
  refine gi_if_ge (tgt := 17) hx hb dX12_symmetries_11 (by decide) hg_4 (fun c_5 => ?_) (fun c_5 => ?_)
  · replace hM := ifp hM c_5
    refine lv_aload_n hx hb dX12_symmetries_17 rfl (lv_at hl 1 rfl) ?_
    refine lv_iload_n hx hb dX12_symmetries_18 rfl (lv_at hl 2 rfl) ?_
    refine lv_iload_n hx hb dX12_symmetries_19 rfl (lv_at hl 3 rfl) ?_
    refine lv_iload_n hx hb dX12_symmetries_20 rfl (lv_at hl 4 rfl) ?_
    refine lv_iconst (v := iI (-1)) hx hb dX12_symmetries_21 (by decide) ?_
    refine lv_iconst (v := iI (-1)) hx hb dX12_symmetries_22 (by decide) ?_
    obtain ⟨S_7, hc_6, hM⟩ := bd1_some hM
    refine g_vv (As := [.int (iI a1), .int (iI a2), .int (iI a3), .int (iI (-1)), .int (iI (-1))]) (rest := []) S hG hsz (vX12_goes l hn a1 a2 a3 (-1) (-1) hc_6) wV_12_475 (ec_83 _) cpX12 (Nat.lt_of_lt_of_le (Nat.le_of_ble_eq_true rfl) hn) dX12_symmetries_23 rfl hl.1 (ar := 5) (by decide +kernel) rfl ⟨Nat.le_of_ble_eq_true rfl, Nat.le_of_ble_eq_true rfl, Nat.le_of_ble_eq_true rfl, Nat.le_of_ble_eq_true rfl⟩ (Nat.le_of_ble_eq_true rfl) (fun uu H locs hp hG => ?_)
    obtain rfl := hp
    replace hG : gW D cy b n s H locs (enc b cy X S_7) := hG
    refine lv_aload_n hx hb dX12_symmetries_26 rfl (lv_at hl 1 rfl) ?_
    refine m_get S hG 80 83 26 rfl ec_83 cpX12 wm_1699 dX12_symmetries_27 rfl (Nat.lt_of_lt_of_le (Nat.le_of_ble_eq_true rfl) hn) (by decide) ?_
    cases hM
    exact g_iret S hr hlk hG hsz dX12_symmetries_30 ⟨Nat.le_of_ble_eq_true rfl, Nat.le_of_ble_eq_true rfl⟩ ⟨rfl, rfl⟩
  · replace hM := ifn hM c_5
    refine lv_iload hx hb dX12_symmetries_14 (lv_at hl 0 rfl) ?_
    cases hM
    exact g_iret S hr hlk hG hsz dX12_symmetries_16 ⟨Nat.le_of_ble_eq_true rfl, Nat.le_of_ble_eq_true rfl⟩ ⟨rfl, rfl⟩
theorem wV_12_479 : gWV "GrownKindsModel" 479 yX12_symmetries cX12_symmetries 5 (some .int) := ⟨wm_2285, wm_2278, wm_2279, wm_188, wm_2280, by decide +kernel, by decide +kernel⟩
def mX12_labels (S0 : St) (a1 : Int) (a2 : Int) (a3 : Int) : Option (Int × St) := bd2 (mX12_symmetries S0 a1 a2 a3) fun r_2 S_3 => gd (inI r_2) <| if 0 ≤ r_2 then (bd1 (mX12_factorial a2) fun r_7 => gd ((0 ≤ r_7 ∧ r_7 ≤ 2147483647) ∧ (0 < r_2 ∧ r_2 ≤ 2147483647)) <| some ((r_7 / r_2), S_3)) else (some (r_2, S_3))
set_option maxHeartbeats 4000000 in
set_option maxRecDepth 100000 in
theorem vX12_labels (l : Launch) {D : va_G} {cy : Nat → ClassId} {b n : Nat} (hn : 102 ≤ n) {X : Nat → va_E} {S0 : St} (a1 : Int) (a2 : Int) (a3 : Int) {o1 : Int} {o2 : St} (hM : mX12_labels S0 a1 a2 a3 = some (o1, o2)) : gI l yX12_labels cX12_labels 5 (some .int) 931 0 0 D cy b n (enc b cy X S0) [.ref (b + 80), .int (iI a1), .int (iI a2), .int (iI a3)] (fun r u => r = iI o1 ∧ u = (n, enc b cy X o2)) := by
  refine gI_of (by decide) (Nat.le_of_ble_eq_true rfl) ?_
  intro p e s m args below meth c S hr hlk hin hsz ls hl hG
  have hx := S.1
  have hb := S.2.1
  have hl : lv_has ls 5 [(0, .ref (b + 80)), (1, .int (iI a1)), (2, .int (iI a2)), (3, .int (iI a3))] := hl
  replace hG : gW D cy b n s s.heap [] (enc b cy X S0) := hG
  obtain ⟨H, eH⟩ : ∃ H, H = s.heap := ⟨_, rfl⟩
  obtain ⟨locs, elocs⟩ : ∃ locs : List Loc, locs = [] := ⟨_, rfl⟩
  rw [← eH, ← elocs] at hG
  rw [← eH, ← elocs]
  clear eH elocs
  unfold mX12_labels at hM
  refine lv_aload_n hx hb dX12_labels_0 rfl (lv_at hl 0 rfl) ?_
  refine lv_iload_n hx hb dX12_labels_1 rfl (lv_at hl 1 rfl) ?_
  refine lv_iload_n hx hb dX12_labels_2 rfl (lv_at hl 2 rfl) ?_
  refine lv_iload_n hx hb dX12_labels_3 rfl (lv_at hl 3 rfl) ?_
  obtain ⟨r_2, S_3, hc_1, hM⟩ := bd2_some hM
  refine g_vi (As := [.int (iI a1), .int (iI a2), .int (iI a3)]) (rest := []) S hG hsz (vX12_symmetries l hn a1 a2 a3 hc_1) wV_12_479 (ec_83 _) cpX12 (Nat.lt_of_lt_of_le (Nat.le_of_ble_eq_true rfl) hn) dX12_labels_4 rfl hl.1 (ar := 3) (by decide +kernel) rfl ⟨Nat.le_of_ble_eq_true rfl, Nat.le_of_ble_eq_true rfl, Nat.le_of_ble_eq_true rfl, Nat.le_of_ble_eq_true rfl⟩ (Nat.le_of_ble_eq_true rfl) (fun rv uu H locs hp hG => ?_)
  obtain ⟨rfl, rfl⟩ := hp
  replace hG : gW D cy b n s H locs (enc b cy X S_3) := hG
  refine lv_istore (lv' := [(4, .int (iI r_2)), (0, .ref (b + 80)), (1, .int (iI a1)), (2, .int (iI a2)), (3, .int (iI a3))]) hx hb dX12_labels_7 hl (by decide) rfl (fun ls hl => ?_)
  refine lv_iload hx hb dX12_labels_9 (lv_at hl 0 rfl) ?_
  obtain ⟨hg_4, hM⟩ := gd_some hM
  refine gi_if_ge (tgt := 19) hx hb dX12_labels_11 (by decide) hg_4 (fun c_5 => ?_) (fun c_5 => ?_)
  · replace hM := ifp hM c_5
    refine lv_iload_n hx hb dX12_labels_19 rfl (lv_at hl 3 rfl) ?_
    obtain ⟨r_7, hc_6, hM⟩ := bd1_some hM
    refine g_sl (As := [.int (iI a2)]) (rest := []) S hG hsz (vX12_factorial l hn a2 hc_6) wS_12_368 dX12_labels_20 rfl hl.1 (ar := 1) (by decide +kernel) rfl ⟨Nat.le_of_ble_eq_true rfl, Nat.le_of_ble_eq_true rfl, Nat.le_of_ble_eq_true rfl, Nat.le_of_ble_eq_true rfl⟩ (Nat.le_of_ble_eq_true rfl) (fun rv uu H locs hp hG => ?_)
    obtain ⟨rfl, rfl⟩ := hp
    replace hG : gW D cy b n s H locs (enc b cy X S_3) := hG
    refine gj_l2i hx hb dX12_labels_23 ?_
    refine lv_iload hx hb dX12_labels_24 (lv_at hl 0 rfl) ?_
    obtain ⟨hg_8, hM⟩ := gd_some hM
    refine gi_div hx hb dX12_labels_26 hg_8.1 hg_8.2 ?_
    cases hM
    exact g_iret S hr hlk hG hsz dX12_labels_27 ⟨Nat.le_of_ble_eq_true rfl, Nat.le_of_ble_eq_true rfl⟩ ⟨rfl, rfl⟩
  · replace hM := ifn hM c_5
    refine lv_iload hx hb dX12_labels_14 (lv_at hl 0 rfl) ?_
    refine lv_goto (tgt := 27) hx hb dX12_labels_16 (by decide) ?_
    cases hM
    exact g_iret S hr hlk hG hsz dX12_labels_27 ⟨Nat.le_of_ble_eq_true rfl, Nat.le_of_ble_eq_true rfl⟩ ⟨rfl, rfl⟩
def mX12_most_25 (a1 : Int) (a2 : Int) (a3 : Int) (a4 : Int) : Nat → Int → Int → Int → St → Option (Int × St)
  | 0, _, _, _, _ => none
  | f + 1, v_6, v_7, v_8, S_9 => gd (inI v_6) <| bd1 (mX12_kindMany S_9 a1 a2) fun r_19 => gd ((inL v_6) ∧ (inL r_19)) <| if r_19 ≤ v_6 then (some (v_8, S_9)) else (bd1 (mX12_goes S_9 a1 a2 v_6 (-1) a4) fun S_23 => bd1 (gd (inI a3) <| if a3 = 0 then (some ((S_23 83 23))) else (if a3 = 1 then (some ((S_23 83 25))) else (some ((S_23 83 26))))) fun z_24 => gd ((inI z_24) ∧ (inI v_7)) <| if z_24 ≤ v_7 then (mX12_most_25 a1 a2 a3 a4 f (v_6 + 1) v_7 v_8 S_23) else (mX12_most_25 a1 a2 a3 a4 f (v_6 + 1) z_24 v_6 S_23))
def mX12_most (S0 : St) (a1 : Int) (a2 : Int) (a3 : Int) (a4 : Int) : Option (Int × St) := bd2 (mX12_whyNone S0 a1 a2) fun r_2 S_3 => gd (inI r_2) <| if 0 ≤ r_2 then (bd2 (mX12_most_25 a1 a2 a3 a4 FU 0 (-1) 0 S_3) fun y_10 S_11 => some (y_10, S_11)) else (some (r_2, S_3))
set_option maxHeartbeats 4000000 in
set_option maxRecDepth 100000 in
theorem vX12_most (l : Launch) {D : va_G} {cy : Nat → ClassId} {b n : Nat} (hn : 102 ≤ n) {X : Nat → va_E} {S0 : St} (a1 : Int) (a2 : Int) (a3 : Int) (a4 : Int) {o1 : Int} {o2 : St} (hM : mX12_most S0 a1 a2 a3 a4 = some (o1, o2)) : gI l yX12_most cX12_most 10 (some .int) 930 0 0 D cy b n (enc b cy X S0) [.ref (b + 80), .int (iI a1), .int (iI a2), .int (iI a3), .int (iI a4)] (fun r u => r = iI o1 ∧ u = (n, enc b cy X o2)) := by
  refine gI_of (by decide) (Nat.le_of_ble_eq_true rfl) ?_
  intro p e s m args below meth c S hr hlk hin hsz ls hl hG
  have hx := S.1
  have hb := S.2.1
  have hl : lv_has ls 10 [(0, .ref (b + 80)), (1, .int (iI a1)), (2, .int (iI a2)), (3, .int (iI a3)), (4, .int (iI a4))] := hl
  replace hG : gW D cy b n s s.heap [] (enc b cy X S0) := hG
  obtain ⟨H, eH⟩ : ∃ H, H = s.heap := ⟨_, rfl⟩
  obtain ⟨locs, elocs⟩ : ∃ locs : List Loc, locs = [] := ⟨_, rfl⟩
  rw [← eH, ← elocs] at hG
  rw [← eH, ← elocs]
  clear eH elocs
  unfold mX12_most at hM
  refine lv_aload_n hx hb dX12_most_0 rfl (lv_at hl 0 rfl) ?_
  refine lv_iload_n hx hb dX12_most_1 rfl (lv_at hl 1 rfl) ?_
  refine lv_iload_n hx hb dX12_most_2 rfl (lv_at hl 2 rfl) ?_
  obtain ⟨r_2, S_3, hc_1, hM⟩ := bd2_some hM
  refine g_vi (As := [.int (iI a1), .int (iI a2)]) (rest := []) S hG hsz (vX12_whyNone l hn a1 a2 hc_1) wV_12_534 (ec_83 _) cpX12 (Nat.lt_of_lt_of_le (Nat.le_of_ble_eq_true rfl) hn) dX12_most_3 rfl hl.1 (ar := 2) (by decide +kernel) rfl ⟨Nat.le_of_ble_eq_true rfl, Nat.le_of_ble_eq_true rfl, Nat.le_of_ble_eq_true rfl, Nat.le_of_ble_eq_true rfl⟩ (Nat.le_of_ble_eq_true rfl) (fun rv uu H locs hp hG => ?_)
  obtain ⟨rfl, rfl⟩ := hp
  replace hG : gW D cy b n s H locs (enc b cy X S_3) := hG
  refine lv_istore (lv' := [(5, .int (iI r_2)), (0, .ref (b + 80)), (1, .int (iI a1)), (2, .int (iI a2)), (3, .int (iI a3)), (4, .int (iI a4))]) hx hb dX12_most_6 hl (by decide) rfl (fun ls hl => ?_)
  refine lv_iload hx hb dX12_most_8 (lv_at hl 0 rfl) ?_
  obtain ⟨hg_4, hM⟩ := gd_some hM
  refine gi_if_ge (tgt := 16) hx hb dX12_most_10 (by decide) hg_4 (fun c_5 => ?_) (fun c_5 => ?_)
  · replace hM := ifp hM c_5
    refine lv_iconst (v := iI 0) hx hb dX12_most_16 (by decide) ?_
    refine lv_istore (lv' := [(6, .int (iI 0)), (5, .int (iI r_2)), (0, .ref (b + 80)), (1, .int (iI a1)), (2, .int (iI a2)), (3, .int (iI a3)), (4, .int (iI a4))]) hx hb dX12_most_17 hl (by decide) rfl (fun ls hl => ?_)
    refine lv_iconst (v := iI (-1)) hx hb dX12_most_19 (by decide) ?_
    refine lv_istore (lv' := [(7, .int (iI (-1))), (6, .int (iI 0)), (5, .int (iI r_2)), (0, .ref (b + 80)), (1, .int (iI a1)), (2, .int (iI a2)), (3, .int (iI a3)), (4, .int (iI a4))]) hx hb dX12_most_20 hl (by decide) rfl (fun ls hl => ?_)
    refine lv_iconst (v := iI 0) hx hb dX12_most_22 (by decide) ?_
    refine lv_istore (lv' := [(8, .int (iI 0)), (7, .int (iI (-1))), (6, .int (iI 0)), (5, .int (iI r_2)), (0, .ref (b + 80)), (1, .int (iI a1)), (2, .int (iI a2)), (3, .int (iI a3)), (4, .int (iI a4))]) hx hb dX12_most_23 hl (by decide) rfl (fun ls hl => ?_)
    obtain ⟨y_10, S_11, hc_12, hM⟩ := bd2_some hM
    have hK_13 : ∀ (H : Heap) (locs : List Loc) (ls : Array Slot), gW D cy b n s H locs (enc b cy X S_11) → lv_has ls 10 [(6, .int (iI y_10))] → W p l e (gRm 930 0 0) s m args below meth c H locs 0 0 (gQI D cy b s args below 0 0 (fun r u => r = iI o1 ∧ u = (n, enc b cy X o2))) (F0 m 99 ls []) := by
      intro H locs ls hG hl
      refine lv_iload hx hb dX12_most_99 (lv_at hl 0 rfl) ?_
      cases hM
      exact g_iret S hr hlk hG hsz dX12_most_101 ⟨Nat.le_of_ble_eq_true rfl, Nat.le_of_ble_eq_true rfl⟩ ⟨rfl, rfl⟩
    have loop_14 : ∀ (f : Nat) (v_6 : Int) (v_7 : Int) (v_8 : Int) (S_9 : St) (H : Heap) (locs : List Loc) (ls : Array Slot), mX12_most_25 a1 a2 a3 a4 f v_6 v_7 v_8 S_9 = some (y_10, S_11) → gW D cy b n s H locs (enc b cy X S_9) → lv_has ls 10 [(8, .int (iI v_6)), (7, .int (iI v_7)), (6, .int (iI v_8)), (0, .ref (b + 80)), (1, .int (iI a1)), (2, .int (iI a2)), (3, .int (iI a3)), (4, .int (iI a4))] → W p l e (gRm 930 0 0) s m args below meth c H locs 0 0 (gQI D cy b s args below 0 0 (fun r u => r = iI o1 ∧ u = (n, enc b cy X o2))) (F0 m 25 ls []) := by
      clear hM
      intro f
      induction f with
      | zero => intro v_6 v_7 v_8 S_9 H locs ls hM; rw [mX12_most_25] at hM; cases hM
      | succ f_16 ih_15 =>
        intro v_6 v_7 v_8 S_9 H locs ls hM hG hl
        rw [mX12_most_25] at hM
        refine lv_iload hx hb dX12_most_25 (lv_at hl 0 rfl) ?_
        obtain ⟨hg_17, hM⟩ := gd_some hM
        refine gi_i2l hx hb dX12_most_27 hg_17 ?_
        refine lv_aload_n hx hb dX12_most_28 rfl (lv_at hl 3 rfl) ?_
        refine lv_iload_n hx hb dX12_most_29 rfl (lv_at hl 4 rfl) ?_
        refine lv_iload_n hx hb dX12_most_30 rfl (lv_at hl 5 rfl) ?_
        obtain ⟨r_19, hc_18, hM⟩ := bd1_some hM
        refine g_vl (As := [.int (iI a1), .int (iI a2)]) (rest := [.long (jJ v_6)]) S hG hsz (vX12_kindMany l hn a1 a2 hc_18) wV_12_320 (ec_83 _) cpX12 (Nat.lt_of_lt_of_le (Nat.le_of_ble_eq_true rfl) hn) dX12_most_31 rfl hl.1 (ar := 2) (by decide +kernel) rfl ⟨Nat.le_of_ble_eq_true rfl, Nat.le_of_ble_eq_true rfl, Nat.le_of_ble_eq_true rfl, Nat.le_of_ble_eq_true rfl⟩ (Nat.le_of_ble_eq_true rfl) (fun rv uu H locs hp hG => ?_)
        obtain ⟨rfl, rfl⟩ := hp
        replace hG : gW D cy b n s H locs (enc b cy X S_9) := hG
        obtain ⟨hg_20, hM⟩ := gd_some hM
        refine gj_cmp_ge (tgt := 99) hx hb dX12_most_34 dX12_most_35 (by decide) hg_20.1 hg_20.2 (fun c_21 => ?_) (fun c_21 => ?_)
        · replace hM := ifp hM c_21
          cases hM
          exact hK_13 H locs ls hG (lv_sub hl [2] rfl)
        · replace hM := ifn hM c_21
          refine lv_aload_n hx hb dX12_most_38 rfl (lv_at hl 3 rfl) ?_
          refine lv_iload_n hx hb dX12_most_39 rfl (lv_at hl 4 rfl) ?_
          refine lv_iload_n hx hb dX12_most_40 rfl (lv_at hl 5 rfl) ?_
          refine lv_iload hx hb dX12_most_41 (lv_at hl 0 rfl) ?_
          refine lv_iconst (v := iI (-1)) hx hb dX12_most_43 (by decide) ?_
          refine lv_iload hx hb dX12_most_44 (lv_at hl 7 rfl) ?_
          obtain ⟨S_23, hc_22, hM⟩ := bd1_some hM
          refine g_vv (As := [.int (iI a1), .int (iI a2), .int (iI v_6), .int (iI (-1)), .int (iI a4)]) (rest := []) S hG hsz (vX12_goes l hn a1 a2 v_6 (-1) a4 hc_22) wV_12_475 (ec_83 _) cpX12 (Nat.lt_of_lt_of_le (Nat.le_of_ble_eq_true rfl) hn) dX12_most_46 rfl hl.1 (ar := 5) (by decide +kernel) rfl ⟨Nat.le_of_ble_eq_true rfl, Nat.le_of_ble_eq_true rfl, Nat.le_of_ble_eq_true rfl, Nat.le_of_ble_eq_true rfl⟩ (Nat.le_of_ble_eq_true rfl) (fun uu H locs hp hG => ?_)
          obtain rfl := hp
          replace hG : gW D cy b n s H locs (enc b cy X S_23) := hG
          refine lv_iload_n hx hb dX12_most_49 rfl (lv_at hl 6 rfl) ?_
          obtain ⟨z_24, hc_25, hM⟩ := bd1_some hM
          have hK_26 : ∀ (H : Heap) (locs : List Loc) (ls : Array Slot), gW D cy b n s H locs (enc b cy X S_23) → lv_has ls 10 [(8, .int (iI v_6)), (7, .int (iI v_7)), (6, .int (iI v_8)), (0, .ref (b + 80)), (1, .int (iI a1)), (2, .int (iI a2)), (3, .int (iI a3)), (4, .int (iI a4))] → W p l e (gRm 930 0 0) s m args below meth c H locs 0 0 (gQI D cy b s args below 0 0 (fun r u => r = iI o1 ∧ u = (n, enc b cy X o2))) (F0 m 76 ls [.int (iI z_24)]) := by
            intro H locs ls hG hl
            refine lv_istore (lv' := [(9, .int (iI z_24)), (8, .int (iI v_6)), (7, .int (iI v_7)), (6, .int (iI v_8)), (0, .ref (b + 80)), (1, .int (iI a1)), (2, .int (iI a2)), (3, .int (iI a3)), (4, .int (iI a4))]) hx hb dX12_most_76 hl (by decide) rfl (fun ls hl => ?_)
            refine lv_iload hx hb dX12_most_78 (lv_at hl 0 rfl) ?_
            refine lv_iload hx hb dX12_most_80 (lv_at hl 2 rfl) ?_
            obtain ⟨hg_27, hM⟩ := gd_some hM
            refine gi_icmp_le (tgt := 93) hx hb dX12_most_82 (by decide) hg_27.1 hg_27.2 (fun c_28 => ?_) (fun c_28 => ?_)
            · replace hM := ifp hM c_28
              refine lv_iinc (v := iI (v_6 + 1)) (lv' := [(8, .int (iI (v_6 + 1))), (9, .int (iI z_24)), (7, .int (iI v_7)), (6, .int (iI v_8)), (0, .ref (b + 80)), (1, .int (iI a1)), (2, .int (iI a2)), (3, .int (iI a3)), (4, .int (iI a4))]) hx hb dX12_most_93 hl (k := 1) rfl ((iI_add v_6 (1)).trans (congrArg iI (by omega))) (by decide) rfl (fun ls hl => ?_)
              refine lv_goto (tgt := 25) hx hb dX12_most_96 (by decide) ?_
              exact ih_15 (v_6 + 1) v_7 v_8 S_23 H locs ls hM hG (lv_sub hl [0, 2, 3, 4, 5, 6, 7, 8] rfl)
            · replace hM := ifn hM c_28
              refine lv_iload hx hb dX12_most_85 (lv_at hl 0 rfl) ?_
              refine lv_istore (lv' := [(7, .int (iI z_24)), (9, .int (iI z_24)), (8, .int (iI v_6)), (6, .int (iI v_8)), (0, .ref (b + 80)), (1, .int (iI a1)), (2, .int (iI a2)), (3, .int (iI a3)), (4, .int (iI a4))]) hx hb dX12_most_87 hl (by decide) rfl (fun ls hl => ?_)
              refine lv_iload hx hb dX12_most_89 (lv_at hl 2 rfl) ?_
              refine lv_istore (lv' := [(6, .int (iI v_6)), (7, .int (iI z_24)), (9, .int (iI z_24)), (8, .int (iI v_6)), (0, .ref (b + 80)), (1, .int (iI a1)), (2, .int (iI a2)), (3, .int (iI a3)), (4, .int (iI a4))]) hx hb dX12_most_91 hl (by decide) rfl (fun ls hl => ?_)
              refine lv_iinc (v := iI (v_6 + 1)) (lv' := [(8, .int (iI (v_6 + 1))), (6, .int (iI v_6)), (7, .int (iI z_24)), (9, .int (iI z_24)), (0, .ref (b + 80)), (1, .int (iI a1)), (2, .int (iI a2)), (3, .int (iI a3)), (4, .int (iI a4))]) hx hb dX12_most_93 hl (k := 3) rfl ((iI_add v_6 (1)).trans (congrArg iI (by omega))) (by decide) rfl (fun ls hl => ?_)
              refine lv_goto (tgt := 25) hx hb dX12_most_96 (by decide) ?_
              exact ih_15 (v_6 + 1) z_24 v_6 S_23 H locs ls hM hG (lv_sub hl [0, 2, 1, 4, 5, 6, 7, 8] rfl)
          clear hM
          replace hM := hc_25
          obtain ⟨hg_29, hM⟩ := gd_some hM
          refine gi_if_ne (tgt := 60) hx hb dX12_most_50 (by decide) hg_29 (fun c_30 => ?_) (fun c_30 => ?_)
          · replace hM := ifn hM c_30
            refine lv_iload_n hx hb dX12_most_60 rfl (lv_at hl 6 rfl) ?_
            refine lv_iconst (v := iI 1) hx hb dX12_most_61 (by decide) ?_
            refine gi_icmp_ne (tgt := 72) hx hb dX12_most_62 (by decide) hg_29 (by decide) (fun c_31 => ?_) (fun c_31 => ?_)
            · replace hM := ifn hM c_31
              refine lv_aload_n hx hb dX12_most_72 rfl (lv_at hl 3 rfl) ?_
              refine m_get S hG 80 83 26 rfl ec_83 cpX12 wm_1699 dX12_most_73 rfl (Nat.lt_of_lt_of_le (Nat.le_of_ble_eq_true rfl) hn) (by decide) ?_
              cases hM
              exact hK_26 H locs ls hG (lv_sub hl [0, 1, 2, 3, 4, 5, 6, 7] rfl)
            · replace hM := ifp hM c_31
              refine lv_aload_n hx hb dX12_most_65 rfl (lv_at hl 3 rfl) ?_
              refine m_get S hG 80 83 25 rfl ec_83 cpX12 wm_1698 dX12_most_66 rfl (Nat.lt_of_lt_of_le (Nat.le_of_ble_eq_true rfl) hn) (by decide) ?_
              refine lv_goto (tgt := 76) hx hb dX12_most_69 (by decide) ?_
              cases hM
              exact hK_26 H locs ls hG (lv_sub hl [0, 1, 2, 3, 4, 5, 6, 7] rfl)
          · replace hM := ifp hM c_30
            refine lv_aload_n hx hb dX12_most_53 rfl (lv_at hl 3 rfl) ?_
            refine m_get S hG 80 83 23 rfl ec_83 cpX12 wm_1696 dX12_most_54 rfl (Nat.lt_of_lt_of_le (Nat.le_of_ble_eq_true rfl) hn) (by decide) ?_
            refine lv_goto (tgt := 76) hx hb dX12_most_57 (by decide) ?_
            cases hM
            exact hK_26 H locs ls hG (lv_sub hl [0, 1, 2, 3, 4, 5, 6, 7] rfl)
    exact loop_14 FU 0 (-1) 0 S_3 H locs ls hc_12 hG (lv_sub hl [0, 1, 2, 4, 5, 6, 7, 8] rfl)
  · replace hM := ifn hM c_5
    refine lv_iload hx hb dX12_most_13 (lv_at hl 0 rfl) ?_
    cases hM
    exact g_iret S hr hlk hG hsz dX12_most_15 ⟨Nat.le_of_ble_eq_true rfl, Nat.le_of_ble_eq_true rfl⟩ ⟨rfl, rfl⟩
theorem wV_12_537 : gWV "GrownKindsModel" 537 yX12_most cX12_most 10 (some .int) := ⟨wm_2362, wm_2364, wm_171, wm_188, wm_2365, by decide +kernel, by decide +kernel⟩
def mX12_deepest (S0 : St) (a1 : Int) (a2 : Int) : Option (Int × St) := bd2 (mX12_most S0 a1 a2 0 (-1)) fun r_2 S_3 => some (r_2, S_3)
set_option maxHeartbeats 4000000 in
set_option maxRecDepth 100000 in
theorem vX12_deepest (l : Launch) {D : va_G} {cy : Nat → ClassId} {b n : Nat} (hn : 102 ≤ n) {X : Nat → va_E} {S0 : St} (a1 : Int) (a2 : Int) {o1 : Int} {o2 : St} (hM : mX12_deepest S0 a1 a2 = some (o1, o2)) : gI l yX12_deepest cX12_deepest 3 (some .int) 931 0 0 D cy b n (enc b cy X S0) [.ref (b + 80), .int (iI a1), .int (iI a2)] (fun r u => r = iI o1 ∧ u = (n, enc b cy X o2)) := by
  refine gI_of (by decide) (Nat.le_of_ble_eq_true rfl) ?_
  intro p e s m args below meth c S hr hlk hin hsz ls hl hG
  have hx := S.1
  have hb := S.2.1
  have hl : lv_has ls 3 [(0, .ref (b + 80)), (1, .int (iI a1)), (2, .int (iI a2))] := hl
  replace hG : gW D cy b n s s.heap [] (enc b cy X S0) := hG
  obtain ⟨H, eH⟩ : ∃ H, H = s.heap := ⟨_, rfl⟩
  obtain ⟨locs, elocs⟩ : ∃ locs : List Loc, locs = [] := ⟨_, rfl⟩
  rw [← eH, ← elocs] at hG
  rw [← eH, ← elocs]
  clear eH elocs
  unfold mX12_deepest at hM
  refine lv_aload_n hx hb dX12_deepest_0 rfl (lv_at hl 0 rfl) ?_
  refine lv_iload_n hx hb dX12_deepest_1 rfl (lv_at hl 1 rfl) ?_
  refine lv_iload_n hx hb dX12_deepest_2 rfl (lv_at hl 2 rfl) ?_
  refine lv_iconst (v := iI 0) hx hb dX12_deepest_3 (by decide) ?_
  refine lv_iconst (v := iI (-1)) hx hb dX12_deepest_4 (by decide) ?_
  obtain ⟨r_2, S_3, hc_1, hM⟩ := bd2_some hM
  refine g_vi (As := [.int (iI a1), .int (iI a2), .int (iI 0), .int (iI (-1))]) (rest := []) S hG hsz (vX12_most l hn a1 a2 0 (-1) hc_1) wV_12_537 (ec_83 _) cpX12 (Nat.lt_of_lt_of_le (Nat.le_of_ble_eq_true rfl) hn) dX12_deepest_5 rfl hl.1 (ar := 4) (by decide +kernel) rfl ⟨Nat.le_of_ble_eq_true rfl, Nat.le_of_ble_eq_true rfl, Nat.le_of_ble_eq_true rfl, Nat.le_of_ble_eq_true rfl⟩ (Nat.le_of_ble_eq_true rfl) (fun rv uu H locs hp hG => ?_)
  obtain ⟨rfl, rfl⟩ := hp
  replace hG : gW D cy b n s H locs (enc b cy X S_3) := hG
  cases hM
  exact g_iret S hr hlk hG hsz dX12_deepest_8 ⟨Nat.le_of_ble_eq_true rfl, Nat.le_of_ble_eq_true rfl⟩ ⟨rfl, rfl⟩
def mX12_fullest (S0 : St) (a1 : Int) (a2 : Int) (a3 : Int) : Option (Int × St) := gd (inI a3) <| bd1 (mX12_in a3 0 25) fun r_3 => gd (inI r_3) <| if r_3 = 0 then (some ((-2), S0)) else (bd2 (mX12_most S0 a1 a2 1 a3) fun r_7 S_8 => some (r_7, S_8))
set_option maxHeartbeats 4000000 in
set_option maxRecDepth 100000 in
theorem vX12_fullest (l : Launch) {D : va_G} {cy : Nat → ClassId} {b n : Nat} (hn : 102 ≤ n) {X : Nat → va_E} {S0 : St} (a1 : Int) (a2 : Int) (a3 : Int) {o1 : Int} {o2 : St} (hM : mX12_fullest S0 a1 a2 a3 = some (o1, o2)) : gI l yX12_fullest cX12_fullest 4 (some .int) 931 0 0 D cy b n (enc b cy X S0) [.ref (b + 80), .int (iI a1), .int (iI a2), .int (iI a3)] (fun r u => r = iI o1 ∧ u = (n, enc b cy X o2)) := by
  refine gI_of (by decide) (Nat.le_of_ble_eq_true rfl) ?_
  intro p e s m args below meth c S hr hlk hin hsz ls hl hG
  have hx := S.1
  have hb := S.2.1
  have hl : lv_has ls 4 [(0, .ref (b + 80)), (1, .int (iI a1)), (2, .int (iI a2)), (3, .int (iI a3))] := hl
  replace hG : gW D cy b n s s.heap [] (enc b cy X S0) := hG
  obtain ⟨H, eH⟩ : ∃ H, H = s.heap := ⟨_, rfl⟩
  obtain ⟨locs, elocs⟩ : ∃ locs : List Loc, locs = [] := ⟨_, rfl⟩
  rw [← eH, ← elocs] at hG
  rw [← eH, ← elocs]
  clear eH elocs
  unfold mX12_fullest at hM
  refine lv_iload_n hx hb dX12_fullest_0 rfl (lv_at hl 3 rfl) ?_
  obtain ⟨hg_1, hM⟩ := gd_some hM
  refine gi_i2l hx hb dX12_fullest_1 hg_1 ?_
  refine lv_lconst (v := jJ 0) hx hb dX12_fullest_2 (by decide) ?_
  refine lv_ldc2 (v := 25) hx hb S.2.2.2.1 (S.2.2.2.2 _ wm_2111) dX12_fullest_3 ?_
  refine gj_as 25 (by decide) ?_
  obtain ⟨r_3, hc_2, hM⟩ := bd1_some hM
  refine g_si (As := [.long (jJ a3), .long (jJ 0), .long (jJ 25)]) (rest := []) S hG hsz (vX12_in l hn a3 0 25 hc_2) wS_12_97 dX12_fullest_6 rfl hl.1 (ar := 3) (by decide +kernel) rfl ⟨Nat.le_of_ble_eq_true rfl, Nat.le_of_ble_eq_true rfl, Nat.le_of_ble_eq_true rfl, Nat.le_of_ble_eq_true rfl⟩ (Nat.le_of_ble_eq_true rfl) (fun rv uu H locs hp hG => ?_)
  obtain ⟨rfl, rfl⟩ := hp
  replace hG : gW D cy b n s H locs (enc b cy X S0) := hG
  obtain ⟨hg_4, hM⟩ := gd_some hM
  refine gi_if_eq (tgt := 23) hx hb dX12_fullest_9 (by decide) hg_4 (fun c_5 => ?_) (fun c_5 => ?_)
  · replace hM := ifp hM c_5
    refine lv_bipush (v := iI (-2)) hx hb dX12_fullest_23 (by decide) ?_
    cases hM
    exact g_iret S hr hlk hG hsz dX12_fullest_25 ⟨Nat.le_of_ble_eq_true rfl, Nat.le_of_ble_eq_true rfl⟩ ⟨rfl, rfl⟩
  · replace hM := ifn hM c_5
    refine lv_aload_n hx hb dX12_fullest_12 rfl (lv_at hl 0 rfl) ?_
    refine lv_iload_n hx hb dX12_fullest_13 rfl (lv_at hl 1 rfl) ?_
    refine lv_iload_n hx hb dX12_fullest_14 rfl (lv_at hl 2 rfl) ?_
    refine lv_iconst (v := iI 1) hx hb dX12_fullest_15 (by decide) ?_
    refine lv_iload_n hx hb dX12_fullest_16 rfl (lv_at hl 3 rfl) ?_
    obtain ⟨r_7, S_8, hc_6, hM⟩ := bd2_some hM
    refine g_vi (As := [.int (iI a1), .int (iI a2), .int (iI 1), .int (iI a3)]) (rest := []) S hG hsz (vX12_most l hn a1 a2 1 a3 hc_6) wV_12_537 (ec_83 _) cpX12 (Nat.lt_of_lt_of_le (Nat.le_of_ble_eq_true rfl) hn) dX12_fullest_17 rfl hl.1 (ar := 4) (by decide +kernel) rfl ⟨Nat.le_of_ble_eq_true rfl, Nat.le_of_ble_eq_true rfl, Nat.le_of_ble_eq_true rfl, Nat.le_of_ble_eq_true rfl⟩ (Nat.le_of_ble_eq_true rfl) (fun rv uu H locs hp hG => ?_)
    obtain ⟨rfl, rfl⟩ := hp
    replace hG : gW D cy b n s H locs (enc b cy X S_8) := hG
    refine lv_goto (tgt := 25) hx hb dX12_fullest_20 (by decide) ?_
    cases hM
    exact g_iret S hr hlk hG hsz dX12_fullest_25 ⟨Nat.le_of_ble_eq_true rfl, Nat.le_of_ble_eq_true rfl⟩ ⟨rfl, rfl⟩
def mX12_stiffest (S0 : St) (a1 : Int) (a2 : Int) : Option (Int × St) := bd2 (mX12_most S0 a1 a2 2 (-1)) fun r_2 S_3 => some (r_2, S_3)
set_option maxHeartbeats 4000000 in
set_option maxRecDepth 100000 in
theorem vX12_stiffest (l : Launch) {D : va_G} {cy : Nat → ClassId} {b n : Nat} (hn : 102 ≤ n) {X : Nat → va_E} {S0 : St} (a1 : Int) (a2 : Int) {o1 : Int} {o2 : St} (hM : mX12_stiffest S0 a1 a2 = some (o1, o2)) : gI l yX12_stiffest cX12_stiffest 3 (some .int) 931 0 0 D cy b n (enc b cy X S0) [.ref (b + 80), .int (iI a1), .int (iI a2)] (fun r u => r = iI o1 ∧ u = (n, enc b cy X o2)) := by
  refine gI_of (by decide) (Nat.le_of_ble_eq_true rfl) ?_
  intro p e s m args below meth c S hr hlk hin hsz ls hl hG
  have hx := S.1
  have hb := S.2.1
  have hl : lv_has ls 3 [(0, .ref (b + 80)), (1, .int (iI a1)), (2, .int (iI a2))] := hl
  replace hG : gW D cy b n s s.heap [] (enc b cy X S0) := hG
  obtain ⟨H, eH⟩ : ∃ H, H = s.heap := ⟨_, rfl⟩
  obtain ⟨locs, elocs⟩ : ∃ locs : List Loc, locs = [] := ⟨_, rfl⟩
  rw [← eH, ← elocs] at hG
  rw [← eH, ← elocs]
  clear eH elocs
  unfold mX12_stiffest at hM
  refine lv_aload_n hx hb dX12_stiffest_0 rfl (lv_at hl 0 rfl) ?_
  refine lv_iload_n hx hb dX12_stiffest_1 rfl (lv_at hl 1 rfl) ?_
  refine lv_iload_n hx hb dX12_stiffest_2 rfl (lv_at hl 2 rfl) ?_
  refine lv_iconst (v := iI 2) hx hb dX12_stiffest_3 (by decide) ?_
  refine lv_iconst (v := iI (-1)) hx hb dX12_stiffest_4 (by decide) ?_
  obtain ⟨r_2, S_3, hc_1, hM⟩ := bd2_some hM
  refine g_vi (As := [.int (iI a1), .int (iI a2), .int (iI 2), .int (iI (-1))]) (rest := []) S hG hsz (vX12_most l hn a1 a2 2 (-1) hc_1) wV_12_537 (ec_83 _) cpX12 (Nat.lt_of_lt_of_le (Nat.le_of_ble_eq_true rfl) hn) dX12_stiffest_5 rfl hl.1 (ar := 4) (by decide +kernel) rfl ⟨Nat.le_of_ble_eq_true rfl, Nat.le_of_ble_eq_true rfl, Nat.le_of_ble_eq_true rfl, Nat.le_of_ble_eq_true rfl⟩ (Nat.le_of_ble_eq_true rfl) (fun rv uu H locs hp hG => ?_)
  obtain ⟨rfl, rfl⟩ := hp
  replace hG : gW D cy b n s H locs (enc b cy X S_3) := hG
  cases hM
  exact g_iret S hr hlk hG hsz dX12_stiffest_8 ⟨Nat.le_of_ble_eq_true rfl, Nat.le_of_ble_eq_true rfl⟩ ⟨rfl, rfl⟩
def mX12_mean_50 (a1 : Int) (a2 : Int) (a3 : Int) (a4 : Int) : Nat → Int → Int → St → Option (Int × St)
  | 0, _, _, _ => none
  | f + 1, v_10, v_11, S_12 => gd (inI v_10) <| bd1 (mX12_kindMany S_12 a1 a2) fun r_26 => gd ((inL v_10) ∧ (inL r_26)) <| if r_26 ≤ v_10 then (some (v_11, S_12)) else (bd1 (mX12_goes S_12 a1 a2 v_10 (-1) a3) fun S_30 => nx (v_11 + (S_30 83 25)) fun x_31 => mX12_mean_50 a1 a2 a3 a4 f (v_10 + 1) x_31 S_30)
def mX12_mean (S0 : St) (a1 : Int) (a2 : Int) (a3 : Int) (a4 : Int) : Option (Int × St) := gd (inI a3) <| bd1 (mX12_in a3 0 25) fun r_3 => bd2 (gd (inI r_3) <| if r_3 = 0 then (some ((-2), S0)) else (gd (inI a4) <| bd1 (mX12_in a4 0 1) fun r_36 => gd (inI r_36) <| if r_36 = 0 then (some ((-2), S0)) else (bd2 (mX12_whyNone S0 a1 a2) fun r_40 S_41 => some (r_40, S_41)))) fun z_4 S_5 => gd (inI z_4) <| if 0 ≤ z_4 then (bd2 (mX12_mean_50 a1 a2 a3 a4 FU 0 0 S_5) fun y_13 S_14 => bd1 (mX12_kindMany S_14 a1 a2) fun r_18 => bd1 (mX12_part y_13 r_18 a4) fun r_20 => some (r_20, S_14)) else (some (z_4, S_5))
set_option maxHeartbeats 4000000 in
set_option maxRecDepth 100000 in
theorem vX12_mean (l : Launch) {D : va_G} {cy : Nat → ClassId} {b n : Nat} (hn : 102 ≤ n) {X : Nat → va_E} {S0 : St} (a1 : Int) (a2 : Int) (a3 : Int) (a4 : Int) {o1 : Int} {o2 : St} (hM : mX12_mean S0 a1 a2 a3 a4 = some (o1, o2)) : gI l yX12_mean cX12_mean 8 (some .int) 930 0 0 D cy b n (enc b cy X S0) [.ref (b + 80), .int (iI a1), .int (iI a2), .int (iI a3), .int (iI a4)] (fun r u => r = iI o1 ∧ u = (n, enc b cy X o2)) := by
  refine gI_of (by decide) (Nat.le_of_ble_eq_true rfl) ?_
  intro p e s m args below meth c S hr hlk hin hsz ls hl hG
  have hx := S.1
  have hb := S.2.1
  have hl : lv_has ls 8 [(0, .ref (b + 80)), (1, .int (iI a1)), (2, .int (iI a2)), (3, .int (iI a3)), (4, .int (iI a4))] := hl
  replace hG : gW D cy b n s s.heap [] (enc b cy X S0) := hG
  obtain ⟨H, eH⟩ : ∃ H, H = s.heap := ⟨_, rfl⟩
  obtain ⟨locs, elocs⟩ : ∃ locs : List Loc, locs = [] := ⟨_, rfl⟩
  rw [← eH, ← elocs] at hG
  rw [← eH, ← elocs]
  clear eH elocs
  unfold mX12_mean at hM
  refine lv_iload_n hx hb dX12_mean_0 rfl (lv_at hl 3 rfl) ?_
  obtain ⟨hg_1, hM⟩ := gd_some hM
  refine gi_i2l hx hb dX12_mean_1 hg_1 ?_
  refine lv_lconst (v := jJ 0) hx hb dX12_mean_2 (by decide) ?_
  refine lv_ldc2 (v := 25) hx hb S.2.2.2.1 (S.2.2.2.2 _ wm_2111) dX12_mean_3 ?_
  refine gj_as 25 (by decide) ?_
  obtain ⟨r_3, hc_2, hM⟩ := bd1_some hM
  refine g_si (As := [.long (jJ a3), .long (jJ 0), .long (jJ 25)]) (rest := []) S hG hsz (vX12_in l hn a3 0 25 hc_2) wS_12_97 dX12_mean_6 rfl hl.1 (ar := 3) (by decide +kernel) rfl ⟨Nat.le_of_ble_eq_true rfl, Nat.le_of_ble_eq_true rfl, Nat.le_of_ble_eq_true rfl, Nat.le_of_ble_eq_true rfl⟩ (Nat.le_of_ble_eq_true rfl) (fun rv uu H locs hp hG => ?_)
  obtain ⟨rfl, rfl⟩ := hp
  replace hG : gW D cy b n s H locs (enc b cy X S0) := hG
  obtain ⟨z_4, S_5, hc_6, hM⟩ := bd2_some hM
  have hK_7 : ∀ (H : Heap) (locs : List Loc) (ls : Array Slot), gW D cy b n s H locs (enc b cy X S_5) → lv_has ls 8 [(0, .ref (b + 80)), (1, .int (iI a1)), (2, .int (iI a2)), (3, .int (iI a3)), (4, .int (iI a4))] → W p l e (gRm 930 0 0) s m args below meth c H locs 0 0 (gQI D cy b s args below 0 0 (fun r u => r = iI o1 ∧ u = (n, enc b cy X o2))) (F0 m 34 ls [.int (iI z_4)]) := by
    intro H locs ls hG hl
    refine lv_istore (lv' := [(5, .int (iI z_4)), (0, .ref (b + 80)), (1, .int (iI a1)), (2, .int (iI a2)), (3, .int (iI a3)), (4, .int (iI a4))]) hx hb dX12_mean_34 hl (by decide) rfl (fun ls hl => ?_)
    refine lv_iload hx hb dX12_mean_36 (lv_at hl 0 rfl) ?_
    obtain ⟨hg_8, hM⟩ := gd_some hM
    refine gi_if_ge (tgt := 44) hx hb dX12_mean_38 (by decide) hg_8 (fun c_9 => ?_) (fun c_9 => ?_)
    · replace hM := ifp hM c_9
      refine lv_iconst (v := iI 0) hx hb dX12_mean_44 (by decide) ?_
      refine lv_istore (lv' := [(6, .int (iI 0)), (5, .int (iI z_4)), (0, .ref (b + 80)), (1, .int (iI a1)), (2, .int (iI a2)), (3, .int (iI a3)), (4, .int (iI a4))]) hx hb dX12_mean_45 hl (by decide) rfl (fun ls hl => ?_)
      refine lv_iconst (v := iI 0) hx hb dX12_mean_47 (by decide) ?_
      refine lv_istore (lv' := [(7, .int (iI 0)), (6, .int (iI 0)), (5, .int (iI z_4)), (0, .ref (b + 80)), (1, .int (iI a1)), (2, .int (iI a2)), (3, .int (iI a3)), (4, .int (iI a4))]) hx hb dX12_mean_48 hl (by decide) rfl (fun ls hl => ?_)
      obtain ⟨y_13, S_14, hc_15, hM⟩ := bd2_some hM
      have hK_16 : ∀ (H : Heap) (locs : List Loc) (ls : Array Slot), gW D cy b n s H locs (enc b cy X S_14) → lv_has ls 8 [(0, .ref (b + 80)), (1, .int (iI a1)), (2, .int (iI a2)), (4, .int (iI a4)), (6, .int (iI y_13))] → W p l e (gRm 930 0 0) s m args below meth c H locs 0 0 (gQI D cy b s args below 0 0 (fun r u => r = iI o1 ∧ u = (n, enc b cy X o2))) (F0 m 88 ls []) := by
        intro H locs ls hG hl
        refine lv_iload hx hb dX12_mean_88 (lv_at hl 4 rfl) ?_
        refine lv_aload_n hx hb dX12_mean_90 rfl (lv_at hl 0 rfl) ?_
        refine lv_iload_n hx hb dX12_mean_91 rfl (lv_at hl 1 rfl) ?_
        refine lv_iload_n hx hb dX12_mean_92 rfl (lv_at hl 2 rfl) ?_
        obtain ⟨r_18, hc_17, hM⟩ := bd1_some hM
        refine g_vl (As := [.int (iI a1), .int (iI a2)]) (rest := [.int (iI y_13)]) S hG hsz (vX12_kindMany l hn a1 a2 hc_17) wV_12_320 (ec_83 _) cpX12 (Nat.lt_of_lt_of_le (Nat.le_of_ble_eq_true rfl) hn) dX12_mean_93 rfl hl.1 (ar := 2) (by decide +kernel) rfl ⟨Nat.le_of_ble_eq_true rfl, Nat.le_of_ble_eq_true rfl, Nat.le_of_ble_eq_true rfl, Nat.le_of_ble_eq_true rfl⟩ (Nat.le_of_ble_eq_true rfl) (fun rv uu H locs hp hG => ?_)
        obtain ⟨rfl, rfl⟩ := hp
        replace hG : gW D cy b n s H locs (enc b cy X S_14) := hG
        refine gj_l2i hx hb dX12_mean_96 ?_
        refine lv_iload hx hb dX12_mean_97 (lv_at hl 3 rfl) ?_
        obtain ⟨r_20, hc_19, hM⟩ := bd1_some hM
        refine g_si (As := [.int (iI y_13), .int (iI r_18), .int (iI a4)]) (rest := []) S hG hsz (vX12_part l hn y_13 r_18 a4 hc_19) wS_12_542 dX12_mean_99 rfl hl.1 (ar := 3) (by decide +kernel) rfl ⟨Nat.le_of_ble_eq_true rfl, Nat.le_of_ble_eq_true rfl, Nat.le_of_ble_eq_true rfl, Nat.le_of_ble_eq_true rfl⟩ (Nat.le_of_ble_eq_true rfl) (fun rv uu H locs hp hG => ?_)
        obtain ⟨rfl, rfl⟩ := hp
        replace hG : gW D cy b n s H locs (enc b cy X S_14) := hG
        cases hM
        exact g_iret S hr hlk hG hsz dX12_mean_102 ⟨Nat.le_of_ble_eq_true rfl, Nat.le_of_ble_eq_true rfl⟩ ⟨rfl, rfl⟩
      have loop_21 : ∀ (f : Nat) (v_10 : Int) (v_11 : Int) (S_12 : St) (H : Heap) (locs : List Loc) (ls : Array Slot), mX12_mean_50 a1 a2 a3 a4 f v_10 v_11 S_12 = some (y_13, S_14) → gW D cy b n s H locs (enc b cy X S_12) → lv_has ls 8 [(7, .int (iI v_10)), (6, .int (iI v_11)), (0, .ref (b + 80)), (1, .int (iI a1)), (2, .int (iI a2)), (3, .int (iI a3)), (4, .int (iI a4))] → W p l e (gRm 930 0 0) s m args below meth c H locs 0 0 (gQI D cy b s args below 0 0 (fun r u => r = iI o1 ∧ u = (n, enc b cy X o2))) (F0 m 50 ls []) := by
        clear hM
        intro f
        induction f with
        | zero => intro v_10 v_11 S_12 H locs ls hM; rw [mX12_mean_50] at hM; cases hM
        | succ f_23 ih_22 =>
          intro v_10 v_11 S_12 H locs ls hM hG hl
          rw [mX12_mean_50] at hM
          refine lv_iload hx hb dX12_mean_50 (lv_at hl 0 rfl) ?_
          obtain ⟨hg_24, hM⟩ := gd_some hM
          refine gi_i2l hx hb dX12_mean_52 hg_24 ?_
          refine lv_aload_n hx hb dX12_mean_53 rfl (lv_at hl 2 rfl) ?_
          refine lv_iload_n hx hb dX12_mean_54 rfl (lv_at hl 3 rfl) ?_
          refine lv_iload_n hx hb dX12_mean_55 rfl (lv_at hl 4 rfl) ?_
          obtain ⟨r_26, hc_25, hM⟩ := bd1_some hM
          refine g_vl (As := [.int (iI a1), .int (iI a2)]) (rest := [.long (jJ v_10)]) S hG hsz (vX12_kindMany l hn a1 a2 hc_25) wV_12_320 (ec_83 _) cpX12 (Nat.lt_of_lt_of_le (Nat.le_of_ble_eq_true rfl) hn) dX12_mean_56 rfl hl.1 (ar := 2) (by decide +kernel) rfl ⟨Nat.le_of_ble_eq_true rfl, Nat.le_of_ble_eq_true rfl, Nat.le_of_ble_eq_true rfl, Nat.le_of_ble_eq_true rfl⟩ (Nat.le_of_ble_eq_true rfl) (fun rv uu H locs hp hG => ?_)
          obtain ⟨rfl, rfl⟩ := hp
          replace hG : gW D cy b n s H locs (enc b cy X S_12) := hG
          obtain ⟨hg_27, hM⟩ := gd_some hM
          refine gj_cmp_ge (tgt := 88) hx hb dX12_mean_59 dX12_mean_60 (by decide) hg_27.1 hg_27.2 (fun c_28 => ?_) (fun c_28 => ?_)
          · replace hM := ifp hM c_28
            cases hM
            exact hK_16 H locs ls hG (lv_sub hl [2, 3, 4, 6, 1] rfl)
          · replace hM := ifn hM c_28
            refine lv_aload_n hx hb dX12_mean_63 rfl (lv_at hl 2 rfl) ?_
            refine lv_iload_n hx hb dX12_mean_64 rfl (lv_at hl 3 rfl) ?_
            refine lv_iload_n hx hb dX12_mean_65 rfl (lv_at hl 4 rfl) ?_
            refine lv_iload hx hb dX12_mean_66 (lv_at hl 0 rfl) ?_
            refine lv_iconst (v := iI (-1)) hx hb dX12_mean_68 (by decide) ?_
            refine lv_iload_n hx hb dX12_mean_69 rfl (lv_at hl 5 rfl) ?_
            obtain ⟨S_30, hc_29, hM⟩ := bd1_some hM
            refine g_vv (As := [.int (iI a1), .int (iI a2), .int (iI v_10), .int (iI (-1)), .int (iI a3)]) (rest := []) S hG hsz (vX12_goes l hn a1 a2 v_10 (-1) a3 hc_29) wV_12_475 (ec_83 _) cpX12 (Nat.lt_of_lt_of_le (Nat.le_of_ble_eq_true rfl) hn) dX12_mean_70 rfl hl.1 (ar := 5) (by decide +kernel) rfl ⟨Nat.le_of_ble_eq_true rfl, Nat.le_of_ble_eq_true rfl, Nat.le_of_ble_eq_true rfl, Nat.le_of_ble_eq_true rfl⟩ (Nat.le_of_ble_eq_true rfl) (fun uu H locs hp hG => ?_)
            obtain rfl := hp
            replace hG : gW D cy b n s H locs (enc b cy X S_30) := hG
            refine lv_iload hx hb dX12_mean_73 (lv_at hl 1 rfl) ?_
            refine lv_aload_n hx hb dX12_mean_75 rfl (lv_at hl 2 rfl) ?_
            refine m_get S hG 80 83 25 rfl ec_83 cpX12 wm_1698 dX12_mean_76 rfl (Nat.lt_of_lt_of_le (Nat.le_of_ble_eq_true rfl) hn) (by decide) ?_
            refine gi_add hx hb dX12_mean_79 ?_
            refine gi_nm (fun x_31 ex_31 => ?_)
            replace hM := nx_at hM ex_31
            clear ex_31
            refine lv_istore (lv' := [(6, .int (iI x_31)), (7, .int (iI v_10)), (0, .ref (b + 80)), (1, .int (iI a1)), (2, .int (iI a2)), (3, .int (iI a3)), (4, .int (iI a4))]) hx hb dX12_mean_80 hl (by decide) rfl (fun ls hl => ?_)
            refine lv_iinc (v := iI (v_10 + 1)) (lv' := [(7, .int (iI (v_10 + 1))), (6, .int (iI x_31)), (0, .ref (b + 80)), (1, .int (iI a1)), (2, .int (iI a2)), (3, .int (iI a3)), (4, .int (iI a4))]) hx hb dX12_mean_82 hl (k := 1) rfl ((iI_add v_10 (1)).trans (congrArg iI (by omega))) (by decide) rfl (fun ls hl => ?_)
            refine lv_goto (tgt := 50) hx hb dX12_mean_85 (by decide) ?_
            exact ih_22 (v_10 + 1) x_31 S_30 H locs ls hM hG (lv_sub hl [0, 1, 2, 3, 4, 5, 6] rfl)
      exact loop_21 FU 0 0 S_5 H locs ls hc_15 hG (lv_sub hl [0, 1, 3, 4, 5, 6, 7] rfl)
    · replace hM := ifn hM c_9
      refine lv_iload hx hb dX12_mean_41 (lv_at hl 0 rfl) ?_
      cases hM
      exact g_iret S hr hlk hG hsz dX12_mean_43 ⟨Nat.le_of_ble_eq_true rfl, Nat.le_of_ble_eq_true rfl⟩ ⟨rfl, rfl⟩
  clear hM
  replace hM := hc_6
  obtain ⟨hg_32, hM⟩ := gd_some hM
  refine gi_if_eq (tgt := 32) hx hb dX12_mean_9 (by decide) hg_32 (fun c_33 => ?_) (fun c_33 => ?_)
  · replace hM := ifp hM c_33
    refine lv_bipush (v := iI (-2)) hx hb dX12_mean_32 (by decide) ?_
    cases hM
    exact hK_7 H locs ls hG (lv_sub hl [0, 1, 2, 3, 4] rfl)
  · replace hM := ifn hM c_33
    refine lv_iload hx hb dX12_mean_12 (lv_at hl 4 rfl) ?_
    obtain ⟨hg_34, hM⟩ := gd_some hM
    refine gi_i2l hx hb dX12_mean_14 hg_34 ?_
    refine lv_lconst (v := jJ 0) hx hb dX12_mean_15 (by decide) ?_
    refine lv_lconst (v := jJ 1) hx hb dX12_mean_16 (by decide) ?_
    obtain ⟨r_36, hc_35, hM⟩ := bd1_some hM
    refine g_si (As := [.long (jJ a4), .long (jJ 0), .long (jJ 1)]) (rest := []) S hG hsz (vX12_in l hn a4 0 1 hc_35) wS_12_97 dX12_mean_17 rfl hl.1 (ar := 3) (by decide +kernel) rfl ⟨Nat.le_of_ble_eq_true rfl, Nat.le_of_ble_eq_true rfl, Nat.le_of_ble_eq_true rfl, Nat.le_of_ble_eq_true rfl⟩ (Nat.le_of_ble_eq_true rfl) (fun rv uu H locs hp hG => ?_)
    obtain ⟨rfl, rfl⟩ := hp
    replace hG : gW D cy b n s H locs (enc b cy X S0) := hG
    obtain ⟨hg_37, hM⟩ := gd_some hM
    refine gi_if_eq (tgt := 32) hx hb dX12_mean_20 (by decide) hg_37 (fun c_38 => ?_) (fun c_38 => ?_)
    · replace hM := ifp hM c_38
      refine lv_bipush (v := iI (-2)) hx hb dX12_mean_32 (by decide) ?_
      cases hM
      exact hK_7 H locs ls hG (lv_sub hl [0, 1, 2, 3, 4] rfl)
    · replace hM := ifn hM c_38
      refine lv_aload_n hx hb dX12_mean_23 rfl (lv_at hl 0 rfl) ?_
      refine lv_iload_n hx hb dX12_mean_24 rfl (lv_at hl 1 rfl) ?_
      refine lv_iload_n hx hb dX12_mean_25 rfl (lv_at hl 2 rfl) ?_
      obtain ⟨r_40, S_41, hc_39, hM⟩ := bd2_some hM
      refine g_vi (As := [.int (iI a1), .int (iI a2)]) (rest := []) S hG hsz (vX12_whyNone l hn a1 a2 hc_39) wV_12_534 (ec_83 _) cpX12 (Nat.lt_of_lt_of_le (Nat.le_of_ble_eq_true rfl) hn) dX12_mean_26 rfl hl.1 (ar := 2) (by decide +kernel) rfl ⟨Nat.le_of_ble_eq_true rfl, Nat.le_of_ble_eq_true rfl, Nat.le_of_ble_eq_true rfl, Nat.le_of_ble_eq_true rfl⟩ (Nat.le_of_ble_eq_true rfl) (fun rv uu H locs hp hG => ?_)
      obtain ⟨rfl, rfl⟩ := hp
      replace hG : gW D cy b n s H locs (enc b cy X S_41) := hG
      refine lv_goto (tgt := 34) hx hb dX12_mean_29 (by decide) ?_
      cases hM
      exact hK_7 H locs ls hG (lv_sub hl [0, 1, 2, 3, 4] rfl)
