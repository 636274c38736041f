theorem dX12_isAt_0 : decode cX12_isAt 0 = .ok (.aload_n 0, 1) := by decide +kernel
theorem dX12_isAt_1 : decode cX12_isAt 1 = .ok (.getfield 101, 3) := by decide +kernel
theorem wm_1679 : (Jvm.Cond.fieldLink "GrownKindsModel" (101 : Nat) "GrownKindsModel" "at" "I") ∈ gT := gT_in (List.mem_of_getElem? (i := 1679) (by decide +kernel)) (by decide +kernel)
theorem dX12_isAt_4 : decode cX12_isAt 4 = .ok (.aload_n 0, 1) := by decide +kernel
theorem dX12_isAt_5 : decode cX12_isAt 5 = .ok (.getfield 94, 3) := by decide +kernel
theorem dX12_isAt_8 : decode cX12_isAt 8 = .ok (.if_icmp .ge 27, 3) := by decide +kernel
theorem dX12_isAt_35 : decode cX12_isAt 35 = .ok (.iconst 0, 1) := by decide +kernel
theorem dX12_isAt_36 : decode cX12_isAt 36 = .ok (.ireturn, 1) := by decide +kernel
theorem dX12_isAt_11 : decode cX12_isAt 11 = .ok (.aload_n 0, 1) := by decide +kernel
theorem dX12_isAt_12 : decode cX12_isAt 12 = .ok (.getfield 22, 3) := by decide +kernel
theorem dX12_isAt_15 : decode cX12_isAt 15 = .ok (.aload_n 0, 1) := by decide +kernel
theorem dX12_isAt_16 : decode cX12_isAt 16 = .ok (.getfield 101, 3) := by decide +kernel
theorem dX12_isAt_19 : decode cX12_isAt 19 = .ok (.iaload, 1) := by decide +kernel
theorem dX12_isAt_20 : decode cX12_isAt 20 = .ok (.i2l, 1) := by decide +kernel
theorem dX12_isAt_21 : decode cX12_isAt 21 = .ok (.iload_n 1, 1) := by decide +kernel
theorem dX12_isAt_22 : decode cX12_isAt 22 = .ok (.i2l, 1) := by decide +kernel
theorem dX12_isAt_23 : decode cX12_isAt 23 = .ok (.iload_n 2, 1) := by decide +kernel
theorem dX12_isAt_24 : decode cX12_isAt 24 = .ok (.i2l, 1) := by decide +kernel
theorem dX12_isAt_25 : decode cX12_isAt 25 = .ok (.invokestatic 97, 3) := by decide +kernel
theorem dX12_isAt_28 : decode cX12_isAt 28 = .ok (.ifCond .eq 7, 3) := by decide +kernel
theorem dX12_isAt_31 : decode cX12_isAt 31 = .ok (.iconst 1, 1) := by decide +kernel
theorem dX12_isAt_32 : decode cX12_isAt 32 = .ok (.goto 4, 3) := by decide +kernel
theorem dX12_next_0 : decode cX12_next 0 = .ok (.aload_n 0, 1) := by decide +kernel
theorem dX12_next_1 : decode cX12_next 1 = .ok (.bipush 32, 2) := by decide +kernel
theorem dX12_next_3 : decode cX12_next 3 = .ok (.bipush 32, 2) := by decide +kernel
theorem dX12_next_5 : decode cX12_next 5 = .ok (.invokevirtual 104, 3) := by decide +kernel
theorem wm_1850 : (Jvm.Cond.methodLink "GrownKindsModel" (104 : Nat) ({ cls := "GrownKindsModel", name := "isAt", desc := "(II)Z" } : Jvm.MethodName)) ∈ gT := gT_in (List.mem_of_getElem? (i := 1850) (by decide +kernel)) (by decide +kernel)
theorem wm_1852 : (Jvm.Cond.instanceMethod ({ cls := "GrownKindsModel", name := "isAt", desc := "(II)Z" } : Jvm.MethodName)) ∈ gT := gT_in (List.mem_of_getElem? (i := 1852) (by decide +kernel)) (by decide +kernel)
theorem wm_89 : Cond.selects "GrownKindsModel" ⟨"GrownKindsModel", "isAt", "(II)Z"⟩ ⟨"GrownKindsModel", "isAt", "(II)Z"⟩ ∈ gT := gT_in (List.mem_of_getElem? (i := 89) (by decide +kernel)) (by decide +kernel)
theorem wm_1853 : (Jvm.Cond.code ({ cls := "GrownKindsModel", name := "isAt", desc := "(II)Z" } : Jvm.MethodName) prog_14_method_10_code (3 : Nat) (Option.some Jvm.ClassFile.FieldType.boolean)) ∈ gT := gT_in (List.mem_of_getElem? (i := 1853) (by decide +kernel)) (by decide +kernel)
theorem dX12_next_8 : decode cX12_next 8 = .ok (.ifCond .ne 14, 3) := by decide +kernel
theorem dX12_next_11 : decode cX12_next 11 = .ok (.aload_n 0, 1) := by decide +kernel
theorem dX12_next_12 : decode cX12_next 12 = .ok (.bipush 10, 2) := by decide +kernel
theorem dX12_next_14 : decode cX12_next 14 = .ok (.bipush 10, 2) := by decide +kernel
theorem dX12_next_16 : decode cX12_next 16 = .ok (.invokevirtual 104, 3) := by decide +kernel
theorem dX12_next_19 : decode cX12_next 19 = .ok (.ifCond .eq 16, 3) := by decide +kernel
theorem dX12_next_22 : decode cX12_next 22 = .ok (.aload_n 0, 1) := by decide +kernel
theorem dX12_next_23 : decode cX12_next 23 = .ok (.dup, 1) := by decide +kernel
theorem dX12_next_24 : decode cX12_next 24 = .ok (.getfield 101, 3) := by decide +kernel
theorem dX12_next_27 : decode cX12_next 27 = .ok (.iconst 1, 1) := by decide +kernel
theorem dX12_next_28 : decode cX12_next 28 = .ok (.iadd, 1) := by decide +kernel
theorem dX12_next_29 : decode cX12_next 29 = .ok (.putfield 101, 3) := by decide +kernel
theorem dX12_next_32 : decode cX12_next 32 = .ok (.goto (-32), 3) := by decide +kernel
theorem dX12_next_35 : decode cX12_next 35 = .ok (.aload_n 0, 1) := by decide +kernel
theorem dX12_next_36 : decode cX12_next 36 = .ok (.aload_n 0, 1) := by decide +kernel
theorem dX12_next_37 : decode cX12_next 37 = .ok (.getfield 101, 3) := by decide +kernel
theorem dX12_next_40 : decode cX12_next 40 = .ok (.putfield 108, 3) := by decide +kernel
theorem wm_1680 : (Jvm.Cond.fieldLink "GrownKindsModel" (108 : Nat) "GrownKindsModel" "begin" "I") ∈ gT := gT_in (List.mem_of_getElem? (i := 1680) (by decide +kernel)) (by decide +kernel)
theorem dX12_next_43 : decode cX12_next 43 = .ok (.aload_n 0, 1) := by decide +kernel
theorem dX12_next_44 : decode cX12_next 44 = .ok (.iconst 0, 1) := by decide +kernel
theorem dX12_next_45 : decode cX12_next 45 = .ok (.putfield 111, 3) := by decide +kernel
theorem wm_1682 : (Jvm.Cond.fieldLink "GrownKindsModel" (111 : Nat) "GrownKindsModel" "value" "I") ∈ gT := gT_in (List.mem_of_getElem? (i := 1682) (by decide +kernel)) (by decide +kernel)
theorem dX12_next_48 : decode cX12_next 48 = .ok (.aload_n 0, 1) := by decide +kernel
theorem dX12_next_49 : decode cX12_next 49 = .ok (.getfield 101, 3) := by decide +kernel
theorem dX12_next_52 : decode cX12_next 52 = .ok (.aload_n 0, 1) := by decide +kernel
theorem dX12_next_53 : decode cX12_next 53 = .ok (.getfield 94, 3) := by decide +kernel
theorem dX12_next_56 : decode cX12_next 56 = .ok (.if_icmp .ne 11, 3) := by decide +kernel
theorem dX12_next_67 : decode cX12_next 67 = .ok (.aload_n 0, 1) := by decide +kernel
theorem dX12_next_68 : decode cX12_next 68 = .ok (.bipush 97, 2) := by decide +kernel
theorem dX12_next_70 : decode cX12_next 70 = .ok (.bipush 122, 2) := by decide +kernel
theorem dX12_next_72 : decode cX12_next 72 = .ok (.invokevirtual 104, 3) := by decide +kernel
theorem dX12_next_75 : decode cX12_next 75 = .ok (.ifCond .eq 32, 3) := by decide +kernel
theorem dX12_next_107 : decode cX12_next 107 = .ok (.aload_n 0, 1) := by decide +kernel
theorem dX12_next_108 : decode cX12_next 108 = .ok (.bipush 48, 2) := by decide +kernel
theorem dX12_next_110 : decode cX12_next 110 = .ok (.bipush 57, 2) := by decide +kernel
theorem dX12_next_112 : decode cX12_next 112 = .ok (.invokevirtual 104, 3) := by decide +kernel
theorem dX12_next_115 : decode cX12_next 115 = .ok (.ifCond .eq 62, 3) := by decide +kernel
theorem dX12_next_177 : decode cX12_next 177 = .ok (.aload_n 0, 1) := by decide +kernel
theorem dX12_next_178 : decode cX12_next 178 = .ok (.aload_n 0, 1) := by decide +kernel
theorem dX12_next_179 : decode cX12_next 179 = .ok (.bipush 61, 2) := by decide +kernel
theorem dX12_next_181 : decode cX12_next 181 = .ok (.bipush 61, 2) := by decide +kernel
theorem dX12_next_183 : decode cX12_next 183 = .ok (.invokevirtual 104, 3) := by decide +kernel
theorem dX12_next_186 : decode cX12_next 186 = .ok (.ifCond .ne 25, 3) := by decide +kernel
theorem dX12_next_211 : decode cX12_next 211 = .ok (.iconst 3, 1) := by decide +kernel
theorem dX12_next_212 : decode cX12_next 212 = .ok (.goto 4, 3) := by decide +kernel
theorem dX12_next_189 : decode cX12_next 189 = .ok (.aload_n 0, 1) := by decide +kernel
theorem dX12_next_190 : decode cX12_next 190 = .ok (.bipush 59, 2) := by decide +kernel
theorem dX12_next_192 : decode cX12_next 192 = .ok (.bipush 59, 2) := by decide +kernel
theorem dX12_next_194 : decode cX12_next 194 = .ok (.invokevirtual 104, 3) := by decide +kernel
theorem dX12_next_197 : decode cX12_next 197 = .ok (.ifCond .ne 14, 3) := by decide +kernel
theorem dX12_next_200 : decode cX12_next 200 = .ok (.aload_n 0, 1) := by decide +kernel
theorem dX12_next_201 : decode cX12_next 201 = .ok (.bipush 40, 2) := by decide +kernel
theorem dX12_next_203 : decode cX12_next 203 = .ok (.bipush 41, 2) := by decide +kernel
theorem dX12_next_205 : decode cX12_next 205 = .ok (.invokevirtual 104, 3) := by decide +kernel
theorem dX12_next_208 : decode cX12_next 208 = .ok (.ifCond .eq 7, 3) := by decide +kernel
theorem dX12_next_215 : decode cX12_next 215 = .ok (.iconst 4, 1) := by decide +kernel
theorem dX12_next_216 : decode cX12_next 216 = .ok (.putfield 114, 3) := by decide +kernel
theorem wm_1681 : (Jvm.Cond.fieldLink "GrownKindsModel" (114 : Nat) "GrownKindsModel" "token" "I") ∈ gT := gT_in (List.mem_of_getElem? (i := 1681) (by decide +kernel)) (by decide +kernel)
theorem dX12_next_219 : decode cX12_next 219 = .ok (.aload_n 0, 1) := by decide +kernel
theorem dX12_next_220 : decode cX12_next 220 = .ok (.dup, 1) := by decide +kernel
theorem dX12_next_221 : decode cX12_next 221 = .ok (.getfield 101, 3) := by decide +kernel
theorem dX12_next_224 : decode cX12_next 224 = .ok (.iconst 1, 1) := by decide +kernel
theorem dX12_next_225 : decode cX12_next 225 = .ok (.iadd, 1) := by decide +kernel
theorem dX12_next_226 : decode cX12_next 226 = .ok (.putfield 101, 3) := by decide +kernel
theorem dX12_next_229 : decode cX12_next 229 = .ok (.return_, 1) := by decide +kernel
theorem dX12_next_118 : decode cX12_next 118 = .ok (.aload_n 0, 1) := by decide +kernel
theorem dX12_next_119 : decode cX12_next 119 = .ok (.iconst 2, 1) := by decide +kernel
theorem dX12_next_120 : decode cX12_next 120 = .ok (.putfield 114, 3) := by decide +kernel
theorem dX12_next_123 : decode cX12_next 123 = .ok (.aload_n 0, 1) := by decide +kernel
theorem dX12_next_124 : decode cX12_next 124 = .ok (.bipush 48, 2) := by decide +kernel
theorem dX12_next_126 : decode cX12_next 126 = .ok (.bipush 57, 2) := by decide +kernel
theorem dX12_next_128 : decode cX12_next 128 = .ok (.invokevirtual 104, 3) := by decide +kernel
theorem dX12_next_131 : decode cX12_next 131 = .ok (.ifCond .eq 98, 3) := by decide +kernel
theorem dX12_next_134 : decode cX12_next 134 = .ok (.aload_n 0, 1) := by decide +kernel
theorem dX12_next_135 : decode cX12_next 135 = .ok (.sipush 9999, 3) := by decide +kernel
theorem dX12_next_138 : decode cX12_next 138 = .ok (.bipush 10, 2) := by decide +kernel
theorem dX12_next_140 : decode cX12_next 140 = .ok (.aload_n 0, 1) := by decide +kernel
theorem dX12_next_141 : decode cX12_next 141 = .ok (.getfield 111, 3) := by decide +kernel
theorem dX12_next_144 : decode cX12_next 144 = .ok (.imul, 1) := by decide +kernel
theorem dX12_next_145 : decode cX12_next 145 = .ok (.aload_n 0, 1) := by decide +kernel
theorem dX12_next_146 : decode cX12_next 146 = .ok (.getfield 22, 3) := by decide +kernel
theorem dX12_next_149 : decode cX12_next 149 = .ok (.aload_n 0, 1) := by decide +kernel
theorem dX12_next_150 : decode cX12_next 150 = .ok (.getfield 101, 3) := by decide +kernel
theorem dX12_next_153 : decode cX12_next 153 = .ok (.iaload, 1) := by decide +kernel
theorem dX12_next_154 : decode cX12_next 154 = .ok (.iadd, 1) := by decide +kernel
theorem dX12_next_155 : decode cX12_next 155 = .ok (.bipush 48, 2) := by decide +kernel
theorem dX12_next_157 : decode cX12_next 157 = .ok (.isub, 1) := by decide +kernel
theorem dX12_next_158 : decode cX12_next 158 = .ok (.invokestatic 117, 3) := by decide +kernel
theorem dX12_next_161 : decode cX12_next 161 = .ok (.putfield 111, 3) := by decide +kernel
theorem dX12_next_164 : decode cX12_next 164 = .ok (.aload_n 0, 1) := by decide +kernel
theorem dX12_next_165 : decode cX12_next 165 = .ok (.dup, 1) := by decide +kernel
theorem dX12_next_166 : decode cX12_next 166 = .ok (.getfield 101, 3) := by decide +kernel
theorem dX12_next_169 : decode cX12_next 169 = .ok (.iconst 1, 1) := by decide +kernel
theorem dX12_next_170 : decode cX12_next 170 = .ok (.iadd, 1) := by decide +kernel
theorem dX12_next_171 : decode cX12_next 171 = .ok (.putfield 101, 3) := by decide +kernel
theorem dX12_next_174 : decode cX12_next 174 = .ok (.goto (-51), 3) := by decide +kernel
theorem dX12_next_78 : decode cX12_next 78 = .ok (.aload_n 0, 1) := by decide +kernel
theorem dX12_next_79 : decode cX12_next 79 = .ok (.iconst 1, 1) := by decide +kernel
theorem dX12_next_80 : decode cX12_next 80 = .ok (.putfield 114, 3) := by decide +kernel
theorem dX12_next_83 : decode cX12_next 83 = .ok (.aload_n 0, 1) := by decide +kernel
theorem dX12_next_84 : decode cX12_next 84 = .ok (.bipush 97, 2) := by decide +kernel
theorem dX12_next_86 : decode cX12_next 86 = .ok (.bipush 122, 2) := by decide +kernel
theorem dX12_next_88 : decode cX12_next 88 = .ok (.invokevirtual 104, 3) := by decide +kernel
theorem dX12_next_91 : decode cX12_next 91 = .ok (.ifCond .eq 138, 3) := by decide +kernel
theorem dX12_next_94 : decode cX12_next 94 = .ok (.aload_n 0, 1) := by decide +kernel
theorem dX12_next_95 : decode cX12_next 95 = .ok (.dup, 1) := by decide +kernel
theorem dX12_next_96 : decode cX12_next 96 = .ok (.getfield 101, 3) := by decide +kernel
theorem dX12_next_99 : decode cX12_next 99 = .ok (.iconst 1, 1) := by decide +kernel
theorem dX12_next_100 : decode cX12_next 100 = .ok (.iadd, 1) := by decide +kernel
theorem dX12_next_101 : decode cX12_next 101 = .ok (.putfield 101, 3) := by decide +kernel
theorem dX12_next_104 : decode cX12_next 104 = .ok (.goto (-21), 3) := by decide +kernel
theorem dX12_next_59 : decode cX12_next 59 = .ok (.aload_n 0, 1) := by decide +kernel
theorem dX12_next_60 : decode cX12_next 60 = .ok (.iconst 0, 1) := by decide +kernel
theorem dX12_next_61 : decode cX12_next 61 = .ok (.putfield 114, 3) := by decide +kernel
theorem dX12_next_64 : decode cX12_next 64 = .ok (.goto 165, 3) := by decide +kernel
theorem dX12_faults_0 : decode cX12_faults 0 = .ok (.aload_n 0, 1) := by decide +kernel
theorem dX12_faults_1 : decode cX12_faults 1 = .ok (.getfield 120, 3) := by decide +kernel
theorem wm_1683 : (Jvm.Cond.fieldLink "GrownKindsModel" (120 : Nat) "GrownKindsModel" "bad" "Z") ∈ gT := gT_in (List.mem_of_getElem? (i := 1683) (by decide +kernel)) (by decide +kernel)
theorem dX12_faults_4 : decode cX12_faults 4 = .ok (.ifCond .ne 21, 3) := by decide +kernel
theorem dX12_faults_25 : decode cX12_faults 25 = .ok (.iconst (-1), 1) := by decide +kernel
theorem dX12_faults_26 : decode cX12_faults 26 = .ok (.ireturn, 1) := by decide +kernel
theorem dX12_faults_7 : decode cX12_faults 7 = .ok (.aload_n 0, 1) := by decide +kernel
theorem dX12_faults_8 : decode cX12_faults 8 = .ok (.iconst 1, 1) := by decide +kernel
theorem dX12_faults_9 : decode cX12_faults 9 = .ok (.putfield 120, 3) := by decide +kernel
theorem dX12_faults_12 : decode cX12_faults 12 = .ok (.aload_n 0, 1) := by decide +kernel
theorem dX12_faults_13 : decode cX12_faults 13 = .ok (.iload_n 1, 1) := by decide +kernel
theorem dX12_faults_14 : decode cX12_faults 14 = .ok (.putfield 124, 3) := by decide +kernel
theorem dX12_faults_17 : decode cX12_faults 17 = .ok (.aload_n 0, 1) := by decide +kernel
theorem dX12_faults_18 : decode cX12_faults 18 = .ok (.aload_n 0, 1) := by decide +kernel
theorem dX12_faults_19 : decode cX12_faults 19 = .ok (.getfield 108, 3) := by decide +kernel
theorem dX12_faults_22 : decode cX12_faults 22 = .ok (.putfield 25, 3) := by decide +kernel
theorem dX12_named_0 : decode cX12_named 0 = .ok (.iconst 0, 1) := by decide +kernel
theorem dX12_named_1 : decode cX12_named 1 = .ok (.istore_n 1, 1) := by decide +kernel
theorem dX12_named_2 : decode cX12_named 2 = .ok (.iload_n 1, 1) := by decide +kernel
theorem dX12_named_3 : decode cX12_named 3 = .ok (.aload_n 0, 1) := by decide +kernel
theorem dX12_named_4 : decode cX12_named 4 = .ok (.getfield 15, 3) := by decide +kernel
theorem dX12_named_7 : decode cX12_named 7 = .ok (.iconst 0, 1) := by decide +kernel
theorem dX12_named_8 : decode cX12_named 8 = .ok (.iaload, 1) := by decide +kernel
theorem dX12_named_9 : decode cX12_named 9 = .ok (.if_icmp .ge 100, 3) := by decide +kernel
theorem dX12_named_12 : decode cX12_named 12 = .ok (.aload_n 0, 1) := by decide +kernel
theorem dX12_named_13 : decode cX12_named 13 = .ok (.getfield 114, 3) := by decide +kernel
theorem dX12_named_16 : decode cX12_named 16 = .ok (.iconst 1, 1) := by decide +kernel
theorem dX12_named_17 : decode cX12_named 17 = .ok (.if_icmp .ne 25, 3) := by decide +kernel
theorem dX12_named_42 : decode cX12_named 42 = .ok (.iconst 0, 1) := by decide +kernel
theorem dX12_named_20 : decode cX12_named 20 = .ok (.aload_n 0, 1) := by decide +kernel
theorem dX12_named_21 : decode cX12_named 21 = .ok (.getfield 101, 3) := by decide +kernel
theorem dX12_named_24 : decode cX12_named 24 = .ok (.aload_n 0, 1) := by decide +kernel
theorem dX12_named_25 : decode cX12_named 25 = .ok (.getfield 108, 3) := by decide +kernel
theorem dX12_named_28 : decode cX12_named 28 = .ok (.isub, 1) := by decide +kernel
theorem dX12_named_29 : decode cX12_named 29 = .ok (.aload_n 0, 1) := by decide +kernel
theorem dX12_named_30 : decode cX12_named 30 = .ok (.getfield 32, 3) := by decide +kernel
theorem dX12_named_33 : decode cX12_named 33 = .ok (.iload_n 1, 1) := by decide +kernel
theorem dX12_named_34 : decode cX12_named 34 = .ok (.iaload, 1) := by decide +kernel
theorem dX12_named_35 : decode cX12_named 35 = .ok (.if_icmp .ne 7, 3) := by decide +kernel
theorem dX12_named_38 : decode cX12_named 38 = .ok (.iconst 1, 1) := by decide +kernel
theorem dX12_named_39 : decode cX12_named 39 = .ok (.goto 4, 3) := by decide +kernel
theorem dX12_named_43 : decode cX12_named 43 = .ok (.istore_n 2, 1) := by decide +kernel
theorem dX12_named_44 : decode cX12_named 44 = .ok (.iconst 0, 1) := by decide +kernel
theorem dX12_named_45 : decode cX12_named 45 = .ok (.istore_n 3, 1) := by decide +kernel
theorem dX12_named_46 : decode cX12_named 46 = .ok (.iload_n 3, 1) := by decide +kernel
theorem dX12_named_47 : decode cX12_named 47 = .ok (.aload_n 0, 1) := by decide +kernel
theorem dX12_named_48 : decode cX12_named 48 = .ok (.getfield 32, 3) := by decide +kernel
theorem dX12_named_51 : decode cX12_named 51 = .ok (.iload_n 1, 1) := by decide +kernel
theorem dX12_named_52 : decode cX12_named 52 = .ok (.iaload, 1) := by decide +kernel
theorem dX12_named_53 : decode cX12_named 53 = .ok (.if_icmp .ge 44, 3) := by decide +kernel
theorem dX12_named_56 : decode cX12_named 56 = .ok (.iload_n 2, 1) := by decide +kernel
theorem dX12_named_57 : decode cX12_named 57 = .ok (.ifCond .eq 40, 3) := by decide +kernel
theorem dX12_named_60 : decode cX12_named 60 = .ok (.aload_n 0, 1) := by decide +kernel
theorem dX12_named_61 : decode cX12_named 61 = .ok (.getfield 22, 3) := by decide +kernel
theorem dX12_named_64 : decode cX12_named 64 = .ok (.aload_n 0, 1) := by decide +kernel
theorem dX12_named_65 : decode cX12_named 65 = .ok (.getfield 108, 3) := by decide +kernel
theorem dX12_named_68 : decode cX12_named 68 = .ok (.iload_n 3, 1) := by decide +kernel
theorem dX12_named_69 : decode cX12_named 69 = .ok (.iadd, 1) := by decide +kernel
theorem dX12_named_70 : decode cX12_named 70 = .ok (.iaload, 1) := by decide +kernel
theorem dX12_named_71 : decode cX12_named 71 = .ok (.aload_n 0, 1) := by decide +kernel
theorem dX12_named_72 : decode cX12_named 72 = .ok (.getfield 29, 3) := by decide +kernel
theorem dX12_named_75 : decode cX12_named 75 = .ok (.bipush 8, 2) := by decide +kernel
theorem dX12_named_77 : decode cX12_named 77 = .ok (.iload_n 1, 1) := by decide +kernel
theorem dX12_named_78 : decode cX12_named 78 = .ok (.imul, 1) := by decide +kernel
theorem dX12_named_79 : decode cX12_named 79 = .ok (.iload_n 3, 1) := by decide +kernel
theorem dX12_named_80 : decode cX12_named 80 = .ok (.iadd, 1) := by decide +kernel
theorem dX12_named_81 : decode cX12_named 81 = .ok (.iaload, 1) := by decide +kernel
theorem dX12_named_82 : decode cX12_named 82 = .ok (.if_icmp .ne 7, 3) := by decide +kernel
theorem dX12_named_89 : decode cX12_named 89 = .ok (.iconst 0, 1) := by decide +kernel
theorem dX12_named_90 : decode cX12_named 90 = .ok (.istore_n 2, 1) := by decide +kernel
theorem dX12_named_91 : decode cX12_named 91 = .ok (.iinc 3 1, 3) := by decide +kernel
theorem dX12_named_94 : decode cX12_named 94 = .ok (.goto (-48), 3) := by decide +kernel
theorem dX12_named_85 : decode cX12_named 85 = .ok (.iconst 1, 1) := by decide +kernel
theorem dX12_named_86 : decode cX12_named 86 = .ok (.goto 4, 3) := by decide +kernel
theorem dX12_named_97 : decode cX12_named 97 = .ok (.iload_n 2, 1) := by decide +kernel
theorem dX12_named_98 : decode cX12_named 98 = .ok (.ifCond .eq 5, 3) := by decide +kernel
theorem dX12_named_103 : decode cX12_named 103 = .ok (.iinc 1 1, 3) := by decide +kernel
theorem dX12_named_106 : decode cX12_named 106 = .ok (.goto (-104), 3) := by decide +kernel
theorem dX12_named_101 : decode cX12_named 101 = .ok (.iload_n 1, 1) := by decide +kernel
theorem dX12_named_102 : decode cX12_named 102 = .ok (.ireturn, 1) := by decide +kernel
theorem dX12_named_109 : decode cX12_named 109 = .ok (.iconst (-1), 1) := by decide +kernel
theorem dX12_named_110 : decode cX12_named 110 = .ok (.ireturn, 1) := by decide +kernel
theorem dX12_isSign_0 : decode cX12_isSign 0 = .ok (.aload_n 0, 1) := by decide +kernel
theorem dX12_isSign_1 : decode cX12_isSign 1 = .ok (.getfield 114, 3) := by decide +kernel
theorem dX12_isSign_4 : decode cX12_isSign 4 = .ok (.iconst 3, 1) := by decide +kernel
theorem dX12_isSign_5 : decode cX12_isSign 5 = .ok (.if_icmp .ne 20, 3) := by decide +kernel
theorem dX12_isSign_25 : decode cX12_isSign 25 = .ok (.iconst 0, 1) := by decide +kernel
theorem dX12_isSign_26 : decode cX12_isSign 26 = .ok (.ireturn, 1) := by decide +kernel
theorem dX12_isSign_8 : decode cX12_isSign 8 = .ok (.aload_n 0, 1) := by decide +kernel
theorem dX12_isSign_9 : decode cX12_isSign 9 = .ok (.getfield 22, 3) := by decide +kernel
theorem dX12_isSign_12 : decode cX12_isSign 12 = .ok (.aload_n 0, 1) := by decide +kernel
theorem dX12_isSign_13 : decode cX12_isSign 13 = .ok (.getfield 108, 3) := by decide +kernel
theorem dX12_isSign_16 : decode cX12_isSign 16 = .ok (.iaload, 1) := by decide +kernel
theorem dX12_isSign_17 : decode cX12_isSign 17 = .ok (.iload_n 1, 1) := by decide +kernel
theorem dX12_isSign_18 : decode cX12_isSign 18 = .ok (.if_icmp .ne 7, 3) := by decide +kernel
theorem dX12_isSign_21 : decode cX12_isSign 21 = .ok (.iconst 1, 1) := by decide +kernel
theorem dX12_isSign_22 : decode cX12_isSign 22 = .ok (.goto 4, 3) := by decide +kernel
theorem dX12_needs_0 : decode cX12_needs 0 = .ok (.aload_n 0, 1) := by decide +kernel
theorem dX12_needs_1 : decode cX12_needs 1 = .ok (.iload_n 1, 1) := by decide +kernel
theorem dX12_needs_2 : decode cX12_needs 2 = .ok (.invokevirtual 165, 3) := by decide +kernel
theorem wm_1906 : (Jvm.Cond.methodLink "GrownKindsModel" (165 : Nat) ({ cls := "GrownKindsModel", name := "isSign", desc := "(C)Z" } : Jvm.MethodName)) ∈ gT := gT_in (List.mem_of_getElem? (i := 1906) (by decide +kernel)) (by decide +kernel)
theorem wm_1908 : (Jvm.Cond.instanceMethod ({ cls := "GrownKindsModel", name := "isSign", desc := "(C)Z" } : Jvm.MethodName)) ∈ gT := gT_in (List.mem_of_getElem? (i := 1908) (by decide +kernel)) (by decide +kernel)
theorem wm_99 : Cond.selects "GrownKindsModel" ⟨"GrownKindsModel", "isSign", "(C)Z"⟩ ⟨"GrownKindsModel", "isSign", "(C)Z"⟩ ∈ gT := gT_in (List.mem_of_getElem? (i := 99) (by decide +kernel)) (by decide +kernel)
theorem wm_1909 : (Jvm.Cond.code ({ cls := "GrownKindsModel", name := "isSign", desc := "(C)Z" } : Jvm.MethodName) prog_14_method_17_code (2 : Nat) (Option.some Jvm.ClassFile.FieldType.boolean)) ∈ gT := gT_in (List.mem_of_getElem? (i := 1909) (by decide +kernel)) (by decide +kernel)
theorem dX12_needs_5 : decode cX12_needs 5 = .ok (.ifCond .ne 9, 3) := by decide +kernel
theorem dX12_needs_14 : decode cX12_needs 14 = .ok (.aload_n 0, 1) := by decide +kernel
theorem dX12_needs_15 : decode cX12_needs 15 = .ok (.getfield 120, 3) := by decide +kernel
theorem dX12_needs_18 : decode cX12_needs 18 = .ok (.ifCond .ne 7, 3) := by decide +kernel
theorem dX12_needs_25 : decode cX12_needs 25 = .ok (.return_, 1) := by decide +kernel
theorem dX12_needs_21 : decode cX12_needs 21 = .ok (.aload_n 0, 1) := by decide +kernel
theorem dX12_needs_22 : decode cX12_needs 22 = .ok (.invokevirtual 173, 3) := by decide +kernel
theorem wm_1846 : (Jvm.Cond.methodLink "GrownKindsModel" (173 : Nat) ({ cls := "GrownKindsModel", name := "next", desc := "()V" } : Jvm.MethodName)) ∈ gT := gT_in (List.mem_of_getElem? (i := 1846) (by decide +kernel)) (by decide +kernel)
theorem wm_1848 : (Jvm.Cond.instanceMethod ({ cls := "GrownKindsModel", name := "next", desc := "()V" } : Jvm.MethodName)) ∈ gT := gT_in (List.mem_of_getElem? (i := 1848) (by decide +kernel)) (by decide +kernel)
theorem wm_88 : Cond.selects "GrownKindsModel" ⟨"GrownKindsModel", "next", "()V"⟩ ⟨"GrownKindsModel", "next", "()V"⟩ ∈ gT := gT_in (List.mem_of_getElem? (i := 88) (by decide +kernel)) (by decide +kernel)
theorem wm_1849 : (Jvm.Cond.code ({ cls := "GrownKindsModel", name := "next", desc := "()V" } : Jvm.MethodName) prog_14_method_11_code (1 : Nat) (Option.none : Option Jvm.ClassFile.FieldType)) ∈ gT := gT_in (List.mem_of_getElem? (i := 1849) (by decide +kernel)) (by decide +kernel)
theorem dX12_needs_8 : decode cX12_needs 8 = .ok (.aload_n 0, 1) := by decide +kernel
theorem dX12_needs_9 : decode cX12_needs 9 = .ok (.iconst 1, 1) := by decide +kernel
theorem dX12_needs_10 : decode cX12_needs 10 = .ok (.invokevirtual 169, 3) := by decide +kernel
theorem wm_1882 : (Jvm.Cond.methodLink "GrownKindsModel" (169 : Nat) ({ cls := "GrownKindsModel", name := "faults", desc := "(I)I" } : Jvm.MethodName)) ∈ gT := gT_in (List.mem_of_getElem? (i := 1882) (by decide +kernel)) (by decide +kernel)
theorem wm_1884 : (Jvm.Cond.instanceMethod ({ cls := "GrownKindsModel", name := "faults", desc := "(I)I" } : Jvm.MethodName)) ∈ gT := gT_in (List.mem_of_getElem? (i := 1884) (by decide +kernel)) (by decide +kernel)
theorem wm_93 : Cond.selects "GrownKindsModel" ⟨"GrownKindsModel", "faults", "(I)I"⟩ ⟨"GrownKindsModel", "faults", "(I)I"⟩ ∈ gT := gT_in (List.mem_of_getElem? (i := 93) (by decide +kernel)) (by decide +kernel)
theorem wm_1885 : (Jvm.Cond.code ({ cls := "GrownKindsModel", name := "faults", desc := "(I)I" } : Jvm.MethodName) prog_14_method_12_code (2 : Nat) (Option.some Jvm.ClassFile.FieldType.int)) ∈ gT := gT_in (List.mem_of_getElem? (i := 1885) (by decide +kernel)) (by decide +kernel)
theorem dX12_needs_13 : decode cX12_needs 13 = .ok (.pop, 1) := by decide +kernel
theorem dX12_readsAtom_0 : decode cX12_readsAtom 0 = .ok (.aload_n 0, 1) := by decide +kernel
theorem dX12_readsAtom_1 : decode cX12_readsAtom 1 = .ok (.getfield 15, 3) := by decide +kernel
theorem dX12_readsAtom_4 : decode cX12_readsAtom 4 = .ok (.bipush 24, 2) := by decide +kernel
theorem dX12_readsAtom_6 : decode cX12_readsAtom 6 = .ok (.iload_n 1, 1) := by decide +kernel
theorem dX12_readsAtom_7 : decode cX12_readsAtom 7 = .ok (.iadd, 1) := by decide +kernel
theorem dX12_readsAtom_8 : decode cX12_readsAtom 8 = .ok (.iconst 0, 1) := by decide +kernel
theorem dX12_readsAtom_9 : decode cX12_readsAtom 9 = .ok (.iastore, 1) := by decide +kernel
theorem dX12_readsAtom_10 : decode cX12_readsAtom 10 = .ok (.aload_n 0, 1) := by decide +kernel
theorem dX12_readsAtom_11 : decode cX12_readsAtom 11 = .ok (.getfield 114, 3) := by decide +kernel
theorem dX12_readsAtom_14 : decode cX12_readsAtom 14 = .ok (.iconst 1, 1) := by decide +kernel
theorem dX12_readsAtom_15 : decode cX12_readsAtom 15 = .ok (.if_icmp .eq 10, 3) := by decide +kernel
theorem dX12_readsAtom_25 : decode cX12_readsAtom 25 = .ok (.aload_n 0, 1) := by decide +kernel
theorem dX12_readsAtom_26 : decode cX12_readsAtom 26 = .ok (.getfield 101, 3) := by decide +kernel
theorem dX12_readsAtom_29 : decode cX12_readsAtom 29 = .ok (.aload_n 0, 1) := by decide +kernel
theorem dX12_readsAtom_30 : decode cX12_readsAtom 30 = .ok (.getfield 108, 3) := by decide +kernel
theorem dX12_readsAtom_33 : decode cX12_readsAtom 33 = .ok (.isub, 1) := by decide +kernel
theorem dX12_readsAtom_34 : decode cX12_readsAtom 34 = .ok (.iconst 1, 1) := by decide +kernel
theorem dX12_readsAtom_35 : decode cX12_readsAtom 35 = .ok (.if_icmp .le 10, 3) := by decide +kernel
theorem dX12_readsAtom_45 : decode cX12_readsAtom 45 = .ok (.aload_n 0, 1) := by decide +kernel
theorem dX12_readsAtom_46 : decode cX12_readsAtom 46 = .ok (.getfield 15, 3) := by decide +kernel
theorem dX12_readsAtom_49 : decode cX12_readsAtom 49 = .ok (.bipush 48, 2) := by decide +kernel
theorem dX12_readsAtom_51 : decode cX12_readsAtom 51 = .ok (.iload_n 1, 1) := by decide +kernel
theorem dX12_readsAtom_52 : decode cX12_readsAtom 52 = .ok (.iadd, 1) := by decide +kernel
theorem dX12_readsAtom_53 : decode cX12_readsAtom 53 = .ok (.aload_n 0, 1) := by decide +kernel
theorem dX12_readsAtom_54 : decode cX12_readsAtom 54 = .ok (.getfield 22, 3) := by decide +kernel
theorem dX12_readsAtom_57 : decode cX12_readsAtom 57 = .ok (.aload_n 0, 1) := by decide +kernel
theorem dX12_readsAtom_58 : decode cX12_readsAtom 58 = .ok (.getfield 108, 3) := by decide +kernel
theorem dX12_readsAtom_61 : decode cX12_readsAtom 61 = .ok (.iaload, 1) := by decide +kernel
theorem dX12_readsAtom_62 : decode cX12_readsAtom 62 = .ok (.bipush 97, 2) := by decide +kernel
theorem dX12_readsAtom_64 : decode cX12_readsAtom 64 = .ok (.isub, 1) := by decide +kernel
theorem dX12_readsAtom_65 : decode cX12_readsAtom 65 = .ok (.iastore, 1) := by decide +kernel
theorem dX12_readsAtom_66 : decode cX12_readsAtom 66 = .ok (.aload_n 0, 1) := by decide +kernel
theorem dX12_readsAtom_67 : decode cX12_readsAtom 67 = .ok (.invokevirtual 173, 3) := by decide +kernel
theorem dX12_readsAtom_70 : decode cX12_readsAtom 70 = .ok (.return_, 1) := by decide +kernel
theorem dX12_readsAtom_38 : decode cX12_readsAtom 38 = .ok (.aload_n 0, 1) := by decide +kernel
theorem dX12_readsAtom_39 : decode cX12_readsAtom 39 = .ok (.iconst 2, 1) := by decide +kernel
theorem dX12_readsAtom_40 : decode cX12_readsAtom 40 = .ok (.invokevirtual 169, 3) := by decide +kernel
theorem dX12_readsAtom_43 : decode cX12_readsAtom 43 = .ok (.pop, 1) := by decide +kernel
theorem dX12_readsAtom_44 : decode cX12_readsAtom 44 = .ok (.return_, 1) := by decide +kernel
theorem dX12_readsAtom_18 : decode cX12_readsAtom 18 = .ok (.aload_n 0, 1) := by decide +kernel
theorem dX12_readsAtom_19 : decode cX12_readsAtom 19 = .ok (.iconst 1, 1) := by decide +kernel
theorem dX12_readsAtom_20 : decode cX12_readsAtom 20 = .ok (.invokevirtual 169, 3) := by decide +kernel
theorem dX12_readsAtom_23 : decode cX12_readsAtom 23 = .ok (.pop, 1) := by decide +kernel
theorem dX12_readsAtom_24 : decode cX12_readsAtom 24 = .ok (.return_, 1) := by decide +kernel
theorem dX12_isEmptyTerm_0 : decode cX12_isEmptyTerm 0 = .ok (.aload_n 0, 1) := by decide +kernel
theorem dX12_isEmptyTerm_1 : decode cX12_isEmptyTerm 1 = .ok (.getfield 15, 3) := by decide +kernel
theorem dX12_isEmptyTerm_4 : decode cX12_isEmptyTerm 4 = .ok (.bipush 120, 2) := by decide +kernel
theorem dX12_isEmptyTerm_6 : decode cX12_isEmptyTerm 6 = .ok (.iload_n 1, 1) := by decide +kernel
theorem dX12_isEmptyTerm_7 : decode cX12_isEmptyTerm 7 = .ok (.iadd, 1) := by decide +kernel
theorem dX12_isEmptyTerm_8 : decode cX12_isEmptyTerm 8 = .ok (.iaload, 1) := by decide +kernel
theorem dX12_isEmptyTerm_9 : decode cX12_isEmptyTerm 9 = .ok (.istore_n 3, 1) := by decide +kernel
theorem dX12_isEmptyTerm_10 : decode cX12_isEmptyTerm 10 = .ok (.iload_n 3, 1) := by decide +kernel
theorem dX12_isEmptyTerm_11 : decode cX12_isEmptyTerm 11 = .ok (.ifCond .lt 32, 3) := by decide +kernel
theorem dX12_isEmptyTerm_14 : decode cX12_isEmptyTerm 14 = .ok (.iload_n 3, 1) := by decide +kernel
theorem dX12_isEmptyTerm_15 : decode cX12_isEmptyTerm 15 = .ok (.iload_n 2, 1) := by decide +kernel
theorem dX12_isEmptyTerm_16 : decode cX12_isEmptyTerm 16 = .ok (.if_icmp .eq 14, 3) := by decide +kernel
theorem dX12_isEmptyTerm_19 : decode cX12_isEmptyTerm 19 = .ok (.aload_n 0, 1) := by decide +kernel
theorem dX12_isEmptyTerm_20 : decode cX12_isEmptyTerm 20 = .ok (.getfield 35, 3) := by decide +kernel
theorem dX12_isEmptyTerm_23 : decode cX12_isEmptyTerm 23 = .ok (.iload_n 3, 1) := by decide +kernel
theorem dX12_isEmptyTerm_24 : decode cX12_isEmptyTerm 24 = .ok (.baload, 1) := by decide +kernel
theorem dX12_isEmptyTerm_25 : decode cX12_isEmptyTerm 25 = .ok (.ifCond .ne 5, 3) := by decide +kernel
theorem dX12_isEmptyTerm_30 : decode cX12_isEmptyTerm 30 = .ok (.aload_n 0, 1) := by decide +kernel
theorem dX12_isEmptyTerm_31 : decode cX12_isEmptyTerm 31 = .ok (.getfield 15, 3) := by decide +kernel
theorem dX12_isEmptyTerm_34 : decode cX12_isEmptyTerm 34 = .ok (.bipush 96, 2) := by decide +kernel
theorem dX12_isEmptyTerm_36 : decode cX12_isEmptyTerm 36 = .ok (.iload_n 3, 1) := by decide +kernel
theorem dX12_isEmptyTerm_37 : decode cX12_isEmptyTerm 37 = .ok (.iadd, 1) := by decide +kernel
theorem dX12_isEmptyTerm_38 : decode cX12_isEmptyTerm 38 = .ok (.iaload, 1) := by decide +kernel
theorem dX12_isEmptyTerm_39 : decode cX12_isEmptyTerm 39 = .ok (.istore_n 3, 1) := by decide +kernel
theorem dX12_isEmptyTerm_40 : decode cX12_isEmptyTerm 40 = .ok (.goto (-30), 3) := by decide +kernel
theorem dX12_isEmptyTerm_28 : decode cX12_isEmptyTerm 28 = .ok (.iconst 0, 1) := by decide +kernel
theorem dX12_isEmptyTerm_29 : decode cX12_isEmptyTerm 29 = .ok (.ireturn, 1) := by decide +kernel
theorem dX12_isEmptyTerm_43 : decode cX12_isEmptyTerm 43 = .ok (.iconst 1, 1) := by decide +kernel
theorem dX12_isEmptyTerm_44 : decode cX12_isEmptyTerm 44 = .ok (.ireturn, 1) := by decide +kernel
theorem dX12_isEmptyExpr_0 : decode cX12_isEmptyExpr 0 = .ok (.iconst 0, 1) := by decide +kernel
theorem dX12_isEmptyExpr_1 : decode cX12_isEmptyExpr 1 = .ok (.istore_n 2, 1) := by decide +kernel
theorem dX12_isEmptyExpr_2 : decode cX12_isEmptyExpr 2 = .ok (.aload_n 0, 1) := by decide +kernel
theorem dX12_isEmptyExpr_3 : decode cX12_isEmptyExpr 3 = .ok (.getfield 15, 3) := by decide +kernel
theorem dX12_isEmptyExpr_6 : decode cX12_isEmptyExpr 6 = .ok (.sipush 168, 3) := by decide +kernel
theorem dX12_isEmptyExpr_9 : decode cX12_isEmptyExpr 9 = .ok (.iload_n 1, 1) := by decide +kernel
theorem dX12_isEmptyExpr_10 : decode cX12_isEmptyExpr 10 = .ok (.iadd, 1) := by decide +kernel
theorem dX12_isEmptyExpr_11 : decode cX12_isEmptyExpr 11 = .ok (.iaload, 1) := by decide +kernel
theorem dX12_isEmptyExpr_12 : decode cX12_isEmptyExpr 12 = .ok (.istore_n 3, 1) := by decide +kernel
theorem dX12_isEmptyExpr_13 : decode cX12_isEmptyExpr 13 = .ok (.iload_n 3, 1) := by decide +kernel
theorem dX12_isEmptyExpr_14 : decode cX12_isEmptyExpr 14 = .ok (.ifCond .lt 40, 3) := by decide +kernel
theorem dX12_isEmptyExpr_17 : decode cX12_isEmptyExpr 17 = .ok (.aload_n 0, 1) := by decide +kernel
theorem dX12_isEmptyExpr_18 : decode cX12_isEmptyExpr 18 = .ok (.iload_n 1, 1) := by decide +kernel
theorem dX12_isEmptyExpr_19 : decode cX12_isEmptyExpr 19 = .ok (.iload_n 2, 1) := by decide +kernel
theorem dX12_isEmptyExpr_20 : decode cX12_isEmptyExpr 20 = .ok (.invokevirtual 231, 3) := by decide +kernel
theorem wm_1945 : (Jvm.Cond.methodLink "GrownKindsModel" (231 : Nat) ({ cls := "GrownKindsModel", name := "isOff", desc := "(II)Z" } : Jvm.MethodName)) ∈ gT := gT_in (List.mem_of_getElem? (i := 1945) (by decide +kernel)) (by decide +kernel)
theorem wm_1947 : (Jvm.Cond.instanceMethod ({ cls := "GrownKindsModel", name := "isOff", desc := "(II)Z" } : Jvm.MethodName)) ∈ gT := gT_in (List.mem_of_getElem? (i := 1947) (by decide +kernel)) (by decide +kernel)
theorem wm_108 : Cond.selects "GrownKindsModel" ⟨"GrownKindsModel", "isOff", "(II)Z"⟩ ⟨"GrownKindsModel", "isOff", "(II)Z"⟩ ∈ gT := gT_in (List.mem_of_getElem? (i := 108) (by decide +kernel)) (by decide +kernel)
theorem wm_1948 : (Jvm.Cond.code ({ cls := "GrownKindsModel", name := "isOff", desc := "(II)Z" } : Jvm.MethodName) prog_14_method_33_code (3 : Nat) (Option.some Jvm.ClassFile.FieldType.boolean)) ∈ gT := gT_in (List.mem_of_getElem? (i := 1948) (by decide +kernel)) (by decide +kernel)
theorem dX12_isEmptyExpr_23 : decode cX12_isEmptyExpr 23 = .ok (.ifCond .ne 14, 3) := by decide +kernel
theorem dX12_isEmptyExpr_26 : decode cX12_isEmptyExpr 26 = .ok (.aload_n 0, 1) := by decide +kernel
theorem dX12_isEmptyExpr_27 : decode cX12_isEmptyExpr 27 = .ok (.iload_n 3, 1) := by decide +kernel
theorem dX12_isEmptyExpr_28 : decode cX12_isEmptyExpr 28 = .ok (.iconst (-1), 1) := by decide +kernel
theorem dX12_isEmptyExpr_29 : decode cX12_isEmptyExpr 29 = .ok (.invokevirtual 244, 3) := by decide +kernel
theorem wm_1952 : (Jvm.Cond.methodLink "GrownKindsModel" (244 : Nat) ({ cls := "GrownKindsModel", name := "isEmptyTerm", desc := "(II)Z" } : Jvm.MethodName)) ∈ gT := gT_in (List.mem_of_getElem? (i := 1952) (by decide +kernel)) (by decide +kernel)
theorem wm_1954 : (Jvm.Cond.instanceMethod ({ cls := "GrownKindsModel", name := "isEmptyTerm", desc := "(II)Z" } : Jvm.MethodName)) ∈ gT := gT_in (List.mem_of_getElem? (i := 1954) (by decide +kernel)) (by decide +kernel)
theorem wm_109 : Cond.selects "GrownKindsModel" ⟨"GrownKindsModel", "isEmptyTerm", "(II)Z"⟩ ⟨"GrownKindsModel", "isEmptyTerm", "(II)Z"⟩ ∈ gT := gT_in (List.mem_of_getElem? (i := 109) (by decide +kernel)) (by decide +kernel)
theorem wm_1955 : (Jvm.Cond.code ({ cls := "GrownKindsModel", name := "isEmptyTerm", desc := "(II)Z" } : Jvm.MethodName) prog_14_method_41_code (4 : Nat) (Option.some Jvm.ClassFile.FieldType.boolean)) ∈ gT := gT_in (List.mem_of_getElem? (i := 1955) (by decide +kernel)) (by decide +kernel)
theorem dX12_isEmptyExpr_32 : decode cX12_isEmptyExpr 32 = .ok (.ifCond .eq 5, 3) := by decide +kernel
theorem dX12_isEmptyExpr_37 : decode cX12_isEmptyExpr 37 = .ok (.iinc 2 1, 3) := by decide +kernel
theorem dX12_isEmptyExpr_40 : decode cX12_isEmptyExpr 40 = .ok (.aload_n 0, 1) := by decide +kernel
theorem dX12_isEmptyExpr_41 : decode cX12_isEmptyExpr 41 = .ok (.getfield 15, 3) := by decide +kernel
theorem dX12_isEmptyExpr_44 : decode cX12_isEmptyExpr 44 = .ok (.sipush 144, 3) := by decide +kernel
theorem dX12_isEmptyExpr_47 : decode cX12_isEmptyExpr 47 = .ok (.iload_n 3, 1) := by decide +kernel
theorem dX12_isEmptyExpr_48 : decode cX12_isEmptyExpr 48 = .ok (.iadd, 1) := by decide +kernel
theorem dX12_isEmptyExpr_49 : decode cX12_isEmptyExpr 49 = .ok (.iaload, 1) := by decide +kernel
theorem dX12_isEmptyExpr_50 : decode cX12_isEmptyExpr 50 = .ok (.istore_n 3, 1) := by decide +kernel
theorem dX12_isEmptyExpr_51 : decode cX12_isEmptyExpr 51 = .ok (.goto (-38), 3) := by decide +kernel
theorem dX12_isEmptyExpr_35 : decode cX12_isEmptyExpr 35 = .ok (.iconst 1, 1) := by decide +kernel
theorem dX12_isEmptyExpr_36 : decode cX12_isEmptyExpr 36 = .ok (.ireturn, 1) := by decide +kernel
theorem dX12_isEmptyExpr_54 : decode cX12_isEmptyExpr 54 = .ok (.iconst 0, 1) := by decide +kernel
theorem dX12_isEmptyExpr_55 : decode cX12_isEmptyExpr 55 = .ok (.ireturn, 1) := by decide +kernel
theorem dX12_isEmptyPart_0 : decode cX12_isEmptyPart 0 = .ok (.aload_n 0, 1) := by decide +kernel
theorem dX12_isEmptyPart_1 : decode cX12_isEmptyPart 1 = .ok (.getfield 15, 3) := by decide +kernel
theorem dX12_isEmptyPart_4 : decode cX12_isEmptyPart 4 = .ok (.bipush 24, 2) := by decide +kernel
theorem dX12_isEmptyPart_6 : decode cX12_isEmptyPart 6 = .ok (.iload_n 1, 1) := by decide +kernel
theorem dX12_isEmptyPart_7 : decode cX12_isEmptyPart 7 = .ok (.iadd, 1) := by decide +kernel
theorem dX12_isEmptyPart_8 : decode cX12_isEmptyPart 8 = .ok (.iaload, 1) := by decide +kernel
theorem dX12_isEmptyPart_9 : decode cX12_isEmptyPart 9 = .ok (.tableswitch 98 0 7 #[47, 49, 51, 98, 98, 98, 83, 69], 47) := by decide +kernel
theorem dX12_isEmptyPart_56 : decode cX12_isEmptyPart 56 = .ok (.iconst 0, 1) := by decide +kernel
theorem dX12_isEmptyPart_57 : decode cX12_isEmptyPart 57 = .ok (.ireturn, 1) := by decide +kernel
theorem dX12_isEmptyPart_58 : decode cX12_isEmptyPart 58 = .ok (.iconst 1, 1) := by decide +kernel
theorem dX12_isEmptyPart_59 : decode cX12_isEmptyPart 59 = .ok (.ireturn, 1) := by decide +kernel
theorem dX12_isEmptyPart_60 : decode cX12_isEmptyPart 60 = .ok (.aload_n 0, 1) := by decide +kernel
theorem dX12_isEmptyPart_61 : decode cX12_isEmptyPart 61 = .ok (.getfield 35, 3) := by decide +kernel
theorem dX12_isEmptyPart_64 : decode cX12_isEmptyPart 64 = .ok (.bipush 24, 2) := by decide +kernel
theorem dX12_isEmptyPart_66 : decode cX12_isEmptyPart 66 = .ok (.aload_n 0, 1) := by decide +kernel
theorem dX12_isEmptyPart_67 : decode cX12_isEmptyPart 67 = .ok (.getfield 15, 3) := by decide +kernel
theorem dX12_isEmptyPart_70 : decode cX12_isEmptyPart 70 = .ok (.bipush 48, 2) := by decide +kernel
theorem dX12_isEmptyPart_72 : decode cX12_isEmptyPart 72 = .ok (.iload_n 1, 1) := by decide +kernel
theorem dX12_isEmptyPart_73 : decode cX12_isEmptyPart 73 = .ok (.iadd, 1) := by decide +kernel
theorem dX12_isEmptyPart_74 : decode cX12_isEmptyPart 74 = .ok (.iaload, 1) := by decide +kernel
theorem dX12_isEmptyPart_75 : decode cX12_isEmptyPart 75 = .ok (.iadd, 1) := by decide +kernel
theorem dX12_isEmptyPart_76 : decode cX12_isEmptyPart 76 = .ok (.baload, 1) := by decide +kernel
theorem dX12_isEmptyPart_77 : decode cX12_isEmptyPart 77 = .ok (.ireturn, 1) := by decide +kernel
theorem dX12_isEmptyPart_107 : decode cX12_isEmptyPart 107 = .ok (.aload_n 0, 1) := by decide +kernel
theorem dX12_isEmptyPart_108 : decode cX12_isEmptyPart 108 = .ok (.getfield 15, 3) := by decide +kernel
theorem dX12_isEmptyPart_111 : decode cX12_isEmptyPart 111 = .ok (.bipush 48, 2) := by decide +kernel
theorem dX12_isEmptyPart_113 : decode cX12_isEmptyPart 113 = .ok (.iload_n 1, 1) := by decide +kernel
theorem dX12_isEmptyPart_114 : decode cX12_isEmptyPart 114 = .ok (.iadd, 1) := by decide +kernel
theorem dX12_isEmptyPart_115 : decode cX12_isEmptyPart 115 = .ok (.iaload, 1) := by decide +kernel
theorem dX12_isEmptyPart_116 : decode cX12_isEmptyPart 116 = .ok (.ifCond .eq 20, 3) := by decide +kernel
theorem dX12_isEmptyPart_136 : decode cX12_isEmptyPart 136 = .ok (.iconst 1, 1) := by decide +kernel
theorem dX12_isEmptyPart_137 : decode cX12_isEmptyPart 137 = .ok (.goto 4, 3) := by decide +kernel
theorem dX12_isEmptyPart_141 : decode cX12_isEmptyPart 141 = .ok (.ireturn, 1) := by decide +kernel
theorem dX12_isEmptyPart_119 : decode cX12_isEmptyPart 119 = .ok (.aload_n 0, 1) := by decide +kernel
theorem dX12_isEmptyPart_120 : decode cX12_isEmptyPart 120 = .ok (.getfield 35, 3) := by decide +kernel
theorem dX12_isEmptyPart_123 : decode cX12_isEmptyPart 123 = .ok (.aload_n 0, 1) := by decide +kernel
theorem dX12_isEmptyPart_124 : decode cX12_isEmptyPart 124 = .ok (.getfield 15, 3) := by decide +kernel
theorem dX12_isEmptyPart_127 : decode cX12_isEmptyPart 127 = .ok (.bipush 72, 2) := by decide +kernel
theorem dX12_isEmptyPart_129 : decode cX12_isEmptyPart 129 = .ok (.iload_n 1, 1) := by decide +kernel
theorem dX12_isEmptyPart_130 : decode cX12_isEmptyPart 130 = .ok (.iadd, 1) := by decide +kernel
theorem dX12_isEmptyPart_131 : decode cX12_isEmptyPart 131 = .ok (.iaload, 1) := by decide +kernel
theorem dX12_isEmptyPart_132 : decode cX12_isEmptyPart 132 = .ok (.baload, 1) := by decide +kernel
theorem dX12_isEmptyPart_133 : decode cX12_isEmptyPart 133 = .ok (.ifCond .eq 7, 3) := by decide +kernel
theorem dX12_isEmptyPart_140 : decode cX12_isEmptyPart 140 = .ok (.iconst 0, 1) := by decide +kernel
theorem dX12_isEmptyPart_92 : decode cX12_isEmptyPart 92 = .ok (.aload_n 0, 1) := by decide +kernel
theorem dX12_isEmptyPart_93 : decode cX12_isEmptyPart 93 = .ok (.getfield 35, 3) := by decide +kernel
theorem dX12_isEmptyPart_96 : decode cX12_isEmptyPart 96 = .ok (.aload_n 0, 1) := by decide +kernel
theorem dX12_isEmptyPart_97 : decode cX12_isEmptyPart 97 = .ok (.getfield 15, 3) := by decide +kernel
theorem dX12_isEmptyPart_100 : decode cX12_isEmptyPart 100 = .ok (.bipush 72, 2) := by decide +kernel
theorem dX12_isEmptyPart_102 : decode cX12_isEmptyPart 102 = .ok (.iload_n 1, 1) := by decide +kernel
theorem dX12_isEmptyPart_103 : decode cX12_isEmptyPart 103 = .ok (.iadd, 1) := by decide +kernel
theorem dX12_isEmptyPart_104 : decode cX12_isEmptyPart 104 = .ok (.iaload, 1) := by decide +kernel
theorem dX12_isEmptyPart_105 : decode cX12_isEmptyPart 105 = .ok (.baload, 1) := by decide +kernel
theorem dX12_isEmptyPart_106 : decode cX12_isEmptyPart 106 = .ok (.ireturn, 1) := by decide +kernel
theorem dX12_isEmptyPart_78 : decode cX12_isEmptyPart 78 = .ok (.aload_n 0, 1) := by decide +kernel
theorem dX12_isEmptyPart_79 : decode cX12_isEmptyPart 79 = .ok (.aload_n 0, 1) := by decide +kernel
theorem dX12_isEmptyPart_80 : decode cX12_isEmptyPart 80 = .ok (.getfield 15, 3) := by decide +kernel
theorem dX12_isEmptyPart_83 : decode cX12_isEmptyPart 83 = .ok (.bipush 48, 2) := by decide +kernel
theorem dX12_isEmptyPart_85 : decode cX12_isEmptyPart 85 = .ok (.iload_n 1, 1) := by decide +kernel
theorem dX12_isEmptyPart_86 : decode cX12_isEmptyPart 86 = .ok (.iadd, 1) := by decide +kernel
theorem dX12_isEmptyPart_87 : decode cX12_isEmptyPart 87 = .ok (.iaload, 1) := by decide +kernel
theorem dX12_isEmptyPart_88 : decode cX12_isEmptyPart 88 = .ok (.invokevirtual 247, 3) := by decide +kernel
theorem wm_1941 : (Jvm.Cond.methodLink "GrownKindsModel" (247 : Nat) ({ cls := "GrownKindsModel", name := "isEmptyExpr", desc := "(I)Z" } : Jvm.MethodName)) ∈ gT := gT_in (List.mem_of_getElem? (i := 1941) (by decide +kernel)) (by decide +kernel)
theorem wm_1943 : (Jvm.Cond.instanceMethod ({ cls := "GrownKindsModel", name := "isEmptyExpr", desc := "(I)Z" } : Jvm.MethodName)) ∈ gT := gT_in (List.mem_of_getElem? (i := 1943) (by decide +kernel)) (by decide +kernel)
theorem wm_107 : Cond.selects "GrownKindsModel" ⟨"GrownKindsModel", "isEmptyExpr", "(I)Z"⟩ ⟨"GrownKindsModel", "isEmptyExpr", "(I)Z"⟩ ∈ gT := gT_in (List.mem_of_getElem? (i := 107) (by decide +kernel)) (by decide +kernel)
theorem wm_1944 : (Jvm.Cond.code ({ cls := "GrownKindsModel", name := "isEmptyExpr", desc := "(I)Z" } : Jvm.MethodName) prog_14_method_42_code (4 : Nat) (Option.some Jvm.ClassFile.FieldType.boolean)) ∈ gT := gT_in (List.mem_of_getElem? (i := 1944) (by decide +kernel)) (by decide +kernel)
theorem dX12_isEmptyPart_91 : decode cX12_isEmptyPart 91 = .ok (.ireturn, 1) := by decide +kernel
theorem dX12_empties_0 : decode cX12_empties 0 = .ok (.iconst 0, 1) := by decide +kernel
theorem dX12_empties_1 : decode cX12_empties 1 = .ok (.istore_n 1, 1) := by decide +kernel
theorem dX12_empties_2 : decode cX12_empties 2 = .ok (.iload_n 1, 1) := by decide +kernel
theorem dX12_empties_3 : decode cX12_empties 3 = .ok (.aload_n 0, 1) := by decide +kernel
theorem dX12_empties_4 : decode cX12_empties 4 = .ok (.getfield 35, 3) := by decide +kernel
theorem dX12_empties_7 : decode cX12_empties 7 = .ok (.arraylength, 1) := by decide +kernel
theorem dX12_empties_8 : decode cX12_empties 8 = .ok (.if_icmp .ge 16, 3) := by decide +kernel
theorem dX12_empties_11 : decode cX12_empties 11 = .ok (.aload_n 0, 1) := by decide +kernel
theorem dX12_empties_12 : decode cX12_empties 12 = .ok (.getfield 35, 3) := by decide +kernel
theorem dX12_empties_15 : decode cX12_empties 15 = .ok (.iload_n 1, 1) := by decide +kernel
theorem dX12_empties_16 : decode cX12_empties 16 = .ok (.iconst 0, 1) := by decide +kernel
theorem dX12_empties_17 : decode cX12_empties 17 = .ok (.bastore, 1) := by decide +kernel
theorem dX12_empties_18 : decode cX12_empties 18 = .ok (.iinc 1 1, 3) := by decide +kernel
theorem dX12_empties_21 : decode cX12_empties 21 = .ok (.goto (-19), 3) := by decide +kernel
theorem dX12_empties_24 : decode cX12_empties 24 = .ok (.iconst 0, 1) := by decide +kernel
theorem dX12_empties_25 : decode cX12_empties 25 = .ok (.istore_n 1, 1) := by decide +kernel
theorem dX12_empties_26 : decode cX12_empties 26 = .ok (.iload_n 1, 1) := by decide +kernel
theorem dX12_empties_27 : decode cX12_empties 27 = .ok (.aload_n 0, 1) := by decide +kernel
theorem dX12_empties_28 : decode cX12_empties 28 = .ok (.getfield 35, 3) := by decide +kernel
theorem dX12_empties_31 : decode cX12_empties 31 = .ok (.arraylength, 1) := by decide +kernel
theorem dX12_empties_32 : decode cX12_empties 32 = .ok (.if_icmp .gt 70, 3) := by decide +kernel
theorem dX12_empties_35 : decode cX12_empties 35 = .ok (.iconst 0, 1) := by decide +kernel
theorem dX12_empties_36 : decode cX12_empties 36 = .ok (.istore_n 2, 1) := by decide +kernel
theorem dX12_empties_37 : decode cX12_empties 37 = .ok (.iload_n 2, 1) := by decide +kernel
theorem dX12_empties_38 : decode cX12_empties 38 = .ok (.aload_n 0, 1) := by decide +kernel
theorem dX12_empties_39 : decode cX12_empties 39 = .ok (.getfield 15, 3) := by decide +kernel
theorem dX12_empties_42 : decode cX12_empties 42 = .ok (.iconst 2, 1) := by decide +kernel
theorem dX12_empties_43 : decode cX12_empties 43 = .ok (.iaload, 1) := by decide +kernel
theorem dX12_empties_44 : decode cX12_empties 44 = .ok (.if_icmp .ge 20, 3) := by decide +kernel
theorem dX12_empties_47 : decode cX12_empties 47 = .ok (.aload_n 0, 1) := by decide +kernel
theorem dX12_empties_48 : decode cX12_empties 48 = .ok (.getfield 35, 3) := by decide +kernel
theorem dX12_empties_51 : decode cX12_empties 51 = .ok (.iload_n 2, 1) := by decide +kernel
theorem dX12_empties_52 : decode cX12_empties 52 = .ok (.aload_n 0, 1) := by decide +kernel
theorem dX12_empties_53 : decode cX12_empties 53 = .ok (.iload_n 2, 1) := by decide +kernel
theorem dX12_empties_54 : decode cX12_empties 54 = .ok (.invokevirtual 250, 3) := by decide +kernel
theorem wm_1937 : (Jvm.Cond.methodLink "GrownKindsModel" (250 : Nat) ({ cls := "GrownKindsModel", name := "isEmptyPart", desc := "(I)Z" } : Jvm.MethodName)) ∈ gT := gT_in (List.mem_of_getElem? (i := 1937) (by decide +kernel)) (by decide +kernel)
theorem wm_1939 : (Jvm.Cond.instanceMethod ({ cls := "GrownKindsModel", name := "isEmptyPart", desc := "(I)Z" } : Jvm.MethodName)) ∈ gT := gT_in (List.mem_of_getElem? (i := 1939) (by decide +kernel)) (by decide +kernel)
theorem wm_106 : Cond.selects "GrownKindsModel" ⟨"GrownKindsModel", "isEmptyPart", "(I)Z"⟩ ⟨"GrownKindsModel", "isEmptyPart", "(I)Z"⟩ ∈ gT := gT_in (List.mem_of_getElem? (i := 106) (by decide +kernel)) (by decide +kernel)
theorem wm_1940 : (Jvm.Cond.code ({ cls := "GrownKindsModel", name := "isEmptyPart", desc := "(I)Z" } : Jvm.MethodName) prog_14_method_43_code (2 : Nat) (Option.some Jvm.ClassFile.FieldType.boolean)) ∈ gT := gT_in (List.mem_of_getElem? (i := 1940) (by decide +kernel)) (by decide +kernel)
theorem dX12_empties_57 : decode cX12_empties 57 = .ok (.bastore, 1) := by decide +kernel
theorem dX12_empties_58 : decode cX12_empties 58 = .ok (.iinc 2 1, 3) := by decide +kernel
theorem dX12_empties_61 : decode cX12_empties 61 = .ok (.goto (-24), 3) := by decide +kernel
theorem dX12_empties_64 : decode cX12_empties 64 = .ok (.iconst 0, 1) := by decide +kernel
theorem dX12_empties_65 : decode cX12_empties 65 = .ok (.istore_n 2, 1) := by decide +kernel
theorem dX12_empties_66 : decode cX12_empties 66 = .ok (.iload_n 2, 1) := by decide +kernel
theorem dX12_empties_67 : decode cX12_empties 67 = .ok (.aload_n 0, 1) := by decide +kernel
theorem dX12_empties_68 : decode cX12_empties 68 = .ok (.getfield 15, 3) := by decide +kernel
theorem dX12_empties_71 : decode cX12_empties 71 = .ok (.iconst 0, 1) := by decide +kernel
theorem dX12_empties_72 : decode cX12_empties 72 = .ok (.iaload, 1) := by decide +kernel
theorem dX12_empties_73 : decode cX12_empties 73 = .ok (.if_icmp .ge 23, 3) := by decide +kernel
theorem dX12_empties_76 : decode cX12_empties 76 = .ok (.aload_n 0, 1) := by decide +kernel
theorem dX12_empties_77 : decode cX12_empties 77 = .ok (.getfield 35, 3) := by decide +kernel
theorem dX12_empties_80 : decode cX12_empties 80 = .ok (.bipush 24, 2) := by decide +kernel
theorem dX12_empties_82 : decode cX12_empties 82 = .ok (.iload_n 2, 1) := by decide +kernel
theorem dX12_empties_83 : decode cX12_empties 83 = .ok (.iadd, 1) := by decide +kernel
theorem dX12_empties_84 : decode cX12_empties 84 = .ok (.aload_n 0, 1) := by decide +kernel
theorem dX12_empties_85 : decode cX12_empties 85 = .ok (.iload_n 2, 1) := by decide +kernel
theorem dX12_empties_86 : decode cX12_empties 86 = .ok (.invokevirtual 247, 3) := by decide +kernel
theorem dX12_empties_89 : decode cX12_empties 89 = .ok (.bastore, 1) := by decide +kernel
theorem dX12_empties_90 : decode cX12_empties 90 = .ok (.iinc 2 1, 3) := by decide +kernel
theorem dX12_empties_93 : decode cX12_empties 93 = .ok (.goto (-27), 3) := by decide +kernel
theorem dX12_empties_96 : decode cX12_empties 96 = .ok (.iinc 1 1, 3) := by decide +kernel
theorem dX12_empties_99 : decode cX12_empties 99 = .ok (.goto (-73), 3) := by decide +kernel
theorem dX12_empties_102 : decode cX12_empties 102 = .ok (.return_, 1) := by decide +kernel
theorem dX12_empty_0 : decode cX12_empty 0 = .ok (.aload_n 0, 1) := by decide +kernel
theorem dX12_empty_1 : decode cX12_empty 1 = .ok (.iload_n 1, 1) := by decide +kernel
theorem dX12_empty_2 : decode cX12_empty 2 = .ok (.invokevirtual 225, 3) := by decide +kernel
theorem dX12_empty_5 : decode cX12_empty 5 = .ok (.ifCond .ne 6, 3) := by decide +kernel
theorem dX12_empty_11 : decode cX12_empty 11 = .ok (.aload_n 0, 1) := by decide +kernel
theorem dX12_empty_12 : decode cX12_empty 12 = .ok (.invokevirtual 262, 3) := by decide +kernel
theorem wm_1933 : (Jvm.Cond.methodLink "GrownKindsModel" (262 : Nat) ({ cls := "GrownKindsModel", name := "empties", desc := "()V" } : Jvm.MethodName)) ∈ gT := gT_in (List.mem_of_getElem? (i := 1933) (by decide +kernel)) (by decide +kernel)
theorem wm_1935 : (Jvm.Cond.instanceMethod ({ cls := "GrownKindsModel", name := "empties", desc := "()V" } : Jvm.MethodName)) ∈ gT := gT_in (List.mem_of_getElem? (i := 1935) (by decide +kernel)) (by decide +kernel)
theorem wm_105 : Cond.selects "GrownKindsModel" ⟨"GrownKindsModel", "empties", "()V"⟩ ⟨"GrownKindsModel", "empties", "()V"⟩ ∈ gT := gT_in (List.mem_of_getElem? (i := 105) (by decide +kernel)) (by decide +kernel)
theorem wm_1936 : (Jvm.Cond.code ({ cls := "GrownKindsModel", name := "empties", desc := "()V" } : Jvm.MethodName) prog_14_method_44_code (3 : Nat) (Option.none : Option Jvm.ClassFile.FieldType)) ∈ gT := gT_in (List.mem_of_getElem? (i := 1936) (by decide +kernel)) (by decide +kernel)
theorem dX12_empty_15 : decode cX12_empty 15 = .ok (.aload_n 0, 1) := by decide +kernel
theorem dX12_empty_16 : decode cX12_empty 16 = .ok (.getfield 35, 3) := by decide +kernel
theorem dX12_empty_19 : decode cX12_empty 19 = .ok (.bipush 24, 2) := by decide +kernel
theorem dX12_empty_21 : decode cX12_empty 21 = .ok (.iload_n 1, 1) := by decide +kernel
theorem dX12_empty_22 : decode cX12_empty 22 = .ok (.iadd, 1) := by decide +kernel
theorem dX12_empty_23 : decode cX12_empty 23 = .ok (.baload, 1) := by decide +kernel
theorem dX12_empty_24 : decode cX12_empty 24 = .ok (.ifCond .eq 7, 3) := by decide +kernel
theorem dX12_empty_31 : decode cX12_empty 31 = .ok (.iconst 0, 1) := by decide +kernel
theorem dX12_empty_32 : decode cX12_empty 32 = .ok (.ireturn, 1) := by decide +kernel
theorem dX12_empty_27 : decode cX12_empty 27 = .ok (.iconst 1, 1) := by decide +kernel
theorem dX12_empty_28 : decode cX12_empty 28 = .ok (.goto 4, 3) := by decide +kernel
theorem dX12_empty_8 : decode cX12_empty 8 = .ok (.bipush (-2), 2) := by decide +kernel
theorem dX12_empty_10 : decode cX12_empty 10 = .ok (.ireturn, 1) := by decide +kernel
theorem dX12_exprMany_0 : decode cX12_exprMany 0 = .ok (.lconst 0, 1) := by decide +kernel
theorem dX12_exprMany_1 : decode cX12_exprMany 1 = .ok (.lstore 4, 2) := by decide +kernel
theorem dX12_exprMany_3 : decode cX12_exprMany 3 = .ok (.iconst 0, 1) := by decide +kernel
theorem dX12_exprMany_4 : decode cX12_exprMany 4 = .ok (.istore 6, 2) := by decide +kernel
theorem dX12_exprMany_6 : decode cX12_exprMany 6 = .ok (.aload_n 0, 1) := by decide +kernel
theorem dX12_exprMany_7 : decode cX12_exprMany 7 = .ok (.getfield 15, 3) := by decide +kernel
theorem dX12_exprMany_10 : decode cX12_exprMany 10 = .ok (.sipush 168, 3) := by decide +kernel
theorem dX12_exprMany_13 : decode cX12_exprMany 13 = .ok (.iload_n 1, 1) := by decide +kernel
theorem dX12_exprMany_14 : decode cX12_exprMany 14 = .ok (.iadd, 1) := by decide +kernel
theorem dX12_exprMany_15 : decode cX12_exprMany 15 = .ok (.iaload, 1) := by decide +kernel
theorem dX12_exprMany_16 : decode cX12_exprMany 16 = .ok (.istore 7, 2) := by decide +kernel
theorem dX12_exprMany_18 : decode cX12_exprMany 18 = .ok (.iload 7, 2) := by decide +kernel
theorem dX12_exprMany_20 : decode cX12_exprMany 20 = .ok (.ifCond .lt 66, 3) := by decide +kernel
theorem dX12_exprMany_23 : decode cX12_exprMany 23 = .ok (.lload 4, 2) := by decide +kernel
theorem dX12_exprMany_25 : decode cX12_exprMany 25 = .ok (.aload_n 0, 1) := by decide +kernel
theorem dX12_exprMany_26 : decode cX12_exprMany 26 = .ok (.iload_n 1, 1) := by decide +kernel
theorem dX12_exprMany_27 : decode cX12_exprMany 27 = .ok (.iload 6, 2) := by decide +kernel
theorem dX12_exprMany_29 : decode cX12_exprMany 29 = .ok (.invokevirtual 231, 3) := by decide +kernel
theorem dX12_exprMany_32 : decode cX12_exprMany 32 = .ok (.ifCond .eq 7, 3) := by decide +kernel
theorem dX12_exprMany_39 : decode cX12_exprMany 39 = .ok (.aload_n 0, 1) := by decide +kernel
theorem dX12_exprMany_40 : decode cX12_exprMany 40 = .ok (.getfield 43, 3) := by decide +kernel
theorem dX12_exprMany_43 : decode cX12_exprMany 43 = .ok (.aload_n 0, 1) := by decide +kernel
theorem dX12_exprMany_44 : decode cX12_exprMany 44 = .ok (.getfield 15, 3) := by decide +kernel
theorem dX12_exprMany_47 : decode cX12_exprMany 47 = .ok (.bipush 120, 2) := by decide +kernel
theorem dX12_exprMany_49 : decode cX12_exprMany 49 = .ok (.iload 7, 2) := by decide +kernel
theorem dX12_exprMany_51 : decode cX12_exprMany 51 = .ok (.iadd, 1) := by decide +kernel
theorem dX12_exprMany_52 : decode cX12_exprMany 52 = .ok (.iaload, 1) := by decide +kernel
theorem dX12_exprMany_53 : decode cX12_exprMany 53 = .ok (.iload_n 2, 1) := by decide +kernel
theorem dX12_exprMany_54 : decode cX12_exprMany 54 = .ok (.iload_n 3, 1) := by decide +kernel
theorem dX12_exprMany_55 : decode cX12_exprMany 55 = .ok (.invokestatic 276, 3) := by decide +kernel
theorem dX12_exprMany_58 : decode cX12_exprMany 58 = .ok (.laload, 1) := by decide +kernel
theorem dX12_exprMany_35 : decode cX12_exprMany 35 = .ok (.lconst 0, 1) := by decide +kernel
theorem dX12_exprMany_36 : decode cX12_exprMany 36 = .ok (.goto 23, 3) := by decide +kernel
theorem dX12_exprMany_59 : decode cX12_exprMany 59 = .ok (.ldc2_w 280, 3) := by decide +kernel
theorem dX12_exprMany_62 : decode cX12_exprMany 62 = .ok (.invokestatic 282, 3) := by decide +kernel
theorem dX12_exprMany_65 : decode cX12_exprMany 65 = .ok (.lstore 4, 2) := by decide +kernel
theorem dX12_exprMany_67 : decode cX12_exprMany 67 = .ok (.iinc 6 1, 3) := by decide +kernel
theorem dX12_exprMany_70 : decode cX12_exprMany 70 = .ok (.aload_n 0, 1) := by decide +kernel
theorem dX12_exprMany_71 : decode cX12_exprMany 71 = .ok (.getfield 15, 3) := by decide +kernel
theorem dX12_exprMany_74 : decode cX12_exprMany 74 = .ok (.sipush 144, 3) := by decide +kernel
theorem dX12_exprMany_77 : decode cX12_exprMany 77 = .ok (.iload 7, 2) := by decide +kernel
theorem dX12_exprMany_79 : decode cX12_exprMany 79 = .ok (.iadd, 1) := by decide +kernel
theorem dX12_exprMany_80 : decode cX12_exprMany 80 = .ok (.iaload, 1) := by decide +kernel
theorem dX12_exprMany_81 : decode cX12_exprMany 81 = .ok (.istore 7, 2) := by decide +kernel
theorem dX12_exprMany_83 : decode cX12_exprMany 83 = .ok (.goto (-65), 3) := by decide +kernel
theorem dX12_exprMany_86 : decode cX12_exprMany 86 = .ok (.lload 4, 2) := by decide +kernel
theorem dX12_exprMany_88 : decode cX12_exprMany 88 = .ok (.lreturn, 1) := by decide +kernel
theorem dX12_countsRest_0 : decode cX12_countsRest 0 = .ok (.aload_n 0, 1) := by decide +kernel
theorem dX12_countsRest_1 : decode cX12_countsRest 1 = .ok (.getfield 15, 3) := by decide +kernel
theorem dX12_countsRest_4 : decode cX12_countsRest 4 = .ok (.bipush 96, 2) := by decide +kernel
theorem dX12_countsRest_6 : decode cX12_countsRest 6 = .ok (.iload_n 1, 1) := by decide +kernel
theorem dX12_countsRest_7 : decode cX12_countsRest 7 = .ok (.iadd, 1) := by decide +kernel
theorem dX12_countsRest_8 : decode cX12_countsRest 8 = .ok (.iaload, 1) := by decide +kernel
theorem dX12_countsRest_9 : decode cX12_countsRest 9 = .ok (.istore 4, 2) := by decide +kernel
theorem dX12_countsRest_11 : decode cX12_countsRest 11 = .ok (.iconst 0, 1) := by decide +kernel
theorem dX12_countsRest_12 : decode cX12_countsRest 12 = .ok (.istore 5, 2) := by decide +kernel
theorem dX12_countsRest_14 : decode cX12_countsRest 14 = .ok (.iload 5, 2) := by decide +kernel
theorem dX12_countsRest_16 : decode cX12_countsRest 16 = .ok (.iload_n 3, 1) := by decide +kernel
theorem dX12_countsRest_17 : decode cX12_countsRest 17 = .ok (.if_icmp .gt 135, 3) := by decide +kernel
theorem dX12_countsRest_20 : decode cX12_countsRest 20 = .ok (.iload 4, 2) := by decide +kernel
theorem dX12_countsRest_22 : decode cX12_countsRest 22 = .ok (.ifCond .ge 18, 3) := by decide +kernel
theorem dX12_countsRest_40 : decode cX12_countsRest 40 = .ok (.lconst 0, 1) := by decide +kernel
theorem dX12_countsRest_25 : decode cX12_countsRest 25 = .ok (.aload_n 0, 1) := by decide +kernel
theorem dX12_countsRest_26 : decode cX12_countsRest 26 = .ok (.getfield 39, 3) := by decide +kernel
theorem dX12_countsRest_29 : decode cX12_countsRest 29 = .ok (.iload_n 1, 1) := by decide +kernel
theorem dX12_countsRest_30 : decode cX12_countsRest 30 = .ok (.iload_n 2, 1) := by decide +kernel
theorem dX12_countsRest_31 : decode cX12_countsRest 31 = .ok (.iload 5, 2) := by decide +kernel
theorem dX12_countsRest_33 : decode cX12_countsRest 33 = .ok (.invokestatic 276, 3) := by decide +kernel
theorem dX12_countsRest_36 : decode cX12_countsRest 36 = .ok (.laload, 1) := by decide +kernel
theorem dX12_countsRest_37 : decode cX12_countsRest 37 = .ok (.goto 4, 3) := by decide +kernel
theorem dX12_countsRest_41 : decode cX12_countsRest 41 = .ok (.lstore 6, 2) := by decide +kernel
theorem dX12_countsRest_43 : decode cX12_countsRest 43 = .ok (.iconst 0, 1) := by decide +kernel
theorem dX12_countsRest_44 : decode cX12_countsRest 44 = .ok (.istore 8, 2) := by decide +kernel
theorem dX12_countsRest_46 : decode cX12_countsRest 46 = .ok (.iload 8, 2) := by decide +kernel
theorem dX12_countsRest_48 : decode cX12_countsRest 48 = .ok (.iload_n 2, 1) := by decide +kernel
theorem dX12_countsRest_49 : decode cX12_countsRest 49 = .ok (.if_icmp .gt 83, 3) := by decide +kernel
theorem dX12_countsRest_52 : decode cX12_countsRest 52 = .ok (.iload 4, 2) := by decide +kernel
theorem dX12_countsRest_54 : decode cX12_countsRest 54 = .ok (.ifCond .lt 78, 3) := by decide +kernel
theorem dX12_countsRest_57 : decode cX12_countsRest 57 = .ok (.iconst 0, 1) := by decide +kernel
theorem dX12_countsRest_58 : decode cX12_countsRest 58 = .ok (.istore 9, 2) := by decide +kernel
theorem dX12_countsRest_60 : decode cX12_countsRest 60 = .ok (.iload 9, 2) := by decide +kernel
theorem dX12_countsRest_62 : decode cX12_countsRest 62 = .ok (.iload 8, 2) := by decide +kernel
theorem dX12_countsRest_64 : decode cX12_countsRest 64 = .ok (.iload 5, 2) := by decide +kernel
theorem dX12_countsRest_66 : decode cX12_countsRest 66 = .ok (.invokestatic 117, 3) := by decide +kernel
theorem dX12_countsRest_69 : decode cX12_countsRest 69 = .ok (.if_icmp .gt 57, 3) := by decide +kernel
theorem dX12_countsRest_72 : decode cX12_countsRest 72 = .ok (.lload 6, 2) := by decide +kernel
theorem dX12_countsRest_74 : decode cX12_countsRest 74 = .ok (.aload_n 0, 1) := by decide +kernel
theorem dX12_countsRest_75 : decode cX12_countsRest 75 = .ok (.getfield 39, 3) := by decide +kernel
theorem dX12_countsRest_78 : decode cX12_countsRest 78 = .ok (.iload_n 1, 1) := by decide +kernel
theorem dX12_countsRest_79 : decode cX12_countsRest 79 = .ok (.iload 8, 2) := by decide +kernel
theorem dX12_countsRest_81 : decode cX12_countsRest 81 = .ok (.iload 9, 2) := by decide +kernel
theorem dX12_countsRest_83 : decode cX12_countsRest 83 = .ok (.invokestatic 276, 3) := by decide +kernel
theorem dX12_countsRest_86 : decode cX12_countsRest 86 = .ok (.laload, 1) := by decide +kernel
theorem dX12_countsRest_87 : decode cX12_countsRest 87 = .ok (.aload_n 0, 1) := by decide +kernel
theorem dX12_countsRest_88 : decode cX12_countsRest 88 = .ok (.getfield 43, 3) := by decide +kernel
theorem dX12_countsRest_91 : decode cX12_countsRest 91 = .ok (.iload 4, 2) := by decide +kernel
theorem dX12_countsRest_93 : decode cX12_countsRest 93 = .ok (.iload_n 2, 1) := by decide +kernel
theorem dX12_countsRest_94 : decode cX12_countsRest 94 = .ok (.iload 8, 2) := by decide +kernel
theorem dX12_countsRest_96 : decode cX12_countsRest 96 = .ok (.isub, 1) := by decide +kernel
theorem dX12_countsRest_97 : decode cX12_countsRest 97 = .ok (.iload 5, 2) := by decide +kernel
theorem dX12_countsRest_99 : decode cX12_countsRest 99 = .ok (.iload 9, 2) := by decide +kernel
theorem dX12_countsRest_101 : decode cX12_countsRest 101 = .ok (.isub, 1) := by decide +kernel
theorem dX12_countsRest_102 : decode cX12_countsRest 102 = .ok (.invokestatic 276, 3) := by decide +kernel
theorem dX12_countsRest_105 : decode cX12_countsRest 105 = .ok (.laload, 1) := by decide +kernel
theorem dX12_countsRest_106 : decode cX12_countsRest 106 = .ok (.ldc2_w 280, 3) := by decide +kernel
theorem dX12_countsRest_109 : decode cX12_countsRest 109 = .ok (.invokestatic 286, 3) := by decide +kernel
theorem dX12_countsRest_112 : decode cX12_countsRest 112 = .ok (.ldc2_w 280, 3) := by decide +kernel
theorem dX12_countsRest_115 : decode cX12_countsRest 115 = .ok (.invokestatic 282, 3) := by decide +kernel
theorem dX12_countsRest_118 : decode cX12_countsRest 118 = .ok (.lstore 6, 2) := by decide +kernel
theorem dX12_countsRest_120 : decode cX12_countsRest 120 = .ok (.iinc 9 1, 3) := by decide +kernel
theorem dX12_countsRest_123 : decode cX12_countsRest 123 = .ok (.goto (-63), 3) := by decide +kernel
theorem dX12_countsRest_126 : decode cX12_countsRest 126 = .ok (.iinc 8 1, 3) := by decide +kernel
theorem dX12_countsRest_129 : decode cX12_countsRest 129 = .ok (.goto (-83), 3) := by decide +kernel
theorem dX12_countsRest_132 : decode cX12_countsRest 132 = .ok (.aload_n 0, 1) := by decide +kernel
theorem dX12_countsRest_133 : decode cX12_countsRest 133 = .ok (.getfield 43, 3) := by decide +kernel
theorem dX12_countsRest_136 : decode cX12_countsRest 136 = .ok (.iload_n 1, 1) := by decide +kernel
theorem dX12_countsRest_137 : decode cX12_countsRest 137 = .ok (.iload_n 2, 1) := by decide +kernel
theorem dX12_countsRest_138 : decode cX12_countsRest 138 = .ok (.iload 5, 2) := by decide +kernel
theorem dX12_countsRest_140 : decode cX12_countsRest 140 = .ok (.invokestatic 276, 3) := by decide +kernel
theorem dX12_countsRest_143 : decode cX12_countsRest 143 = .ok (.lload 6, 2) := by decide +kernel
theorem dX12_countsRest_145 : decode cX12_countsRest 145 = .ok (.lastore, 1) := by decide +kernel
theorem dX12_countsRest_146 : decode cX12_countsRest 146 = .ok (.iinc 5 1, 3) := by decide +kernel
theorem dX12_countsRest_149 : decode cX12_countsRest 149 = .ok (.goto (-135), 3) := by decide +kernel
theorem dX12_countsRest_152 : decode cX12_countsRest 152 = .ok (.return_, 1) := by decide +kernel
theorem dX12_ringsMany_0 : decode cX12_ringsMany 0 = .ok (.lconst 0, 1) := by decide +kernel
theorem dX12_ringsMany_1 : decode cX12_ringsMany 1 = .ok (.lstore 4, 2) := by decide +kernel
theorem dX12_ringsMany_3 : decode cX12_ringsMany 3 = .ok (.iconst 1, 1) := by decide +kernel
theorem dX12_ringsMany_4 : decode cX12_ringsMany 4 = .ok (.istore 6, 2) := by decide +kernel
theorem dX12_ringsMany_6 : decode cX12_ringsMany 6 = .ok (.iload 6, 2) := by decide +kernel
theorem dX12_ringsMany_8 : decode cX12_ringsMany 8 = .ok (.iload_n 1, 1) := by decide +kernel
theorem dX12_ringsMany_9 : decode cX12_ringsMany 9 = .ok (.if_icmp .gt 62, 3) := by decide +kernel
theorem dX12_ringsMany_12 : decode cX12_ringsMany 12 = .ok (.iload_n 1, 1) := by decide +kernel
theorem dX12_ringsMany_13 : decode cX12_ringsMany 13 = .ok (.iload 6, 2) := by decide +kernel
theorem dX12_ringsMany_15 : decode cX12_ringsMany 15 = .ok (.irem, 1) := by decide +kernel
theorem dX12_ringsMany_16 : decode cX12_ringsMany 16 = .ok (.ifCond .ne 49, 3) := by decide +kernel
theorem dX12_ringsMany_65 : decode cX12_ringsMany 65 = .ok (.iinc 6 1, 3) := by decide +kernel
theorem dX12_ringsMany_68 : decode cX12_ringsMany 68 = .ok (.goto (-62), 3) := by decide +kernel
theorem dX12_ringsMany_19 : decode cX12_ringsMany 19 = .ok (.iload_n 2, 1) := by decide +kernel
theorem dX12_ringsMany_20 : decode cX12_ringsMany 20 = .ok (.iload 6, 2) := by decide +kernel
theorem dX12_ringsMany_22 : decode cX12_ringsMany 22 = .ok (.irem, 1) := by decide +kernel
theorem dX12_ringsMany_23 : decode cX12_ringsMany 23 = .ok (.ifCond .ne 42, 3) := by decide +kernel
theorem dX12_ringsMany_26 : decode cX12_ringsMany 26 = .ok (.iload_n 3, 1) := by decide +kernel
theorem dX12_ringsMany_27 : decode cX12_ringsMany 27 = .ok (.iload 6, 2) := by decide +kernel
theorem dX12_ringsMany_29 : decode cX12_ringsMany 29 = .ok (.irem, 1) := by decide +kernel
theorem dX12_ringsMany_30 : decode cX12_ringsMany 30 = .ok (.ifCond .ne 35, 3) := by decide +kernel
theorem dX12_ringsMany_33 : decode cX12_ringsMany 33 = .ok (.lload 4, 2) := by decide +kernel
theorem dX12_ringsMany_35 : decode cX12_ringsMany 35 = .ok (.iload 6, 2) := by decide +kernel
theorem dX12_ringsMany_37 : decode cX12_ringsMany 37 = .ok (.invokestatic 303, 3) := by decide +kernel
theorem wm_2070 : (Jvm.Cond.methodLink "GrownKindsModel" (303 : Nat) ({ cls := "GrownKindsModel", name := "turnsOf", desc := "(I)I" } : Jvm.MethodName)) ∈ gT := gT_in (List.mem_of_getElem? (i := 2070) (by decide +kernel)) (by decide +kernel)
theorem wm_2071 : (Jvm.Cond.static ({ cls := "GrownKindsModel", name := "turnsOf", desc := "(I)I" } : Jvm.MethodName)) ∈ gT := gT_in (List.mem_of_getElem? (i := 2071) (by decide +kernel)) (by decide +kernel)
theorem wm_2072 : (Jvm.Cond.code ({ cls := "GrownKindsModel", name := "turnsOf", desc := "(I)I" } : Jvm.MethodName) prog_14_method_57_code (1 : Nat) (Option.some Jvm.ClassFile.FieldType.int)) ∈ gT := gT_in (List.mem_of_getElem? (i := 2072) (by decide +kernel)) (by decide +kernel)
theorem dX12_ringsMany_40 : decode cX12_ringsMany 40 = .ok (.i2l, 1) := by decide +kernel
theorem dX12_ringsMany_41 : decode cX12_ringsMany 41 = .ok (.aload_n 0, 1) := by decide +kernel
theorem dX12_ringsMany_42 : decode cX12_ringsMany 42 = .ok (.getfield 46, 3) := by decide +kernel
theorem dX12_ringsMany_45 : decode cX12_ringsMany 45 = .ok (.iload_n 1, 1) := by decide +kernel
theorem dX12_ringsMany_46 : decode cX12_ringsMany 46 = .ok (.iload 6, 2) := by decide +kernel
theorem dX12_ringsMany_48 : decode cX12_ringsMany 48 = .ok (.idiv, 1) := by decide +kernel
theorem dX12_ringsMany_49 : decode cX12_ringsMany 49 = .ok (.iload_n 2, 1) := by decide +kernel
theorem dX12_ringsMany_50 : decode cX12_ringsMany 50 = .ok (.iload 6, 2) := by decide +kernel
theorem dX12_ringsMany_52 : decode cX12_ringsMany 52 = .ok (.idiv, 1) := by decide +kernel
theorem dX12_ringsMany_53 : decode cX12_ringsMany 53 = .ok (.iload_n 3, 1) := by decide +kernel
theorem dX12_ringsMany_54 : decode cX12_ringsMany 54 = .ok (.iload 6, 2) := by decide +kernel
theorem dX12_ringsMany_56 : decode cX12_ringsMany 56 = .ok (.idiv, 1) := by decide +kernel
theorem dX12_ringsMany_57 : decode cX12_ringsMany 57 = .ok (.invokestatic 276, 3) := by decide +kernel
theorem dX12_ringsMany_60 : decode cX12_ringsMany 60 = .ok (.laload, 1) := by decide +kernel
theorem dX12_ringsMany_61 : decode cX12_ringsMany 61 = .ok (.lmul, 1) := by decide +kernel
theorem dX12_ringsMany_62 : decode cX12_ringsMany 62 = .ok (.ladd, 1) := by decide +kernel
theorem dX12_ringsMany_63 : decode cX12_ringsMany 63 = .ok (.lstore 4, 2) := by decide +kernel
theorem dX12_ringsMany_71 : decode cX12_ringsMany 71 = .ok (.ldc2_w 280, 3) := by decide +kernel
theorem dX12_ringsMany_74 : decode cX12_ringsMany 74 = .ok (.lload 4, 2) := by decide +kernel
theorem dX12_ringsMany_76 : decode cX12_ringsMany 76 = .ok (.iload_n 1, 1) := by decide +kernel
theorem dX12_ringsMany_77 : decode cX12_ringsMany 77 = .ok (.i2l, 1) := by decide +kernel
theorem dX12_ringsMany_78 : decode cX12_ringsMany 78 = .ok (.ldiv, 1) := by decide +kernel
theorem dX12_ringsMany_79 : decode cX12_ringsMany 79 = .ok (.invokestatic 1, 3) := by decide +kernel
theorem dX12_ringsMany_82 : decode cX12_ringsMany 82 = .ok (.lreturn, 1) := by decide +kernel
theorem dX12_inMany_0 : decode cX12_inMany 0 = .ok (.iload_n 2, 1) := by decide +kernel
theorem dX12_inMany_1 : decode cX12_inMany 1 = .ok (.ifCond .le 39, 3) := by decide +kernel
theorem dX12_inMany_40 : decode cX12_inMany 40 = .ok (.lconst 0, 1) := by decide +kernel
theorem dX12_inMany_41 : decode cX12_inMany 41 = .ok (.lstore 5, 2) := by decide +kernel
theorem dX12_inMany_43 : decode cX12_inMany 43 = .ok (.iload_n 1, 1) := by decide +kernel
theorem dX12_inMany_44 : decode cX12_inMany 44 = .ok (.bipush 6, 2) := by decide +kernel
theorem dX12_inMany_46 : decode cX12_inMany 46 = .ok (.if_icmp .ne 7, 3) := by decide +kernel
theorem dX12_inMany_53 : decode cX12_inMany 53 = .ok (.iconst 0, 1) := by decide +kernel
theorem dX12_inMany_49 : decode cX12_inMany 49 = .ok (.iconst 1, 1) := by decide +kernel
theorem dX12_inMany_50 : decode cX12_inMany 50 = .ok (.goto 4, 3) := by decide +kernel
theorem dX12_inMany_54 : decode cX12_inMany 54 = .ok (.istore 7, 2) := by decide +kernel
theorem dX12_inMany_56 : decode cX12_inMany 56 = .ok (.iload 7, 2) := by decide +kernel
theorem dX12_inMany_58 : decode cX12_inMany 58 = .ok (.iload_n 3, 1) := by decide +kernel
theorem dX12_inMany_59 : decode cX12_inMany 59 = .ok (.if_icmp .gt 56, 3) := by decide +kernel
theorem dX12_inMany_62 : decode cX12_inMany 62 = .ok (.lload 5, 2) := by decide +kernel
theorem dX12_inMany_64 : decode cX12_inMany 64 = .ok (.iload_n 1, 1) := by decide +kernel
theorem dX12_inMany_65 : decode cX12_inMany 65 = .ok (.bipush 6, 2) := by decide +kernel
theorem dX12_inMany_67 : decode cX12_inMany 67 = .ok (.if_icmp .ne 15, 3) := by decide +kernel
theorem dX12_inMany_82 : decode cX12_inMany 82 = .ok (.ldc2_w 280, 3) := by decide +kernel
theorem dX12_inMany_85 : decode cX12_inMany 85 = .ok (.aload_n 0, 1) := by decide +kernel
theorem dX12_inMany_86 : decode cX12_inMany 86 = .ok (.getfield 46, 3) := by decide +kernel
theorem dX12_inMany_89 : decode cX12_inMany 89 = .ok (.iload 7, 2) := by decide +kernel
theorem dX12_inMany_91 : decode cX12_inMany 91 = .ok (.iload_n 3, 1) := by decide +kernel
theorem dX12_inMany_92 : decode cX12_inMany 92 = .ok (.iload 4, 2) := by decide +kernel
theorem dX12_inMany_94 : decode cX12_inMany 94 = .ok (.invokestatic 276, 3) := by decide +kernel
theorem dX12_inMany_97 : decode cX12_inMany 97 = .ok (.laload, 1) := by decide +kernel
theorem dX12_inMany_98 : decode cX12_inMany 98 = .ok (.invokestatic 1, 3) := by decide +kernel
theorem dX12_inMany_101 : decode cX12_inMany 101 = .ok (.ldc2_w 280, 3) := by decide +kernel
theorem dX12_inMany_104 : decode cX12_inMany 104 = .ok (.invokestatic 282, 3) := by decide +kernel
theorem dX12_inMany_107 : decode cX12_inMany 107 = .ok (.lstore 5, 2) := by decide +kernel
theorem dX12_inMany_109 : decode cX12_inMany 109 = .ok (.iinc 7 1, 3) := by decide +kernel
theorem dX12_inMany_112 : decode cX12_inMany 112 = .ok (.goto (-56), 3) := by decide +kernel
theorem dX12_inMany_70 : decode cX12_inMany 70 = .ok (.aload_n 0, 1) := by decide +kernel
theorem dX12_inMany_71 : decode cX12_inMany 71 = .ok (.iload 7, 2) := by decide +kernel
theorem dX12_inMany_73 : decode cX12_inMany 73 = .ok (.iload_n 3, 1) := by decide +kernel
theorem dX12_inMany_74 : decode cX12_inMany 74 = .ok (.iload 4, 2) := by decide +kernel
theorem dX12_inMany_76 : decode cX12_inMany 76 = .ok (.invokevirtual 300, 3) := by decide +kernel
theorem wm_2066 : (Jvm.Cond.methodLink "GrownKindsModel" (300 : Nat) ({ cls := "GrownKindsModel", name := "ringsMany", desc := "(III)J" } : Jvm.MethodName)) ∈ gT := gT_in (List.mem_of_getElem? (i := 2066) (by decide +kernel)) (by decide +kernel)
theorem wm_2068 : (Jvm.Cond.instanceMethod ({ cls := "GrownKindsModel", name := "ringsMany", desc := "(III)J" } : Jvm.MethodName)) ∈ gT := gT_in (List.mem_of_getElem? (i := 2068) (by decide +kernel)) (by decide +kernel)
theorem wm_123 : Cond.selects "GrownKindsModel" ⟨"GrownKindsModel", "ringsMany", "(III)J"⟩ ⟨"GrownKindsModel", "ringsMany", "(III)J"⟩ ∈ gT := gT_in (List.mem_of_getElem? (i := 123) (by decide +kernel)) (by decide +kernel)
theorem wm_2069 : (Jvm.Cond.code ({ cls := "GrownKindsModel", name := "ringsMany", desc := "(III)J" } : Jvm.MethodName) prog_14_method_58_code (7 : Nat) (Option.some Jvm.ClassFile.FieldType.long)) ∈ gT := gT_in (List.mem_of_getElem? (i := 2069) (by decide +kernel)) (by decide +kernel)
theorem dX12_inMany_79 : decode cX12_inMany 79 = .ok (.goto 22, 3) := by decide +kernel
theorem dX12_inMany_115 : decode cX12_inMany 115 = .ok (.lload 5, 2) := by decide +kernel
theorem dX12_inMany_117 : decode cX12_inMany 117 = .ok (.lreturn, 1) := by decide +kernel
theorem dX12_inMany_4 : decode cX12_inMany 4 = .ok (.iload_n 1, 1) := by decide +kernel
theorem dX12_inMany_5 : decode cX12_inMany 5 = .ok (.bipush 6, 2) := by decide +kernel
theorem dX12_inMany_7 : decode cX12_inMany 7 = .ok (.if_icmp .ne 14, 3) := by decide +kernel
theorem dX12_inMany_21 : decode cX12_inMany 21 = .ok (.ldc2_w 280, 3) := by decide +kernel
theorem dX12_inMany_24 : decode cX12_inMany 24 = .ok (.aload_n 0, 1) := by decide +kernel
theorem dX12_inMany_25 : decode cX12_inMany 25 = .ok (.getfield 46, 3) := by decide +kernel
theorem dX12_inMany_28 : decode cX12_inMany 28 = .ok (.iload_n 2, 1) := by decide +kernel
theorem dX12_inMany_29 : decode cX12_inMany 29 = .ok (.iload_n 3, 1) := by decide +kernel
theorem dX12_inMany_30 : decode cX12_inMany 30 = .ok (.iload 4, 2) := by decide +kernel
theorem dX12_inMany_32 : decode cX12_inMany 32 = .ok (.invokestatic 276, 3) := by decide +kernel
theorem dX12_inMany_35 : decode cX12_inMany 35 = .ok (.laload, 1) := by decide +kernel
theorem dX12_inMany_36 : decode cX12_inMany 36 = .ok (.invokestatic 1, 3) := by decide +kernel
theorem dX12_inMany_39 : decode cX12_inMany 39 = .ok (.lreturn, 1) := by decide +kernel
theorem dX12_inMany_10 : decode cX12_inMany 10 = .ok (.aload_n 0, 1) := by decide +kernel
theorem dX12_inMany_11 : decode cX12_inMany 11 = .ok (.iload_n 2, 1) := by decide +kernel
theorem dX12_inMany_12 : decode cX12_inMany 12 = .ok (.iload_n 3, 1) := by decide +kernel
theorem dX12_inMany_13 : decode cX12_inMany 13 = .ok (.iload 4, 2) := by decide +kernel
theorem dX12_inMany_15 : decode cX12_inMany 15 = .ok (.invokevirtual 300, 3) := by decide +kernel
theorem dX12_inMany_18 : decode cX12_inMany 18 = .ok (.goto 21, 3) := by decide +kernel
theorem dX12_countsPart_0 : decode cX12_countsPart 0 = .ok (.aload_n 0, 1) := by decide +kernel
theorem dX12_countsPart_1 : decode cX12_countsPart 1 = .ok (.getfield 15, 3) := by decide +kernel
theorem dX12_countsPart_4 : decode cX12_countsPart 4 = .ok (.bipush 24, 2) := by decide +kernel
theorem dX12_countsPart_6 : decode cX12_countsPart 6 = .ok (.iload_n 1, 1) := by decide +kernel
theorem dX12_countsPart_7 : decode cX12_countsPart 7 = .ok (.iadd, 1) := by decide +kernel
theorem dX12_countsPart_8 : decode cX12_countsPart 8 = .ok (.iaload, 1) := by decide +kernel
theorem dX12_countsPart_9 : decode cX12_countsPart 9 = .ok (.istore 5, 2) := by decide +kernel
theorem dX12_countsPart_11 : decode cX12_countsPart 11 = .ok (.iload 5, 2) := by decide +kernel
theorem dX12_countsPart_13 : decode cX12_countsPart 13 = .ok (.i2l, 1) := by decide +kernel
theorem dX12_countsPart_14 : decode cX12_countsPart 14 = .ok (.ldc2_w 237, 3) := by decide +kernel
theorem wm_1964 : (Jvm.Cond.constantLong "GrownKindsModel" (237 : Nat) (3 : Int64)) ∈ gT := gT_in (List.mem_of_getElem? (i := 1964) (by decide +kernel)) (by decide +kernel)
theorem dX12_countsPart_17 : decode cX12_countsPart 17 = .ok (.ldc2_w 239, 3) := by decide +kernel
theorem wm_1965 : (Jvm.Cond.constantLong "GrownKindsModel" (239 : Nat) (6 : Int64)) ∈ gT := gT_in (List.mem_of_getElem? (i := 1965) (by decide +kernel)) (by decide +kernel)
theorem dX12_countsPart_20 : decode cX12_countsPart 20 = .ok (.invokestatic 97, 3) := by decide +kernel
theorem dX12_countsPart_23 : decode cX12_countsPart 23 = .ok (.istore 6, 2) := by decide +kernel
theorem dX12_countsPart_25 : decode cX12_countsPart 25 = .ok (.iload 6, 2) := by decide +kernel
theorem dX12_countsPart_27 : decode cX12_countsPart 27 = .ok (.ifCond .eq 44, 3) := by decide +kernel
theorem dX12_countsPart_30 : decode cX12_countsPart 30 = .ok (.iload 5, 2) := by decide +kernel
theorem dX12_countsPart_32 : decode cX12_countsPart 32 = .ok (.iconst 4, 1) := by decide +kernel
theorem dX12_countsPart_33 : decode cX12_countsPart 33 = .ok (.if_icmp .eq 9, 3) := by decide +kernel
theorem dX12_countsPart_36 : decode cX12_countsPart 36 = .ok (.iload 5, 2) := by decide +kernel
theorem dX12_countsPart_38 : decode cX12_countsPart 38 = .ok (.iconst 5, 1) := by decide +kernel
theorem dX12_countsPart_39 : decode cX12_countsPart 39 = .ok (.if_icmp .ne 32, 3) := by decide +kernel
theorem dX12_countsPart_42 : decode cX12_countsPart 42 = .ok (.aload_n 0, 1) := by decide +kernel
theorem dX12_countsPart_43 : decode cX12_countsPart 43 = .ok (.aload_n 0, 1) := by decide +kernel
theorem dX12_countsPart_44 : decode cX12_countsPart 44 = .ok (.getfield 15, 3) := by decide +kernel
theorem dX12_countsPart_47 : decode cX12_countsPart 47 = .ok (.bipush 72, 2) := by decide +kernel
theorem dX12_countsPart_49 : decode cX12_countsPart 49 = .ok (.iload_n 1, 1) := by decide +kernel
theorem dX12_countsPart_50 : decode cX12_countsPart 50 = .ok (.iadd, 1) := by decide +kernel
theorem dX12_countsPart_51 : decode cX12_countsPart 51 = .ok (.iaload, 1) := by decide +kernel
theorem dX12_countsPart_52 : decode cX12_countsPart 52 = .ok (.iload_n 2, 1) := by decide +kernel
theorem dX12_countsPart_53 : decode cX12_countsPart 53 = .ok (.iload_n 3, 1) := by decide +kernel
theorem dX12_countsPart_54 : decode cX12_countsPart 54 = .ok (.iload 5, 2) := by decide +kernel
theorem dX12_countsPart_56 : decode cX12_countsPart 56 = .ok (.iconst 5, 1) := by decide +kernel
theorem dX12_countsPart_57 : decode cX12_countsPart 57 = .ok (.if_icmp .ne 7, 3) := by decide +kernel
theorem dX12_countsPart_64 : decode cX12_countsPart 64 = .ok (.iconst 0, 1) := by decide +kernel
theorem dX12_countsPart_65 : decode cX12_countsPart 65 = .ok (.invokevirtual 289, 3) := by decide +kernel
theorem wm_2030 : (Jvm.Cond.methodLink "GrownKindsModel" (289 : Nat) ({ cls := "GrownKindsModel", name := "laysBags", desc := "(IIIZ)V" } : Jvm.MethodName)) ∈ gT := gT_in (List.mem_of_getElem? (i := 2030) (by decide +kernel)) (by decide +kernel)
theorem wm_2032 : (Jvm.Cond.instanceMethod ({ cls := "GrownKindsModel", name := "laysBags", desc := "(IIIZ)V" } : Jvm.MethodName)) ∈ gT := gT_in (List.mem_of_getElem? (i := 2032) (by decide +kernel)) (by decide +kernel)
theorem wm_118 : Cond.selects "GrownKindsModel" ⟨"GrownKindsModel", "laysBags", "(IIIZ)V"⟩ ⟨"GrownKindsModel", "laysBags", "(IIIZ)V"⟩ ∈ gT := gT_in (List.mem_of_getElem? (i := 118) (by decide +kernel)) (by decide +kernel)
theorem wm_2033 : (Jvm.Cond.code ({ cls := "GrownKindsModel", name := "laysBags", desc := "(IIIZ)V" } : Jvm.MethodName) prog_14_method_61_code (7 : Nat) (Option.none : Option Jvm.ClassFile.FieldType)) ∈ gT := gT_in (List.mem_of_getElem? (i := 2033) (by decide +kernel)) (by decide +kernel)
theorem dX12_countsPart_68 : decode cX12_countsPart 68 = .ok (.goto 23, 3) := by decide +kernel
theorem dX12_countsPart_60 : decode cX12_countsPart 60 = .ok (.iconst 1, 1) := by decide +kernel
theorem dX12_countsPart_61 : decode cX12_countsPart 61 = .ok (.goto 4, 3) := by decide +kernel
theorem dX12_countsPart_71 : decode cX12_countsPart 71 = .ok (.iload 6, 2) := by decide +kernel
theorem dX12_countsPart_73 : decode cX12_countsPart 73 = .ok (.ifCond .eq 18, 3) := by decide +kernel
theorem dX12_countsPart_76 : decode cX12_countsPart 76 = .ok (.aload_n 0, 1) := by decide +kernel
theorem dX12_countsPart_77 : decode cX12_countsPart 77 = .ok (.aload_n 0, 1) := by decide +kernel
theorem dX12_countsPart_78 : decode cX12_countsPart 78 = .ok (.getfield 15, 3) := by decide +kernel
theorem dX12_countsPart_81 : decode cX12_countsPart 81 = .ok (.bipush 72, 2) := by decide +kernel
theorem dX12_countsPart_83 : decode cX12_countsPart 83 = .ok (.iload_n 1, 1) := by decide +kernel
theorem dX12_countsPart_84 : decode cX12_countsPart 84 = .ok (.iadd, 1) := by decide +kernel
theorem dX12_countsPart_85 : decode cX12_countsPart 85 = .ok (.iaload, 1) := by decide +kernel
theorem dX12_countsPart_86 : decode cX12_countsPart 86 = .ok (.iload_n 2, 1) := by decide +kernel
theorem dX12_countsPart_87 : decode cX12_countsPart 87 = .ok (.iload_n 3, 1) := by decide +kernel
theorem dX12_countsPart_88 : decode cX12_countsPart 88 = .ok (.invokevirtual 293, 3) := by decide +kernel
theorem wm_2053 : (Jvm.Cond.methodLink "GrownKindsModel" (293 : Nat) ({ cls := "GrownKindsModel", name := "laysRows", desc := "(III)V" } : Jvm.MethodName)) ∈ gT := gT_in (List.mem_of_getElem? (i := 2053) (by decide +kernel)) (by decide +kernel)
theorem wm_2055 : (Jvm.Cond.instanceMethod ({ cls := "GrownKindsModel", name := "laysRows", desc := "(III)V" } : Jvm.MethodName)) ∈ gT := gT_in (List.mem_of_getElem? (i := 2055) (by decide +kernel)) (by decide +kernel)
theorem wm_120 : Cond.selects "GrownKindsModel" ⟨"GrownKindsModel", "laysRows", "(III)V"⟩ ⟨"GrownKindsModel", "laysRows", "(III)V"⟩ ∈ gT := gT_in (List.mem_of_getElem? (i := 120) (by decide +kernel)) (by decide +kernel)
theorem wm_2056 : (Jvm.Cond.code ({ cls := "GrownKindsModel", name := "laysRows", desc := "(III)V" } : Jvm.MethodName) prog_14_method_59_code (11 : Nat) (Option.none : Option Jvm.ClassFile.FieldType)) ∈ gT := gT_in (List.mem_of_getElem? (i := 2056) (by decide +kernel)) (by decide +kernel)
theorem dX12_countsPart_91 : decode cX12_countsPart 91 = .ok (.iconst 0, 1) := by decide +kernel
theorem dX12_countsPart_92 : decode cX12_countsPart 92 = .ok (.istore 7, 2) := by decide +kernel
theorem dX12_countsPart_94 : decode cX12_countsPart 94 = .ok (.iload 7, 2) := by decide +kernel
theorem dX12_countsPart_96 : decode cX12_countsPart 96 = .ok (.iload_n 3, 1) := by decide +kernel
theorem dX12_countsPart_97 : decode cX12_countsPart 97 = .ok (.if_icmp .gt 193, 3) := by decide +kernel
theorem dX12_countsPart_100 : decode cX12_countsPart 100 = .ok (.iload 5, 2) := by decide +kernel
theorem dX12_countsPart_102 : decode cX12_countsPart 102 = .ok (.tableswitch 148 0 7 #[46, 85, 99, 148, 148, 148, 148, 127], 46) := by decide +kernel
theorem dX12_countsPart_148 : decode cX12_countsPart 148 = .ok (.iload_n 2, 1) := by decide +kernel
theorem dX12_countsPart_149 : decode cX12_countsPart 149 = .ok (.iconst 1, 1) := by decide +kernel
theorem dX12_countsPart_150 : decode cX12_countsPart 150 = .ok (.if_icmp .ne 31, 3) := by decide +kernel
theorem dX12_countsPart_181 : decode cX12_countsPart 181 = .ok (.lconst 0, 1) := by decide +kernel
theorem dX12_countsPart_182 : decode cX12_countsPart 182 = .ok (.lstore 8, 2) := by decide +kernel
theorem dX12_countsPart_184 : decode cX12_countsPart 184 = .ok (.goto 86, 3) := by decide +kernel
theorem dX12_countsPart_153 : decode cX12_countsPart 153 = .ok (.iload 7, 2) := by decide +kernel
theorem dX12_countsPart_155 : decode cX12_countsPart 155 = .ok (.iload 4, 2) := by decide +kernel
theorem dX12_countsPart_157 : decode cX12_countsPart 157 = .ok (.aload_n 0, 1) := by decide +kernel
theorem dX12_countsPart_158 : decode cX12_countsPart 158 = .ok (.getfield 15, 3) := by decide +kernel
theorem dX12_countsPart_161 : decode cX12_countsPart 161 = .ok (.bipush 48, 2) := by decide +kernel
theorem dX12_countsPart_163 : decode cX12_countsPart 163 = .ok (.iload_n 1, 1) := by decide +kernel
theorem dX12_countsPart_164 : decode cX12_countsPart 164 = .ok (.iadd, 1) := by decide +kernel
theorem dX12_countsPart_165 : decode cX12_countsPart 165 = .ok (.iaload, 1) := by decide +kernel
theorem dX12_countsPart_166 : decode cX12_countsPart 166 = .ok (.if_icmp .ne 7, 3) := by decide +kernel
theorem dX12_countsPart_173 : decode cX12_countsPart 173 = .ok (.iconst 0, 1) := by decide +kernel
theorem dX12_countsPart_174 : decode cX12_countsPart 174 = .ok (.if_icmp .ne 7, 3) := by decide +kernel
theorem dX12_countsPart_177 : decode cX12_countsPart 177 = .ok (.lconst 1, 1) := by decide +kernel
theorem dX12_countsPart_178 : decode cX12_countsPart 178 = .ok (.goto 4, 3) := by decide +kernel
theorem dX12_countsPart_169 : decode cX12_countsPart 169 = .ok (.iconst 1, 1) := by decide +kernel
theorem dX12_countsPart_170 : decode cX12_countsPart 170 = .ok (.goto 4, 3) := by decide +kernel
theorem dX12_countsPart_187 : decode cX12_countsPart 187 = .ok (.iload_n 2, 1) := by decide +kernel
theorem dX12_countsPart_188 : decode cX12_countsPart 188 = .ok (.ifCond .ne 7, 3) := by decide +kernel
theorem dX12_countsPart_195 : decode cX12_countsPart 195 = .ok (.lconst 0, 1) := by decide +kernel
theorem dX12_countsPart_196 : decode cX12_countsPart 196 = .ok (.lstore 8, 2) := by decide +kernel
theorem dX12_countsPart_198 : decode cX12_countsPart 198 = .ok (.goto 72, 3) := by decide +kernel
theorem dX12_countsPart_191 : decode cX12_countsPart 191 = .ok (.lconst 1, 1) := by decide +kernel
theorem dX12_countsPart_192 : decode cX12_countsPart 192 = .ok (.goto 4, 3) := by decide +kernel
theorem dX12_countsPart_201 : decode cX12_countsPart 201 = .ok (.aload_n 0, 1) := by decide +kernel
theorem dX12_countsPart_202 : decode cX12_countsPart 202 = .ok (.getfield 39, 3) := by decide +kernel
theorem dX12_countsPart_205 : decode cX12_countsPart 205 = .ok (.bipush 24, 2) := by decide +kernel
theorem dX12_countsPart_207 : decode cX12_countsPart 207 = .ok (.aload_n 0, 1) := by decide +kernel
theorem dX12_countsPart_208 : decode cX12_countsPart 208 = .ok (.getfield 15, 3) := by decide +kernel
theorem dX12_countsPart_211 : decode cX12_countsPart 211 = .ok (.bipush 48, 2) := by decide +kernel
theorem dX12_countsPart_213 : decode cX12_countsPart 213 = .ok (.iload_n 1, 1) := by decide +kernel
theorem dX12_countsPart_214 : decode cX12_countsPart 214 = .ok (.iadd, 1) := by decide +kernel
theorem dX12_countsPart_215 : decode cX12_countsPart 215 = .ok (.iaload, 1) := by decide +kernel
theorem dX12_countsPart_216 : decode cX12_countsPart 216 = .ok (.iadd, 1) := by decide +kernel
theorem dX12_countsPart_217 : decode cX12_countsPart 217 = .ok (.iload_n 2, 1) := by decide +kernel
theorem dX12_countsPart_218 : decode cX12_countsPart 218 = .ok (.iload 7, 2) := by decide +kernel
theorem dX12_countsPart_220 : decode cX12_countsPart 220 = .ok (.invokestatic 276, 3) := by decide +kernel
theorem dX12_countsPart_223 : decode cX12_countsPart 223 = .ok (.laload, 1) := by decide +kernel
theorem dX12_countsPart_224 : decode cX12_countsPart 224 = .ok (.lstore 8, 2) := by decide +kernel
theorem dX12_countsPart_226 : decode cX12_countsPart 226 = .ok (.goto 44, 3) := by decide +kernel
theorem dX12_countsPart_250 : decode cX12_countsPart 250 = .ok (.aload_n 0, 1) := by decide +kernel
theorem dX12_countsPart_251 : decode cX12_countsPart 251 = .ok (.iload 5, 2) := by decide +kernel
theorem dX12_countsPart_253 : decode cX12_countsPart 253 = .ok (.aload_n 0, 1) := by decide +kernel
theorem dX12_countsPart_254 : decode cX12_countsPart 254 = .ok (.getfield 15, 3) := by decide +kernel
theorem dX12_countsPart_257 : decode cX12_countsPart 257 = .ok (.bipush 48, 2) := by decide +kernel
theorem dX12_countsPart_259 : decode cX12_countsPart 259 = .ok (.iload_n 1, 1) := by decide +kernel
theorem dX12_countsPart_260 : decode cX12_countsPart 260 = .ok (.iadd, 1) := by decide +kernel
theorem dX12_countsPart_261 : decode cX12_countsPart 261 = .ok (.iaload, 1) := by decide +kernel
theorem dX12_countsPart_262 : decode cX12_countsPart 262 = .ok (.iload_n 2, 1) := by decide +kernel
theorem dX12_countsPart_263 : decode cX12_countsPart 263 = .ok (.iload 7, 2) := by decide +kernel
theorem dX12_countsPart_265 : decode cX12_countsPart 265 = .ok (.invokevirtual 296, 3) := by decide +kernel
theorem wm_2062 : (Jvm.Cond.methodLink "GrownKindsModel" (296 : Nat) ({ cls := "GrownKindsModel", name := "inMany", desc := "(IIII)J" } : Jvm.MethodName)) ∈ gT := gT_in (List.mem_of_getElem? (i := 2062) (by decide +kernel)) (by decide +kernel)
theorem wm_2064 : (Jvm.Cond.instanceMethod ({ cls := "GrownKindsModel", name := "inMany", desc := "(IIII)J" } : Jvm.MethodName)) ∈ gT := gT_in (List.mem_of_getElem? (i := 2064) (by decide +kernel)) (by decide +kernel)
theorem wm_122 : Cond.selects "GrownKindsModel" ⟨"GrownKindsModel", "inMany", "(IIII)J"⟩ ⟨"GrownKindsModel", "inMany", "(IIII)J"⟩ ∈ gT := gT_in (List.mem_of_getElem? (i := 122) (by decide +kernel)) (by decide +kernel)
theorem wm_2065 : (Jvm.Cond.code ({ cls := "GrownKindsModel", name := "inMany", desc := "(IIII)J" } : Jvm.MethodName) prog_14_method_56_code (8 : Nat) (Option.some Jvm.ClassFile.FieldType.long)) ∈ gT := gT_in (List.mem_of_getElem? (i := 2065) (by decide +kernel)) (by decide +kernel)
theorem dX12_countsPart_268 : decode cX12_countsPart 268 = .ok (.lstore 8, 2) := by decide +kernel
theorem dX12_countsPart_229 : decode cX12_countsPart 229 = .ok (.aload_n 0, 1) := by decide +kernel
theorem dX12_countsPart_230 : decode cX12_countsPart 230 = .ok (.aload_n 0, 1) := by decide +kernel
theorem dX12_countsPart_231 : decode cX12_countsPart 231 = .ok (.getfield 15, 3) := by decide +kernel
theorem dX12_countsPart_234 : decode cX12_countsPart 234 = .ok (.bipush 48, 2) := by decide +kernel
theorem dX12_countsPart_236 : decode cX12_countsPart 236 = .ok (.iload_n 1, 1) := by decide +kernel
theorem dX12_countsPart_237 : decode cX12_countsPart 237 = .ok (.iadd, 1) := by decide +kernel
theorem dX12_countsPart_238 : decode cX12_countsPart 238 = .ok (.iaload, 1) := by decide +kernel
theorem dX12_countsPart_239 : decode cX12_countsPart 239 = .ok (.iload_n 2, 1) := by decide +kernel
theorem dX12_countsPart_240 : decode cX12_countsPart 240 = .ok (.iload 7, 2) := by decide +kernel
theorem dX12_countsPart_242 : decode cX12_countsPart 242 = .ok (.invokevirtual 272, 3) := by decide +kernel
theorem wm_2058 : (Jvm.Cond.methodLink "GrownKindsModel" (272 : Nat) ({ cls := "GrownKindsModel", name := "exprMany", desc := "(III)J" } : Jvm.MethodName)) ∈ gT := gT_in (List.mem_of_getElem? (i := 2058) (by decide +kernel)) (by decide +kernel)
theorem wm_2060 : (Jvm.Cond.instanceMethod ({ cls := "GrownKindsModel", name := "exprMany", desc := "(III)J" } : Jvm.MethodName)) ∈ gT := gT_in (List.mem_of_getElem? (i := 2060) (by decide +kernel)) (by decide +kernel)
theorem wm_121 : Cond.selects "GrownKindsModel" ⟨"GrownKindsModel", "exprMany", "(III)J"⟩ ⟨"GrownKindsModel", "exprMany", "(III)J"⟩ ∈ gT := gT_in (List.mem_of_getElem? (i := 121) (by decide +kernel)) (by decide +kernel)
theorem wm_2061 : (Jvm.Cond.code ({ cls := "GrownKindsModel", name := "exprMany", desc := "(III)J" } : Jvm.MethodName) prog_14_method_53_code (8 : Nat) (Option.some Jvm.ClassFile.FieldType.long)) ∈ gT := gT_in (List.mem_of_getElem? (i := 2061) (by decide +kernel)) (by decide +kernel)
theorem dX12_countsPart_245 : decode cX12_countsPart 245 = .ok (.lstore 8, 2) := by decide +kernel
theorem dX12_countsPart_247 : decode cX12_countsPart 247 = .ok (.goto 23, 3) := by decide +kernel
theorem dX12_countsPart_270 : decode cX12_countsPart 270 = .ok (.aload_n 0, 1) := by decide +kernel
theorem dX12_countsPart_271 : decode cX12_countsPart 271 = .ok (.getfield 39, 3) := by decide +kernel
theorem dX12_countsPart_274 : decode cX12_countsPart 274 = .ok (.iload_n 1, 1) := by decide +kernel
theorem dX12_countsPart_275 : decode cX12_countsPart 275 = .ok (.iload_n 2, 1) := by decide +kernel
theorem dX12_countsPart_276 : decode cX12_countsPart 276 = .ok (.iload 7, 2) := by decide +kernel
theorem dX12_countsPart_278 : decode cX12_countsPart 278 = .ok (.invokestatic 276, 3) := by decide +kernel
theorem dX12_countsPart_281 : decode cX12_countsPart 281 = .ok (.lload 8, 2) := by decide +kernel
theorem dX12_countsPart_283 : decode cX12_countsPart 283 = .ok (.lastore, 1) := by decide +kernel
theorem dX12_countsPart_284 : decode cX12_countsPart 284 = .ok (.iinc 7 1, 3) := by decide +kernel
theorem dX12_countsPart_287 : decode cX12_countsPart 287 = .ok (.goto (-193), 3) := by decide +kernel
theorem dX12_countsPart_290 : decode cX12_countsPart 290 = .ok (.return_, 1) := by decide +kernel
theorem dX12_counts_0 : decode cX12_counts 0 = .ok (.iconst 0, 1) := by decide +kernel
theorem dX12_counts_1 : decode cX12_counts 1 = .ok (.istore_n 2, 1) := by decide +kernel
theorem dX12_counts_2 : decode cX12_counts 2 = .ok (.iload_n 2, 1) := by decide +kernel
theorem dX12_counts_3 : decode cX12_counts 3 = .ok (.aload_n 0, 1) := by decide +kernel
theorem dX12_counts_4 : decode cX12_counts 4 = .ok (.getfield 39, 3) := by decide +kernel
theorem dX12_counts_7 : decode cX12_counts 7 = .ok (.arraylength, 1) := by decide +kernel
theorem dX12_counts_8 : decode cX12_counts 8 = .ok (.if_icmp .ge 16, 3) := by decide +kernel
theorem dX12_counts_11 : decode cX12_counts 11 = .ok (.aload_n 0, 1) := by decide +kernel
theorem dX12_counts_12 : decode cX12_counts 12 = .ok (.getfield 39, 3) := by decide +kernel
theorem dX12_counts_15 : decode cX12_counts 15 = .ok (.iload_n 2, 1) := by decide +kernel
theorem dX12_counts_16 : decode cX12_counts 16 = .ok (.lconst 0, 1) := by decide +kernel
theorem dX12_counts_17 : decode cX12_counts 17 = .ok (.lastore, 1) := by decide +kernel
theorem dX12_counts_18 : decode cX12_counts 18 = .ok (.iinc 2 1, 3) := by decide +kernel
theorem dX12_counts_21 : decode cX12_counts 21 = .ok (.goto (-19), 3) := by decide +kernel
theorem dX12_counts_24 : decode cX12_counts 24 = .ok (.iconst 0, 1) := by decide +kernel
theorem dX12_counts_25 : decode cX12_counts 25 = .ok (.istore_n 2, 1) := by decide +kernel
theorem dX12_counts_26 : decode cX12_counts 26 = .ok (.iload_n 2, 1) := by decide +kernel
theorem dX12_counts_27 : decode cX12_counts 27 = .ok (.aload_n 0, 1) := by decide +kernel
theorem dX12_counts_28 : decode cX12_counts 28 = .ok (.getfield 43, 3) := by decide +kernel
theorem dX12_counts_31 : decode cX12_counts 31 = .ok (.arraylength, 1) := by decide +kernel
theorem dX12_counts_32 : decode cX12_counts 32 = .ok (.if_icmp .ge 16, 3) := by decide +kernel
theorem dX12_counts_35 : decode cX12_counts 35 = .ok (.aload_n 0, 1) := by decide +kernel
theorem dX12_counts_36 : decode cX12_counts 36 = .ok (.getfield 43, 3) := by decide +kernel
theorem dX12_counts_39 : decode cX12_counts 39 = .ok (.iload_n 2, 1) := by decide +kernel
theorem dX12_counts_40 : decode cX12_counts 40 = .ok (.lconst 0, 1) := by decide +kernel
theorem dX12_counts_41 : decode cX12_counts 41 = .ok (.lastore, 1) := by decide +kernel
theorem dX12_counts_42 : decode cX12_counts 42 = .ok (.iinc 2 1, 3) := by decide +kernel
theorem dX12_counts_45 : decode cX12_counts 45 = .ok (.goto (-19), 3) := by decide +kernel
theorem dX12_counts_48 : decode cX12_counts 48 = .ok (.iconst 0, 1) := by decide +kernel
theorem dX12_counts_49 : decode cX12_counts 49 = .ok (.istore_n 2, 1) := by decide +kernel
theorem dX12_counts_50 : decode cX12_counts 50 = .ok (.iload_n 2, 1) := by decide +kernel
theorem dX12_counts_51 : decode cX12_counts 51 = .ok (.bipush 8, 2) := by decide +kernel
theorem dX12_counts_53 : decode cX12_counts 53 = .ok (.if_icmp .ge 168, 3) := by decide +kernel
theorem dX12_counts_56 : decode cX12_counts 56 = .ok (.iconst 1, 1) := by decide +kernel
theorem dX12_counts_57 : decode cX12_counts 57 = .ok (.istore_n 3, 1) := by decide +kernel
theorem dX12_counts_58 : decode cX12_counts 58 = .ok (.iload_n 3, 1) := by decide +kernel
theorem dX12_counts_59 : decode cX12_counts 59 = .ok (.ifCond .eq 156, 3) := by decide +kernel
theorem dX12_counts_62 : decode cX12_counts 62 = .ok (.iconst 0, 1) := by decide +kernel
theorem dX12_counts_63 : decode cX12_counts 63 = .ok (.istore_n 3, 1) := by decide +kernel
theorem dX12_counts_64 : decode cX12_counts 64 = .ok (.iload_n 1, 1) := by decide +kernel
theorem dX12_counts_65 : decode cX12_counts 65 = .ok (.ifCond .ge 7, 3) := by decide +kernel
theorem dX12_counts_72 : decode cX12_counts 72 = .ok (.iload_n 2, 1) := by decide +kernel
theorem dX12_counts_68 : decode cX12_counts 68 = .ok (.iconst 0, 1) := by decide +kernel
theorem dX12_counts_69 : decode cX12_counts 69 = .ok (.goto 4, 3) := by decide +kernel
theorem dX12_counts_73 : decode cX12_counts 73 = .ok (.istore 4, 2) := by decide +kernel
theorem dX12_counts_75 : decode cX12_counts 75 = .ok (.aload_n 0, 1) := by decide +kernel
theorem dX12_counts_76 : decode cX12_counts 76 = .ok (.getfield 15, 3) := by decide +kernel
theorem dX12_counts_79 : decode cX12_counts 79 = .ok (.iconst 2, 1) := by decide +kernel
theorem dX12_counts_80 : decode cX12_counts 80 = .ok (.iaload, 1) := by decide +kernel
theorem dX12_counts_81 : decode cX12_counts 81 = .ok (.iconst 1, 1) := by decide +kernel
theorem dX12_counts_82 : decode cX12_counts 82 = .ok (.isub, 1) := by decide +kernel
theorem dX12_counts_83 : decode cX12_counts 83 = .ok (.istore 5, 2) := by decide +kernel
theorem dX12_counts_85 : decode cX12_counts 85 = .ok (.iload 5, 2) := by decide +kernel
theorem dX12_counts_87 : decode cX12_counts 87 = .ok (.ifCond .lt 28, 3) := by decide +kernel
theorem dX12_counts_90 : decode cX12_counts 90 = .ok (.aload_n 0, 1) := by decide +kernel
theorem dX12_counts_91 : decode cX12_counts 91 = .ok (.iload 5, 2) := by decide +kernel
theorem dX12_counts_93 : decode cX12_counts 93 = .ok (.iload_n 2, 1) := by decide +kernel
theorem dX12_counts_94 : decode cX12_counts 94 = .ok (.iload 4, 2) := by decide +kernel
theorem dX12_counts_96 : decode cX12_counts 96 = .ok (.iload_n 1, 1) := by decide +kernel
theorem dX12_counts_97 : decode cX12_counts 97 = .ok (.invokevirtual 265, 3) := by decide +kernel
theorem wm_2026 : (Jvm.Cond.methodLink "GrownKindsModel" (265 : Nat) ({ cls := "GrownKindsModel", name := "countsPart", desc := "(IIII)V" } : Jvm.MethodName)) ∈ gT := gT_in (List.mem_of_getElem? (i := 2026) (by decide +kernel)) (by decide +kernel)
theorem wm_2028 : (Jvm.Cond.instanceMethod ({ cls := "GrownKindsModel", name := "countsPart", desc := "(IIII)V" } : Jvm.MethodName)) ∈ gT := gT_in (List.mem_of_getElem? (i := 2028) (by decide +kernel)) (by decide +kernel)
theorem wm_117 : Cond.selects "GrownKindsModel" ⟨"GrownKindsModel", "countsPart", "(IIII)V"⟩ ⟨"GrownKindsModel", "countsPart", "(IIII)V"⟩ ∈ gT := gT_in (List.mem_of_getElem? (i := 117) (by decide +kernel)) (by decide +kernel)
theorem wm_2029 : (Jvm.Cond.code ({ cls := "GrownKindsModel", name := "countsPart", desc := "(IIII)V" } : Jvm.MethodName) prog_14_method_55_code (10 : Nat) (Option.none : Option Jvm.ClassFile.FieldType)) ∈ gT := gT_in (List.mem_of_getElem? (i := 2029) (by decide +kernel)) (by decide +kernel)
theorem dX12_counts_100 : decode cX12_counts 100 = .ok (.aload_n 0, 1) := by decide +kernel
theorem dX12_counts_101 : decode cX12_counts 101 = .ok (.iload 5, 2) := by decide +kernel
theorem dX12_counts_103 : decode cX12_counts 103 = .ok (.iload_n 2, 1) := by decide +kernel
theorem dX12_counts_104 : decode cX12_counts 104 = .ok (.iload 4, 2) := by decide +kernel
theorem dX12_counts_106 : decode cX12_counts 106 = .ok (.invokevirtual 269, 3) := by decide +kernel
theorem wm_2073 : (Jvm.Cond.methodLink "GrownKindsModel" (269 : Nat) ({ cls := "GrownKindsModel", name := "countsRest", desc := "(III)V" } : Jvm.MethodName)) ∈ gT := gT_in (List.mem_of_getElem? (i := 2073) (by decide +kernel)) (by decide +kernel)
theorem wm_2075 : (Jvm.Cond.instanceMethod ({ cls := "GrownKindsModel", name := "countsRest", desc := "(III)V" } : Jvm.MethodName)) ∈ gT := gT_in (List.mem_of_getElem? (i := 2075) (by decide +kernel)) (by decide +kernel)
theorem wm_124 : Cond.selects "GrownKindsModel" ⟨"GrownKindsModel", "countsRest", "(III)V"⟩ ⟨"GrownKindsModel", "countsRest", "(III)V"⟩ ∈ gT := gT_in (List.mem_of_getElem? (i := 124) (by decide +kernel)) (by decide +kernel)
theorem wm_2076 : (Jvm.Cond.code ({ cls := "GrownKindsModel", name := "countsRest", desc := "(III)V" } : Jvm.MethodName) prog_14_method_54_code (10 : Nat) (Option.none : Option Jvm.ClassFile.FieldType)) ∈ gT := gT_in (List.mem_of_getElem? (i := 2076) (by decide +kernel)) (by decide +kernel)
theorem dX12_counts_109 : decode cX12_counts 109 = .ok (.iinc 5 (-1), 3) := by decide +kernel
theorem dX12_counts_112 : decode cX12_counts 112 = .ok (.goto (-27), 3) := by decide +kernel
theorem dX12_counts_115 : decode cX12_counts 115 = .ok (.iconst 0, 1) := by decide +kernel
theorem dX12_counts_116 : decode cX12_counts 116 = .ok (.istore 5, 2) := by decide +kernel
theorem dX12_counts_118 : decode cX12_counts 118 = .ok (.iload 5, 2) := by decide +kernel
theorem dX12_counts_120 : decode cX12_counts 120 = .ok (.aload_n 0, 1) := by decide +kernel
theorem dX12_counts_121 : decode cX12_counts 121 = .ok (.getfield 15, 3) := by decide +kernel
theorem dX12_counts_124 : decode cX12_counts 124 = .ok (.iconst 0, 1) := by decide +kernel
theorem dX12_counts_125 : decode cX12_counts 125 = .ok (.iaload, 1) := by decide +kernel
theorem dX12_counts_126 : decode cX12_counts 126 = .ok (.if_icmp .ge 86, 3) := by decide +kernel
theorem dX12_counts_129 : decode cX12_counts 129 = .ok (.iconst 0, 1) := by decide +kernel
theorem dX12_counts_130 : decode cX12_counts 130 = .ok (.istore 6, 2) := by decide +kernel
theorem dX12_counts_132 : decode cX12_counts 132 = .ok (.iload 6, 2) := by decide +kernel
theorem dX12_counts_134 : decode cX12_counts 134 = .ok (.iload 4, 2) := by decide +kernel
theorem dX12_counts_136 : decode cX12_counts 136 = .ok (.if_icmp .gt 70, 3) := by decide +kernel
theorem dX12_counts_139 : decode cX12_counts 139 = .ok (.aload_n 0, 1) := by decide +kernel
theorem dX12_counts_140 : decode cX12_counts 140 = .ok (.iload 5, 2) := by decide +kernel
theorem dX12_counts_142 : decode cX12_counts 142 = .ok (.iload_n 2, 1) := by decide +kernel
theorem dX12_counts_143 : decode cX12_counts 143 = .ok (.iload 6, 2) := by decide +kernel
theorem dX12_counts_145 : decode cX12_counts 145 = .ok (.invokevirtual 272, 3) := by decide +kernel
theorem dX12_counts_148 : decode cX12_counts 148 = .ok (.lstore 7, 2) := by decide +kernel
theorem dX12_counts_150 : decode cX12_counts 150 = .ok (.iload_n 3, 1) := by decide +kernel
theorem dX12_counts_151 : decode cX12_counts 151 = .ok (.ifCond .ne 25, 3) := by decide +kernel
theorem dX12_counts_176 : decode cX12_counts 176 = .ok (.iconst 1, 1) := by decide +kernel
theorem dX12_counts_177 : decode cX12_counts 177 = .ok (.goto 4, 3) := by decide +kernel
theorem dX12_counts_154 : decode cX12_counts 154 = .ok (.lload 7, 2) := by decide +kernel
theorem dX12_counts_156 : decode cX12_counts 156 = .ok (.aload_n 0, 1) := by decide +kernel
theorem dX12_counts_157 : decode cX12_counts 157 = .ok (.getfield 39, 3) := by decide +kernel
theorem dX12_counts_160 : decode cX12_counts 160 = .ok (.bipush 24, 2) := by decide +kernel
theorem dX12_counts_162 : decode cX12_counts 162 = .ok (.iload 5, 2) := by decide +kernel
theorem dX12_counts_164 : decode cX12_counts 164 = .ok (.iadd, 1) := by decide +kernel
theorem dX12_counts_165 : decode cX12_counts 165 = .ok (.iload_n 2, 1) := by decide +kernel
theorem dX12_counts_166 : decode cX12_counts 166 = .ok (.iload 6, 2) := by decide +kernel
theorem dX12_counts_168 : decode cX12_counts 168 = .ok (.invokestatic 276, 3) := by decide +kernel
theorem dX12_counts_171 : decode cX12_counts 171 = .ok (.laload, 1) := by decide +kernel
theorem dX12_counts_172 : decode cX12_counts 172 = .ok (.lcmp, 1) := by decide +kernel
theorem dX12_counts_173 : decode cX12_counts 173 = .ok (.ifCond .eq 7, 3) := by decide +kernel
theorem dX12_counts_180 : decode cX12_counts 180 = .ok (.iconst 0, 1) := by decide +kernel
theorem dX12_counts_181 : decode cX12_counts 181 = .ok (.istore_n 3, 1) := by decide +kernel
theorem dX12_counts_182 : decode cX12_counts 182 = .ok (.aload_n 0, 1) := by decide +kernel
theorem dX12_counts_183 : decode cX12_counts 183 = .ok (.getfield 39, 3) := by decide +kernel
theorem dX12_counts_186 : decode cX12_counts 186 = .ok (.bipush 24, 2) := by decide +kernel
theorem dX12_counts_188 : decode cX12_counts 188 = .ok (.iload 5, 2) := by decide +kernel
theorem dX12_counts_190 : decode cX12_counts 190 = .ok (.iadd, 1) := by decide +kernel
theorem dX12_counts_191 : decode cX12_counts 191 = .ok (.iload_n 2, 1) := by decide +kernel
theorem dX12_counts_192 : decode cX12_counts 192 = .ok (.iload 6, 2) := by decide +kernel
theorem dX12_counts_194 : decode cX12_counts 194 = .ok (.invokestatic 276, 3) := by decide +kernel
theorem dX12_counts_197 : decode cX12_counts 197 = .ok (.lload 7, 2) := by decide +kernel
theorem dX12_counts_199 : decode cX12_counts 199 = .ok (.lastore, 1) := by decide +kernel
theorem dX12_counts_200 : decode cX12_counts 200 = .ok (.iinc 6 1, 3) := by decide +kernel
theorem dX12_counts_203 : decode cX12_counts 203 = .ok (.goto (-71), 3) := by decide +kernel
theorem dX12_counts_206 : decode cX12_counts 206 = .ok (.iinc 5 1, 3) := by decide +kernel
theorem dX12_counts_209 : decode cX12_counts 209 = .ok (.goto (-91), 3) := by decide +kernel
theorem dX12_counts_212 : decode cX12_counts 212 = .ok (.goto (-154), 3) := by decide +kernel
theorem dX12_counts_215 : decode cX12_counts 215 = .ok (.iinc 2 1, 3) := by decide +kernel
theorem dX12_counts_218 : decode cX12_counts 218 = .ok (.goto (-168), 3) := by decide +kernel
theorem dX12_counts_221 : decode cX12_counts 221 = .ok (.return_, 1) := by decide +kernel
theorem dX12_blank_0 : decode cX12_blank 0 = .ok (.aload_n 0, 1) := by decide +kernel
theorem dX12_blank_1 : decode cX12_blank 1 = .ok (.getfield 15, 3) := by decide +kernel
theorem dX12_blank_4 : decode cX12_blank 4 = .ok (.iconst 3, 1) := by decide +kernel
theorem dX12_blank_5 : decode cX12_blank 5 = .ok (.iaload, 1) := by decide +kernel
theorem dX12_blank_6 : decode cX12_blank 6 = .ok (.ifCond .ne 6, 3) := by decide +kernel
theorem dX12_blank_12 : decode cX12_blank 12 = .ok (.aload_n 0, 1) := by decide +kernel
theorem dX12_blank_13 : decode cX12_blank 13 = .ok (.iconst (-1), 1) := by decide +kernel
theorem dX12_blank_14 : decode cX12_blank 14 = .ok (.invokevirtual 324, 3) := by decide +kernel
theorem wm_2022 : (Jvm.Cond.methodLink "GrownKindsModel" (324 : Nat) ({ cls := "GrownKindsModel", name := "counts", desc := "(I)V" } : Jvm.MethodName)) ∈ gT := gT_in (List.mem_of_getElem? (i := 2022) (by decide +kernel)) (by decide +kernel)
theorem wm_2024 : (Jvm.Cond.instanceMethod ({ cls := "GrownKindsModel", name := "counts", desc := "(I)V" } : Jvm.MethodName)) ∈ gT := gT_in (List.mem_of_getElem? (i := 2024) (by decide +kernel)) (by decide +kernel)
theorem wm_116 : Cond.selects "GrownKindsModel" ⟨"GrownKindsModel", "counts", "(I)V"⟩ ⟨"GrownKindsModel", "counts", "(I)V"⟩ ∈ gT := gT_in (List.mem_of_getElem? (i := 116) (by decide +kernel)) (by decide +kernel)
theorem wm_2025 : (Jvm.Cond.code ({ cls := "GrownKindsModel", name := "counts", desc := "(I)V" } : Jvm.MethodName) prog_14_method_52_code (9 : Nat) (Option.none : Option Jvm.ClassFile.FieldType)) ∈ gT := gT_in (List.mem_of_getElem? (i := 2025) (by decide +kernel)) (by decide +kernel)
theorem dX12_blank_17 : decode cX12_blank 17 = .ok (.iconst 0, 1) := by decide +kernel
theorem dX12_blank_18 : decode cX12_blank 18 = .ok (.istore_n 1, 1) := by decide +kernel
theorem dX12_blank_19 : decode cX12_blank 19 = .ok (.iconst 0, 1) := by decide +kernel
theorem dX12_blank_20 : decode cX12_blank 20 = .ok (.istore_n 2, 1) := by decide +kernel
theorem dX12_blank_21 : decode cX12_blank 21 = .ok (.iload_n 2, 1) := by decide +kernel
theorem dX12_blank_22 : decode cX12_blank 22 = .ok (.aload_n 0, 1) := by decide +kernel
theorem dX12_blank_23 : decode cX12_blank 23 = .ok (.getfield 15, 3) := by decide +kernel
theorem dX12_blank_26 : decode cX12_blank 26 = .ok (.iconst 0, 1) := by decide +kernel
theorem dX12_blank_27 : decode cX12_blank 27 = .ok (.iaload, 1) := by decide +kernel
theorem dX12_blank_28 : decode cX12_blank 28 = .ok (.if_icmp .ge 36, 3) := by decide +kernel
theorem dX12_blank_31 : decode cX12_blank 31 = .ok (.iload_n 1, 1) := by decide +kernel
theorem dX12_blank_32 : decode cX12_blank 32 = .ok (.aload_n 0, 1) := by decide +kernel
theorem dX12_blank_33 : decode cX12_blank 33 = .ok (.iload_n 2, 1) := by decide +kernel
theorem dX12_blank_34 : decode cX12_blank 34 = .ok (.iconst 0, 1) := by decide +kernel
theorem dX12_blank_35 : decode cX12_blank 35 = .ok (.aload_n 0, 1) := by decide +kernel
theorem dX12_blank_36 : decode cX12_blank 36 = .ok (.getfield 15, 3) := by decide +kernel
theorem dX12_blank_39 : decode cX12_blank 39 = .ok (.iconst 1, 1) := by decide +kernel
theorem dX12_blank_40 : decode cX12_blank 40 = .ok (.iaload, 1) := by decide +kernel
theorem dX12_blank_41 : decode cX12_blank 41 = .ok (.invokevirtual 327, 3) := by decide +kernel
theorem wm_2077 : (Jvm.Cond.methodLink "GrownKindsModel" (327 : Nat) ({ cls := "GrownKindsModel", name := "upTo", desc := "(III)J" } : Jvm.MethodName)) ∈ gT := gT_in (List.mem_of_getElem? (i := 2077) (by decide +kernel)) (by decide +kernel)
theorem wm_2079 : (Jvm.Cond.instanceMethod ({ cls := "GrownKindsModel", name := "upTo", desc := "(III)J" } : Jvm.MethodName)) ∈ gT := gT_in (List.mem_of_getElem? (i := 2079) (by decide +kernel)) (by decide +kernel)
theorem wm_125 : Cond.selects "GrownKindsModel" ⟨"GrownKindsModel", "upTo", "(III)J"⟩ ⟨"GrownKindsModel", "upTo", "(III)J"⟩ ∈ gT := gT_in (List.mem_of_getElem? (i := 125) (by decide +kernel)) (by decide +kernel)
theorem wm_2080 : (Jvm.Cond.code ({ cls := "GrownKindsModel", name := "upTo", desc := "(III)J" } : Jvm.MethodName) prog_14_method_64_code (7 : Nat) (Option.some Jvm.ClassFile.FieldType.long)) ∈ gT := gT_in (List.mem_of_getElem? (i := 2080) (by decide +kernel)) (by decide +kernel)
theorem dX12_blank_44 : decode cX12_blank 44 = .ok (.lconst 0, 1) := by decide +kernel
theorem dX12_blank_45 : decode cX12_blank 45 = .ok (.lcmp, 1) := by decide +kernel
theorem dX12_blank_46 : decode cX12_blank 46 = .ok (.ifCond .ne 9, 3) := by decide +kernel
theorem dX12_blank_55 : decode cX12_blank 55 = .ok (.iconst 0, 1) := by decide +kernel
theorem dX12_blank_56 : decode cX12_blank 56 = .ok (.ior, 1) := by decide +kernel
theorem dX12_blank_57 : decode cX12_blank 57 = .ok (.istore_n 1, 1) := by decide +kernel
theorem dX12_blank_58 : decode cX12_blank 58 = .ok (.iinc 2 1, 3) := by decide +kernel
theorem dX12_blank_61 : decode cX12_blank 61 = .ok (.goto (-40), 3) := by decide +kernel
theorem dX12_blank_49 : decode cX12_blank 49 = .ok (.iconst 1, 1) := by decide +kernel
theorem dX12_blank_50 : decode cX12_blank 50 = .ok (.iload_n 2, 1) := by decide +kernel
theorem dX12_blank_51 : decode cX12_blank 51 = .ok (.ishl, 1) := by decide +kernel
theorem dX12_blank_52 : decode cX12_blank 52 = .ok (.goto 4, 3) := by decide +kernel
theorem dX12_blank_64 : decode cX12_blank 64 = .ok (.iload_n 1, 1) := by decide +kernel
theorem dX12_blank_65 : decode cX12_blank 65 = .ok (.ireturn, 1) := by decide +kernel
theorem dX12_blank_9 : decode cX12_blank 9 = .ok (.bipush (-2), 2) := by decide +kernel
theorem dX12_blank_11 : decode cX12_blank 11 = .ok (.ireturn, 1) := by decide +kernel
theorem dX12_things_0 : decode cX12_things 0 = .ok (.aload_n 0, 1) := by decide +kernel
theorem dX12_things_1 : decode cX12_things 1 = .ok (.iload_n 1, 1) := by decide +kernel
theorem dX12_things_2 : decode cX12_things 2 = .ok (.invokevirtual 225, 3) := by decide +kernel
theorem dX12_things_5 : decode cX12_things 5 = .ok (.ifCond .eq 11, 3) := by decide +kernel
theorem dX12_things_16 : decode cX12_things 16 = .ok (.ldc2_w 337, 3) := by decide +kernel
theorem wm_2101 : (Jvm.Cond.constantLong "GrownKindsModel" (337 : Nat) (-2 : Int64)) ∈ gT := gT_in (List.mem_of_getElem? (i := 2101) (by decide +kernel)) (by decide +kernel)
theorem dX12_things_19 : decode cX12_things 19 = .ok (.lreturn, 1) := by decide +kernel
theorem dX12_things_8 : decode cX12_things 8 = .ok (.aload_n 0, 1) := by decide +kernel
theorem dX12_things_9 : decode cX12_things 9 = .ok (.iload_n 2, 1) := by decide +kernel
theorem dX12_things_10 : decode cX12_things 10 = .ok (.invokevirtual 334, 3) := by decide +kernel
theorem dX12_things_13 : decode cX12_things 13 = .ok (.ifCond .ne 7, 3) := by decide +kernel
theorem dX12_things_20 : decode cX12_things 20 = .ok (.aload_n 0, 1) := by decide +kernel
theorem dX12_things_21 : decode cX12_things 21 = .ok (.iconst (-1), 1) := by decide +kernel
theorem dX12_things_22 : decode cX12_things 22 = .ok (.invokevirtual 324, 3) := by decide +kernel
theorem dX12_things_25 : decode cX12_things 25 = .ok (.aload_n 0, 1) := by decide +kernel
theorem dX12_things_26 : decode cX12_things 26 = .ok (.iload_n 1, 1) := by decide +kernel
theorem dX12_things_27 : decode cX12_things 27 = .ok (.iload_n 2, 1) := by decide +kernel
theorem dX12_things_28 : decode cX12_things 28 = .ok (.invokevirtual 320, 3) := by decide +kernel
theorem dX12_things_31 : decode cX12_things 31 = .ok (.lreturn, 1) := by decide +kernel
theorem dX12_upto_0 : decode cX12_upto 0 = .ok (.aload_n 0, 1) := by decide +kernel
theorem dX12_upto_1 : decode cX12_upto 1 = .ok (.iload_n 1, 1) := by decide +kernel
theorem dX12_upto_2 : decode cX12_upto 2 = .ok (.invokevirtual 225, 3) := by decide +kernel
theorem dX12_upto_5 : decode cX12_upto 5 = .ok (.ifCond .eq 11, 3) := by decide +kernel
theorem dX12_upto_16 : decode cX12_upto 16 = .ok (.ldc2_w 337, 3) := by decide +kernel
theorem dX12_upto_19 : decode cX12_upto 19 = .ok (.lreturn, 1) := by decide +kernel
theorem dX12_upto_8 : decode cX12_upto 8 = .ok (.aload_n 0, 1) := by decide +kernel
theorem dX12_upto_9 : decode cX12_upto 9 = .ok (.iload_n 2, 1) := by decide +kernel
theorem dX12_upto_10 : decode cX12_upto 10 = .ok (.invokevirtual 334, 3) := by decide +kernel
theorem dX12_upto_13 : decode cX12_upto 13 = .ok (.ifCond .ne 7, 3) := by decide +kernel
theorem dX12_upto_20 : decode cX12_upto 20 = .ok (.aload_n 0, 1) := by decide +kernel
theorem dX12_upto_21 : decode cX12_upto 21 = .ok (.iconst (-1), 1) := by decide +kernel
theorem dX12_upto_22 : decode cX12_upto 22 = .ok (.invokevirtual 324, 3) := by decide +kernel
theorem dX12_upto_25 : decode cX12_upto 25 = .ok (.aload_n 0, 1) := by decide +kernel
theorem dX12_upto_26 : decode cX12_upto 26 = .ok (.iload_n 1, 1) := by decide +kernel
theorem dX12_upto_27 : decode cX12_upto 27 = .ok (.iconst 0, 1) := by decide +kernel
theorem dX12_upto_28 : decode cX12_upto 28 = .ok (.iload_n 2, 1) := by decide +kernel
theorem dX12_upto_29 : decode cX12_upto 29 = .ok (.invokevirtual 327, 3) := by decide +kernel
theorem dX12_upto_32 : decode cX12_upto 32 = .ok (.lreturn, 1) := by decide +kernel
theorem dX12_first_0 : decode cX12_first 0 = .ok (.aload_n 0, 1) := by decide +kernel
theorem dX12_first_1 : decode cX12_first 1 = .ok (.iload_n 1, 1) := by decide +kernel
theorem dX12_first_2 : decode cX12_first 2 = .ok (.invokevirtual 225, 3) := by decide +kernel
theorem dX12_first_5 : decode cX12_first 5 = .ok (.ifCond .eq 14, 3) := by decide +kernel
theorem dX12_first_19 : decode cX12_first 19 = .ok (.bipush (-2), 2) := by decide +kernel
theorem dX12_first_21 : decode cX12_first 21 = .ok (.ireturn, 1) := by decide +kernel
theorem dX12_first_8 : decode cX12_first 8 = .ok (.lload_n 2, 1) := by decide +kernel
theorem dX12_first_9 : decode cX12_first 9 = .ok (.lconst 1, 1) := by decide +kernel
theorem dX12_first_10 : decode cX12_first 10 = .ok (.ldc2_w 280, 3) := by decide +kernel
theorem dX12_first_13 : decode cX12_first 13 = .ok (.invokestatic 97, 3) := by decide +kernel
theorem dX12_first_16 : decode cX12_first 16 = .ok (.ifCond .ne 6, 3) := by decide +kernel
theorem dX12_first_22 : decode cX12_first 22 = .ok (.aload_n 0, 1) := by decide +kernel
theorem dX12_first_23 : decode cX12_first 23 = .ok (.iconst (-1), 1) := by decide +kernel
theorem dX12_first_24 : decode cX12_first 24 = .ok (.invokevirtual 324, 3) := by decide +kernel
theorem dX12_first_27 : decode cX12_first 27 = .ok (.iconst 0, 1) := by decide +kernel
theorem dX12_first_28 : decode cX12_first 28 = .ok (.istore 4, 2) := by decide +kernel
theorem dX12_first_30 : decode cX12_first 30 = .ok (.iload 4, 2) := by decide +kernel
theorem dX12_first_32 : decode cX12_first 32 = .ok (.aload_n 0, 1) := by decide +kernel
theorem dX12_first_33 : decode cX12_first 33 = .ok (.getfield 15, 3) := by decide +kernel
theorem dX12_first_36 : decode cX12_first 36 = .ok (.iconst 1, 1) := by decide +kernel
theorem dX12_first_37 : decode cX12_first 37 = .ok (.iaload, 1) := by decide +kernel
theorem dX12_first_38 : decode cX12_first 38 = .ok (.if_icmp .gt 24, 3) := by decide +kernel
theorem dX12_first_41 : decode cX12_first 41 = .ok (.aload_n 0, 1) := by decide +kernel
theorem dX12_first_42 : decode cX12_first 42 = .ok (.iload_n 1, 1) := by decide +kernel
theorem dX12_first_43 : decode cX12_first 43 = .ok (.iload 4, 2) := by decide +kernel
theorem dX12_first_45 : decode cX12_first 45 = .ok (.invokevirtual 320, 3) := by decide +kernel
theorem dX12_first_48 : decode cX12_first 48 = .ok (.lload_n 2, 1) := by decide +kernel
theorem dX12_first_49 : decode cX12_first 49 = .ok (.lcmp, 1) := by decide +kernel
theorem dX12_first_50 : decode cX12_first 50 = .ok (.ifCond .lt 6, 3) := by decide +kernel
theorem dX12_first_56 : decode cX12_first 56 = .ok (.iinc 4 1, 3) := by decide +kernel
theorem dX12_first_59 : decode cX12_first 59 = .ok (.goto (-29), 3) := by decide +kernel
theorem dX12_first_53 : decode cX12_first 53 = .ok (.iload 4, 2) := by decide +kernel
theorem dX12_first_55 : decode cX12_first 55 = .ok (.ireturn, 1) := by decide +kernel
theorem dX12_first_62 : decode cX12_first 62 = .ok (.iconst (-1), 1) := by decide +kernel
theorem dX12_first_63 : decode cX12_first 63 = .ok (.ireturn, 1) := by decide +kernel
theorem dX12_least_0 : decode cX12_least 0 = .ok (.aload_n 0, 1) := by decide +kernel
theorem dX12_least_1 : decode cX12_least 1 = .ok (.iload_n 1, 1) := by decide +kernel
theorem dX12_least_2 : decode cX12_least 2 = .ok (.lconst 1, 1) := by decide +kernel
theorem dX12_least_3 : decode cX12_least 3 = .ok (.invokevirtual 330, 3) := by decide +kernel
theorem wm_2089 : (Jvm.Cond.methodLink "GrownKindsModel" (330 : Nat) ({ cls := "GrownKindsModel", name := "first", desc := "(IJ)I" } : Jvm.MethodName)) ∈ gT := gT_in (List.mem_of_getElem? (i := 2089) (by decide +kernel)) (by decide +kernel)
theorem wm_2090 : (Jvm.Cond.instanceMethod ({ cls := "GrownKindsModel", name := "first", desc := "(IJ)I" } : Jvm.MethodName)) ∈ gT := gT_in (List.mem_of_getElem? (i := 2090) (by decide +kernel)) (by decide +kernel)
theorem wm_2091 : (Jvm.Cond.selects "GrownKindsModel" ({ cls := "GrownKindsModel", name := "first", desc := "(IJ)I" } : Jvm.MethodName) ({ cls := "GrownKindsModel", name := "first", desc := "(IJ)I" } : Jvm.MethodName)) ∈ gT := gT_in (List.mem_of_getElem? (i := 2091) (by decide +kernel)) (by decide +kernel)
theorem wm_2092 : (Jvm.Cond.code ({ cls := "GrownKindsModel", name := "first", desc := "(IJ)I" } : Jvm.MethodName) prog_14_method_69_code (5 : Nat) (Option.some Jvm.ClassFile.FieldType.int)) ∈ gT := gT_in (List.mem_of_getElem? (i := 2092) (by decide +kernel)) (by decide +kernel)
theorem dX12_least_6 : decode cX12_least 6 = .ok (.ireturn, 1) := by decide +kernel
theorem dX12_marked_0 : decode cX12_marked 0 = .ok (.aload_n 0, 1) := by decide +kernel
theorem dX12_marked_1 : decode cX12_marked 1 = .ok (.iload_n 1, 1) := by decide +kernel
theorem dX12_marked_2 : decode cX12_marked 2 = .ok (.invokevirtual 225, 3) := by decide +kernel
theorem dX12_marked_5 : decode cX12_marked 5 = .ok (.ifCond .eq 36, 3) := by decide +kernel
theorem dX12_marked_41 : decode cX12_marked 41 = .ok (.ldc2_w 337, 3) := by decide +kernel
theorem dX12_marked_44 : decode cX12_marked 44 = .ok (.lreturn, 1) := by decide +kernel
theorem dX12_marked_8 : decode cX12_marked 8 = .ok (.aload_n 0, 1) := by decide +kernel
theorem dX12_marked_9 : decode cX12_marked 9 = .ok (.iload_n 2, 1) := by decide +kernel
theorem dX12_marked_10 : decode cX12_marked 10 = .ok (.invokevirtual 334, 3) := by decide +kernel
theorem dX12_marked_13 : decode cX12_marked 13 = .ok (.ifCond .eq 28, 3) := by decide +kernel
theorem dX12_marked_16 : decode cX12_marked 16 = .ok (.iload_n 3, 1) := by decide +kernel
theorem dX12_marked_17 : decode cX12_marked 17 = .ok (.i2l, 1) := by decide +kernel
theorem dX12_marked_18 : decode cX12_marked 18 = .ok (.lconst 0, 1) := by decide +kernel
theorem dX12_marked_19 : decode cX12_marked 19 = .ok (.ldc2_w 339, 3) := by decide +kernel
theorem wm_2111 : (Jvm.Cond.constantLong "GrownKindsModel" (339 : Nat) (25 : Int64)) ∈ gT := gT_in (List.mem_of_getElem? (i := 2111) (by decide +kernel)) (by decide +kernel)
theorem dX12_marked_22 : decode cX12_marked 22 = .ok (.invokestatic 97, 3) := by decide +kernel
theorem dX12_marked_25 : decode cX12_marked 25 = .ok (.ifCond .eq 16, 3) := by decide +kernel
theorem dX12_marked_28 : decode cX12_marked 28 = .ok (.iload 4, 2) := by decide +kernel
theorem dX12_marked_30 : decode cX12_marked 30 = .ok (.i2l, 1) := by decide +kernel
theorem dX12_marked_31 : decode cX12_marked 31 = .ok (.lconst 0, 1) := by decide +kernel
theorem dX12_marked_32 : decode cX12_marked 32 = .ok (.ldc2_w 211, 3) := by decide +kernel
theorem wm_1928 : (Jvm.Cond.constantLong "GrownKindsModel" (211 : Nat) (7 : Int64)) ∈ gT := gT_in (List.mem_of_getElem? (i := 1928) (by decide +kernel)) (by decide +kernel)
theorem dX12_marked_35 : decode cX12_marked 35 = .ok (.invokestatic 97, 3) := by decide +kernel
theorem dX12_marked_38 : decode cX12_marked 38 = .ok (.ifCond .ne 7, 3) := by decide +kernel
theorem dX12_marked_45 : decode cX12_marked 45 = .ok (.aload_n 0, 1) := by decide +kernel
theorem dX12_marked_46 : decode cX12_marked 46 = .ok (.iload_n 3, 1) := by decide +kernel
theorem dX12_marked_47 : decode cX12_marked 47 = .ok (.invokevirtual 324, 3) := by decide +kernel
theorem dX12_marked_50 : decode cX12_marked 50 = .ok (.aload_n 0, 1) := by decide +kernel
theorem dX12_marked_51 : decode cX12_marked 51 = .ok (.getfield 39, 3) := by decide +kernel
theorem dX12_marked_54 : decode cX12_marked 54 = .ok (.bipush 24, 2) := by decide +kernel
theorem dX12_marked_56 : decode cX12_marked 56 = .ok (.iload_n 1, 1) := by decide +kernel
theorem dX12_marked_57 : decode cX12_marked 57 = .ok (.iadd, 1) := by decide +kernel
theorem dX12_marked_58 : decode cX12_marked 58 = .ok (.iload_n 2, 1) := by decide +kernel
theorem dX12_marked_59 : decode cX12_marked 59 = .ok (.iload 4, 2) := by decide +kernel
theorem dX12_marked_61 : decode cX12_marked 61 = .ok (.invokestatic 276, 3) := by decide +kernel
theorem dX12_marked_64 : decode cX12_marked 64 = .ok (.laload, 1) := by decide +kernel
theorem dX12_marked_65 : decode cX12_marked 65 = .ok (.lreturn, 1) := by decide +kernel
theorem dX12_termAt_0 : decode cX12_termAt 0 = .ok (.aload_n 0, 1) := by decide +kernel
theorem dX12_termAt_1 : decode cX12_termAt 1 = .ok (.getfield 15, 3) := by decide +kernel
theorem dX12_termAt_4 : decode cX12_termAt 4 = .ok (.sipush 168, 3) := by decide +kernel
theorem dX12_termAt_7 : decode cX12_termAt 7 = .ok (.iload_n 1, 1) := by decide +kernel
theorem dX12_termAt_8 : decode cX12_termAt 8 = .ok (.iadd, 1) := by decide +kernel
theorem dX12_termAt_9 : decode cX12_termAt 9 = .ok (.iaload, 1) := by decide +kernel
theorem dX12_termAt_10 : decode cX12_termAt 10 = .ok (.istore_n 3, 1) := by decide +kernel
theorem dX12_termAt_11 : decode cX12_termAt 11 = .ok (.iconst 0, 1) := by decide +kernel
theorem dX12_termAt_12 : decode cX12_termAt 12 = .ok (.istore 4, 2) := by decide +kernel
theorem dX12_termAt_14 : decode cX12_termAt 14 = .ok (.iload 4, 2) := by decide +kernel
theorem dX12_termAt_16 : decode cX12_termAt 16 = .ok (.iload_n 2, 1) := by decide +kernel
theorem dX12_termAt_17 : decode cX12_termAt 17 = .ok (.if_icmp .ge 20, 3) := by decide +kernel
theorem dX12_termAt_20 : decode cX12_termAt 20 = .ok (.aload_n 0, 1) := by decide +kernel
theorem dX12_termAt_21 : decode cX12_termAt 21 = .ok (.getfield 15, 3) := by decide +kernel
theorem dX12_termAt_24 : decode cX12_termAt 24 = .ok (.sipush 144, 3) := by decide +kernel
theorem dX12_termAt_27 : decode cX12_termAt 27 = .ok (.iload_n 3, 1) := by decide +kernel
theorem dX12_termAt_28 : decode cX12_termAt 28 = .ok (.iadd, 1) := by decide +kernel
theorem dX12_termAt_29 : decode cX12_termAt 29 = .ok (.iaload, 1) := by decide +kernel
theorem dX12_termAt_30 : decode cX12_termAt 30 = .ok (.istore_n 3, 1) := by decide +kernel
theorem dX12_termAt_31 : decode cX12_termAt 31 = .ok (.iinc 4 1, 3) := by decide +kernel
theorem dX12_termAt_34 : decode cX12_termAt 34 = .ok (.goto (-20), 3) := by decide +kernel
theorem dX12_termAt_37 : decode cX12_termAt 37 = .ok (.iload_n 3, 1) := by decide +kernel
theorem dX12_termAt_38 : decode cX12_termAt 38 = .ok (.ireturn, 1) := by decide +kernel
theorem dX12_byTerm_0 : decode cX12_byTerm 0 = .ok (.aload_n 0, 1) := by decide +kernel
theorem dX12_byTerm_1 : decode cX12_byTerm 1 = .ok (.iload_n 1, 1) := by decide +kernel
theorem dX12_byTerm_2 : decode cX12_byTerm 2 = .ok (.iload_n 3, 1) := by decide +kernel
theorem dX12_byTerm_3 : decode cX12_byTerm 3 = .ok (.invokevirtual 231, 3) := by decide +kernel
theorem dX12_byTerm_6 : decode cX12_byTerm 6 = .ok (.ifCond .eq 7, 3) := by decide +kernel
theorem dX12_byTerm_13 : decode cX12_byTerm 13 = .ok (.aload_n 0, 1) := by decide +kernel
theorem dX12_byTerm_14 : decode cX12_byTerm 14 = .ok (.getfield 43, 3) := by decide +kernel
theorem dX12_byTerm_17 : decode cX12_byTerm 17 = .ok (.aload_n 0, 1) := by decide +kernel
theorem dX12_byTerm_18 : decode cX12_byTerm 18 = .ok (.getfield 15, 3) := by decide +kernel
theorem dX12_byTerm_21 : decode cX12_byTerm 21 = .ok (.bipush 120, 2) := by decide +kernel
theorem dX12_byTerm_23 : decode cX12_byTerm 23 = .ok (.aload_n 0, 1) := by decide +kernel
theorem dX12_byTerm_24 : decode cX12_byTerm 24 = .ok (.iload_n 1, 1) := by decide +kernel
theorem dX12_byTerm_25 : decode cX12_byTerm 25 = .ok (.iload_n 3, 1) := by decide +kernel
theorem dX12_byTerm_26 : decode cX12_byTerm 26 = .ok (.invokevirtual 341, 3) := by decide +kernel
theorem wm_2124 : (Jvm.Cond.methodLink "GrownKindsModel" (341 : Nat) ({ cls := "GrownKindsModel", name := "termAt", desc := "(II)I" } : Jvm.MethodName)) ∈ gT := gT_in (List.mem_of_getElem? (i := 2124) (by decide +kernel)) (by decide +kernel)
theorem wm_2126 : (Jvm.Cond.instanceMethod ({ cls := "GrownKindsModel", name := "termAt", desc := "(II)I" } : Jvm.MethodName)) ∈ gT := gT_in (List.mem_of_getElem? (i := 2126) (by decide +kernel)) (by decide +kernel)
theorem wm_130 : Cond.selects "GrownKindsModel" ⟨"GrownKindsModel", "termAt", "(II)I"⟩ ⟨"GrownKindsModel", "termAt", "(II)I"⟩ ∈ gT := gT_in (List.mem_of_getElem? (i := 130) (by decide +kernel)) (by decide +kernel)
theorem wm_2127 : (Jvm.Cond.code ({ cls := "GrownKindsModel", name := "termAt", desc := "(II)I" } : Jvm.MethodName) prog_14_method_71_code (5 : Nat) (Option.some Jvm.ClassFile.FieldType.int)) ∈ gT := gT_in (List.mem_of_getElem? (i := 2127) (by decide +kernel)) (by decide +kernel)
theorem dX12_byTerm_29 : decode cX12_byTerm 29 = .ok (.iadd, 1) := by decide +kernel
theorem dX12_byTerm_30 : decode cX12_byTerm 30 = .ok (.iaload, 1) := by decide +kernel
theorem dX12_byTerm_31 : decode cX12_byTerm 31 = .ok (.iload_n 2, 1) := by decide +kernel
theorem dX12_byTerm_32 : decode cX12_byTerm 32 = .ok (.iconst 0, 1) := by decide +kernel
theorem dX12_byTerm_33 : decode cX12_byTerm 33 = .ok (.invokestatic 276, 3) := by decide +kernel
theorem dX12_byTerm_36 : decode cX12_byTerm 36 = .ok (.laload, 1) := by decide +kernel
theorem dX12_byTerm_37 : decode cX12_byTerm 37 = .ok (.lreturn, 1) := by decide +kernel
theorem dX12_byTerm_9 : decode cX12_byTerm 9 = .ok (.lconst 0, 1) := by decide +kernel
theorem dX12_byTerm_10 : decode cX12_byTerm 10 = .ok (.goto 27, 3) := by decide +kernel
theorem dX12_by_0 : decode cX12_by 0 = .ok (.aload_n 0, 1) := by decide +kernel
theorem dX12_by_1 : decode cX12_by 1 = .ok (.iload_n 1, 1) := by decide +kernel
theorem dX12_by_2 : decode cX12_by 2 = .ok (.iload_n 3, 1) := by decide +kernel
theorem dX12_by_3 : decode cX12_by 3 = .ok (.invokevirtual 344, 3) := by decide +kernel
theorem wm_2116 : (Jvm.Cond.methodLink "GrownKindsModel" (344 : Nat) ({ cls := "GrownKindsModel", name := "isTerm", desc := "(II)Z" } : Jvm.MethodName)) ∈ gT := gT_in (List.mem_of_getElem? (i := 2116) (by decide +kernel)) (by decide +kernel)
theorem wm_2118 : (Jvm.Cond.instanceMethod ({ cls := "GrownKindsModel", name := "isTerm", desc := "(II)Z" } : Jvm.MethodName)) ∈ gT := gT_in (List.mem_of_getElem? (i := 2118) (by decide +kernel)) (by decide +kernel)
theorem wm_128 : Cond.selects "GrownKindsModel" ⟨"GrownKindsModel", "isTerm", "(II)Z"⟩ ⟨"GrownKindsModel", "isTerm", "(II)Z"⟩ ∈ gT := gT_in (List.mem_of_getElem? (i := 128) (by decide +kernel)) (by decide +kernel)
theorem wm_2119 : (Jvm.Cond.code ({ cls := "GrownKindsModel", name := "isTerm", desc := "(II)Z" } : Jvm.MethodName) prog_14_method_32_code (3 : Nat) (Option.some Jvm.ClassFile.FieldType.boolean)) ∈ gT := gT_in (List.mem_of_getElem? (i := 2119) (by decide +kernel)) (by decide +kernel)
theorem dX12_by_6 : decode cX12_by 6 = .ok (.ifCond .eq 11, 3) := by decide +kernel
theorem dX12_by_17 : decode cX12_by 17 = .ok (.ldc2_w 337, 3) := by decide +kernel
theorem dX12_by_20 : decode cX12_by 20 = .ok (.lreturn, 1) := by decide +kernel
theorem dX12_by_9 : decode cX12_by 9 = .ok (.aload_n 0, 1) := by decide +kernel
theorem dX12_by_10 : decode cX12_by 10 = .ok (.iload_n 2, 1) := by decide +kernel
theorem dX12_by_11 : decode cX12_by 11 = .ok (.invokevirtual 334, 3) := by decide +kernel
theorem dX12_by_14 : decode cX12_by 14 = .ok (.ifCond .ne 7, 3) := by decide +kernel
theorem dX12_by_21 : decode cX12_by 21 = .ok (.aload_n 0, 1) := by decide +kernel
theorem dX12_by_22 : decode cX12_by 22 = .ok (.iconst (-1), 1) := by decide +kernel
theorem dX12_by_23 : decode cX12_by 23 = .ok (.invokevirtual 324, 3) := by decide +kernel
theorem dX12_by_26 : decode cX12_by 26 = .ok (.aload_n 0, 1) := by decide +kernel
theorem dX12_by_27 : decode cX12_by 27 = .ok (.iload_n 1, 1) := by decide +kernel
theorem dX12_by_28 : decode cX12_by 28 = .ok (.iload_n 2, 1) := by decide +kernel
theorem dX12_by_29 : decode cX12_by 29 = .ok (.iload_n 3, 1) := by decide +kernel
theorem dX12_by_30 : decode cX12_by 30 = .ok (.invokevirtual 347, 3) := by decide +kernel
theorem wm_2120 : (Jvm.Cond.methodLink "GrownKindsModel" (347 : Nat) ({ cls := "GrownKindsModel", name := "byTerm", desc := "(III)J" } : Jvm.MethodName)) ∈ gT := gT_in (List.mem_of_getElem? (i := 2120) (by decide +kernel)) (by decide +kernel)
theorem wm_2122 : (Jvm.Cond.instanceMethod ({ cls := "GrownKindsModel", name := "byTerm", desc := "(III)J" } : Jvm.MethodName)) ∈ gT := gT_in (List.mem_of_getElem? (i := 2122) (by decide +kernel)) (by decide +kernel)
theorem wm_129 : Cond.selects "GrownKindsModel" ⟨"GrownKindsModel", "byTerm", "(III)J"⟩ ⟨"GrownKindsModel", "byTerm", "(III)J"⟩ ∈ gT := gT_in (List.mem_of_getElem? (i := 129) (by decide +kernel)) (by decide +kernel)
theorem wm_2123 : (Jvm.Cond.code ({ cls := "GrownKindsModel", name := "byTerm", desc := "(III)J" } : Jvm.MethodName) prog_14_method_72_code (4 : Nat) (Option.some Jvm.ClassFile.FieldType.long)) ∈ gT := gT_in (List.mem_of_getElem? (i := 2123) (by decide +kernel)) (by decide +kernel)
theorem dX12_by_33 : decode cX12_by 33 = .ok (.lreturn, 1) := by decide +kernel
theorem dX12_manyWithout_0 : decode cX12_manyWithout 0 = .ok (.aload_n 0, 1) := by decide +kernel
theorem dX12_manyWithout_1 : decode cX12_manyWithout 1 = .ok (.getfield 15, 3) := by decide +kernel
theorem dX12_manyWithout_4 : decode cX12_manyWithout 4 = .ok (.bipush 6, 2) := by decide +kernel
theorem dX12_manyWithout_6 : decode cX12_manyWithout 6 = .ok (.iload_n 1, 1) := by decide +kernel
theorem dX12_manyWithout_7 : decode cX12_manyWithout 7 = .ok (.iadd, 1) := by decide +kernel
theorem dX12_manyWithout_8 : decode cX12_manyWithout 8 = .ok (.iaload, 1) := by decide +kernel
theorem dX12_manyWithout_9 : decode cX12_manyWithout 9 = .ok (.istore 5, 2) := by decide +kernel
theorem dX12_manyWithout_11 : decode cX12_manyWithout 11 = .ok (.aload_n 0, 1) := by decide +kernel
theorem dX12_manyWithout_12 : decode cX12_manyWithout 12 = .ok (.getfield 15, 3) := by decide +kernel
theorem dX12_manyWithout_15 : decode cX12_manyWithout 15 = .ok (.bipush 6, 2) := by decide +kernel
theorem dX12_manyWithout_17 : decode cX12_manyWithout 17 = .ok (.iload_n 1, 1) := by decide +kernel
theorem dX12_manyWithout_18 : decode cX12_manyWithout 18 = .ok (.iadd, 1) := by decide +kernel
theorem dX12_manyWithout_19 : decode cX12_manyWithout 19 = .ok (.iload 5, 2) := by decide +kernel
theorem dX12_manyWithout_21 : decode cX12_manyWithout 21 = .ok (.iconst 1, 1) := by decide +kernel
theorem dX12_manyWithout_22 : decode cX12_manyWithout 22 = .ok (.iload_n 2, 1) := by decide +kernel
theorem dX12_manyWithout_23 : decode cX12_manyWithout 23 = .ok (.ishl, 1) := by decide +kernel
theorem dX12_manyWithout_24 : decode cX12_manyWithout 24 = .ok (.ior, 1) := by decide +kernel
theorem dX12_manyWithout_25 : decode cX12_manyWithout 25 = .ok (.iastore, 1) := by decide +kernel
theorem dX12_manyWithout_26 : decode cX12_manyWithout 26 = .ok (.aload_n 0, 1) := by decide +kernel
theorem dX12_manyWithout_27 : decode cX12_manyWithout 27 = .ok (.iconst (-1), 1) := by decide +kernel
theorem dX12_manyWithout_28 : decode cX12_manyWithout 28 = .ok (.invokevirtual 324, 3) := by decide +kernel
theorem dX12_manyWithout_31 : decode cX12_manyWithout 31 = .ok (.aload_n 0, 1) := by decide +kernel
theorem dX12_manyWithout_32 : decode cX12_manyWithout 32 = .ok (.getfield 15, 3) := by decide +kernel
theorem dX12_manyWithout_35 : decode cX12_manyWithout 35 = .ok (.bipush 6, 2) := by decide +kernel
theorem dX12_manyWithout_37 : decode cX12_manyWithout 37 = .ok (.iload_n 1, 1) := by decide +kernel
theorem dX12_manyWithout_38 : decode cX12_manyWithout 38 = .ok (.iadd, 1) := by decide +kernel
theorem dX12_manyWithout_39 : decode cX12_manyWithout 39 = .ok (.iload 5, 2) := by decide +kernel
theorem dX12_manyWithout_41 : decode cX12_manyWithout 41 = .ok (.iastore, 1) := by decide +kernel
theorem dX12_manyWithout_42 : decode cX12_manyWithout 42 = .ok (.aload_n 0, 1) := by decide +kernel
theorem dX12_manyWithout_43 : decode cX12_manyWithout 43 = .ok (.iload_n 3, 1) := by decide +kernel
theorem dX12_manyWithout_44 : decode cX12_manyWithout 44 = .ok (.iload 4, 2) := by decide +kernel
theorem dX12_manyWithout_46 : decode cX12_manyWithout 46 = .ok (.invokevirtual 320, 3) := by decide +kernel
theorem dX12_manyWithout_49 : decode cX12_manyWithout 49 = .ok (.lreturn, 1) := by decide +kernel
theorem dX12_without_0 : decode cX12_without 0 = .ok (.aload_n 0, 1) := by decide +kernel
theorem dX12_without_1 : decode cX12_without 1 = .ok (.iload_n 1, 1) := by decide +kernel
theorem dX12_without_2 : decode cX12_without 2 = .ok (.iload_n 2, 1) := by decide +kernel
theorem dX12_without_3 : decode cX12_without 3 = .ok (.invokevirtual 344, 3) := by decide +kernel
theorem dX12_without_6 : decode cX12_without 6 = .ok (.ifCond .eq 32, 3) := by decide +kernel
theorem dX12_without_38 : decode cX12_without 38 = .ok (.ldc2_w 337, 3) := by decide +kernel
theorem dX12_without_41 : decode cX12_without 41 = .ok (.lreturn, 1) := by decide +kernel
theorem dX12_without_9 : decode cX12_without 9 = .ok (.aload_n 0, 1) := by decide +kernel
theorem dX12_without_10 : decode cX12_without 10 = .ok (.iload_n 3, 1) := by decide +kernel
theorem dX12_without_11 : decode cX12_without 11 = .ok (.invokevirtual 225, 3) := by decide +kernel
theorem dX12_without_14 : decode cX12_without 14 = .ok (.ifCond .eq 24, 3) := by decide +kernel
theorem dX12_without_17 : decode cX12_without 17 = .ok (.aload_n 0, 1) := by decide +kernel
theorem dX12_without_18 : decode cX12_without 18 = .ok (.iload 4, 2) := by decide +kernel
theorem dX12_without_20 : decode cX12_without 20 = .ok (.invokevirtual 334, 3) := by decide +kernel
theorem dX12_without_23 : decode cX12_without 23 = .ok (.ifCond .eq 15, 3) := by decide +kernel
theorem dX12_without_26 : decode cX12_without 26 = .ok (.aload_n 0, 1) := by decide +kernel
theorem dX12_without_27 : decode cX12_without 27 = .ok (.iload_n 1, 1) := by decide +kernel
theorem dX12_without_28 : decode cX12_without 28 = .ok (.iload_n 2, 1) := by decide +kernel
theorem dX12_without_29 : decode cX12_without 29 = .ok (.iload_n 3, 1) := by decide +kernel
theorem dX12_without_30 : decode cX12_without 30 = .ok (.iload 4, 2) := by decide +kernel
theorem dX12_without_32 : decode cX12_without 32 = .ok (.invokevirtual 350, 3) := by decide +kernel
theorem wm_2132 : (Jvm.Cond.methodLink "GrownKindsModel" (350 : Nat) ({ cls := "GrownKindsModel", name := "manyWithout", desc := "(IIII)J" } : Jvm.MethodName)) ∈ gT := gT_in (List.mem_of_getElem? (i := 2132) (by decide +kernel)) (by decide +kernel)
theorem wm_2134 : (Jvm.Cond.instanceMethod ({ cls := "GrownKindsModel", name := "manyWithout", desc := "(IIII)J" } : Jvm.MethodName)) ∈ gT := gT_in (List.mem_of_getElem? (i := 2134) (by decide +kernel)) (by decide +kernel)
theorem wm_131 : Cond.selects "GrownKindsModel" ⟨"GrownKindsModel", "manyWithout", "(IIII)J"⟩ ⟨"GrownKindsModel", "manyWithout", "(IIII)J"⟩ ∈ gT := gT_in (List.mem_of_getElem? (i := 131) (by decide +kernel)) (by decide +kernel)
theorem wm_2135 : (Jvm.Cond.code ({ cls := "GrownKindsModel", name := "manyWithout", desc := "(IIII)J" } : Jvm.MethodName) prog_14_method_74_code (6 : Nat) (Option.some Jvm.ClassFile.FieldType.long)) ∈ gT := gT_in (List.mem_of_getElem? (i := 2135) (by decide +kernel)) (by decide +kernel)
theorem dX12_without_35 : decode cX12_without 35 = .ok (.goto 6, 3) := by decide +kernel
def mX12_clears_2  : Nat → Int → St → Option (St)
  | 0, _, _ => none
  | f + 1, v_1, S_2 => gd (inI v_1) <| if 228 ≤ v_1 then (some (S_2)) else (if v_1 < 96 then (gd (0 ≤ v_1 ∧ v_1 < 228) <| nx (up S_2 84 v_1 0) fun S_13 => mX12_clears_2 f (v_1 + 1) S_13) else (if 198 ≤ v_1 then (gd (0 ≤ v_1 ∧ v_1 < 228) <| nx (up S_2 84 v_1 0) fun S_16 => mX12_clears_2 f (v_1 + 1) S_16) else (gd (0 ≤ v_1 ∧ v_1 < 228) <| nx (up S_2 84 v_1 (-1)) fun S_18 => mX12_clears_2 f (v_1 + 1) S_18)))
def mX12_clears (S0 : St)  : Option (St) := bd1 (mX12_clears_2 FU 0 S0) fun S_3 => some (S_3)
set_option maxHeartbeats 4000000 in
set_option maxRecDepth 100000 in
theorem vX12_clears (l : Launch) {D : va_G} {cy : Nat → ClassId} {b n : Nat} (hn : 102 ≤ n) {X : Nat → va_E} {S0 : St}  {o1 : St} (hM : mX12_clears S0  = some o1) : gV l yX12_clears cX12_clears 2 0 0 0 D cy b n (enc b cy X S0) [.ref (b + 80)] (fun u => u = (n, enc b cy X o1)) := by
  refine gV_of (by decide) (Nat.le_of_ble_eq_true rfl) ?_
  intro p e s m args below meth c S hr hlk hin hsz ls hl hG
  have hx := S.1
  have hb := S.2.1
  have hl : lv_has ls 2 [(0, .ref (b + 80))] := hl
  replace hG : gW D cy b n s s.heap [] (enc b cy X S0) := hG
  obtain ⟨H, eH⟩ : ∃ H, H = s.heap := ⟨_, rfl⟩
  obtain ⟨locs, elocs⟩ : ∃ locs : List Loc, locs = [] := ⟨_, rfl⟩
  rw [← eH, ← elocs] at hG
  rw [← eH, ← elocs]
  clear eH elocs
  unfold mX12_clears at hM
  refine lv_iconst (v := iI 0) hx hb dX12_clears_0 (by decide) ?_
  refine lv_istore_n (lv' := [(1, .int (iI 0)), (0, .ref (b + 80))]) hx hb dX12_clears_1 rfl hl (by decide) rfl (fun ls hl => ?_)
  obtain ⟨S_3, hc_4, hM⟩ := bd1_some hM
  have hK_5 : ∀ (H : Heap) (locs : List Loc) (ls : Array Slot), gW D cy b n s H locs (enc b cy X S_3) → lv_has ls 2 [] → W p l e (gRm 0 0 0) s m args below meth c H locs 0 0 (gQV D cy b s args below 0 0 (fun u => u = (n, enc b cy X o1))) (F0 m 39 ls []) := by
    intro H locs ls hG hl
    cases hM
    exact g_vret S hr hlk hG hsz dX12_clears_39 ⟨Nat.le_of_ble_eq_true rfl, Nat.le_of_ble_eq_true rfl⟩ rfl
  have loop_6 : ∀ (f : Nat) (v_1 : Int) (S_2 : St) (H : Heap) (locs : List Loc) (ls : Array Slot), mX12_clears_2 f v_1 S_2 = some S_3 → gW D cy b n s H locs (enc b cy X S_2) → lv_has ls 2 [(1, .int (iI v_1)), (0, .ref (b + 80))] → W p l e (gRm 0 0 0) s m args below meth c H locs 0 0 (gQV D cy b s args below 0 0 (fun u => u = (n, enc b cy X o1))) (F0 m 2 ls []) := by
    clear hM
    intro f
    induction f with
    | zero => intro v_1 S_2 H locs ls hM; rw [mX12_clears_2] at hM; cases hM
    | succ f_8 ih_7 =>
      intro v_1 S_2 H locs ls hM hG hl
      rw [mX12_clears_2] at hM
      refine lv_iload_n hx hb dX12_clears_2 rfl (lv_at hl 0 rfl) ?_
      refine lv_sipush (v := iI 228) hx hb dX12_clears_3 (by decide) ?_
      obtain ⟨hg_9, hM⟩ := gd_some hM
      refine gi_icmp_ge (tgt := 39) hx hb dX12_clears_6 (by decide) hg_9 (by decide) (fun c_10 => ?_) (fun c_10 => ?_)
      · replace hM := ifp hM c_10
        cases hM
        exact hK_5 H locs ls hG (lv_sub hl [] rfl)
      · replace hM := ifn hM c_10
        refine lv_aload_n hx hb dX12_clears_9 rfl (lv_at hl 1 rfl) ?_
        refine m_get S hG 80 83 0 rfl ec_83 cpX12 wm_1673 dX12_clears_10 rfl (Nat.lt_of_lt_of_le (Nat.le_of_ble_eq_true rfl) hn) (by decide) ?_
        refine lv_iload_n hx hb dX12_clears_13 rfl (lv_at hl 0 rfl) ?_
        refine lv_iload_n hx hb dX12_clears_14 rfl (lv_at hl 0 rfl) ?_
        refine lv_bipush (v := iI 96) hx hb dX12_clears_15 (by decide) ?_
        refine gi_icmp_lt (tgt := 31) hx hb dX12_clears_17 (by decide) hg_9 (by decide) (fun c_11 => ?_) (fun c_11 => ?_)
        · replace hM := ifp hM c_11
          refine lv_iconst (v := iI 0) hx hb dX12_clears_31 (by decide) ?_
          obtain ⟨hg_12, hM⟩ := gd_some hM
          refine mi_ast S hG 81 84 rfl ec_84 (Nat.lt_of_lt_of_le (Nat.le_of_ble_eq_true rfl) hn) dX12_clears_32 hg_12 (by decide) (fun H locs S_13 eS_13 hG => ?_)
          replace hM := nx_at hM eS_13
          clear eS_13
          refine lv_iinc (v := iI (v_1 + 1)) (lv' := [(1, .int (iI (v_1 + 1))), (0, .ref (b + 80))]) hx hb dX12_clears_33 hl (k := 0) rfl ((iI_add v_1 (1)).trans (congrArg iI (by omega))) (by decide) rfl (fun ls hl => ?_)
          refine lv_goto (tgt := 2) hx hb dX12_clears_36 (by decide) ?_
          exact ih_7 (v_1 + 1) S_13 H locs ls hM hG (lv_sub hl [0, 1] rfl)
        · replace hM := ifn hM c_11
          refine lv_iload_n hx hb dX12_clears_20 rfl (lv_at hl 0 rfl) ?_
          refine lv_sipush (v := iI 198) hx hb dX12_clears_21 (by decide) ?_
          refine gi_icmp_ge (tgt := 31) hx hb dX12_clears_24 (by decide) hg_9 (by decide) (fun c_14 => ?_) (fun c_14 => ?_)
          · replace hM := ifp hM c_14
            refine lv_iconst (v := iI 0) hx hb dX12_clears_31 (by decide) ?_
            obtain ⟨hg_15, hM⟩ := gd_some hM
            refine mi_ast S hG 81 84 rfl ec_84 (Nat.lt_of_lt_of_le (Nat.le_of_ble_eq_true rfl) hn) dX12_clears_32 hg_15 (by decide) (fun H locs S_16 eS_16 hG => ?_)
            replace hM := nx_at hM eS_16
            clear eS_16
            refine lv_iinc (v := iI (v_1 + 1)) (lv' := [(1, .int (iI (v_1 + 1))), (0, .ref (b + 80))]) hx hb dX12_clears_33 hl (k := 0) rfl ((iI_add v_1 (1)).trans (congrArg iI (by omega))) (by decide) rfl (fun ls hl => ?_)
            refine lv_goto (tgt := 2) hx hb dX12_clears_36 (by decide) ?_
            exact ih_7 (v_1 + 1) S_16 H locs ls hM hG (lv_sub hl [0, 1] rfl)
          · replace hM := ifn hM c_14
            refine lv_iconst (v := iI (-1)) hx hb dX12_clears_27 (by decide) ?_
            refine lv_goto (tgt := 32) hx hb dX12_clears_28 (by decide) ?_
            obtain ⟨hg_17, hM⟩ := gd_some hM
            refine mi_ast S hG 81 84 rfl ec_84 (Nat.lt_of_lt_of_le (Nat.le_of_ble_eq_true rfl) hn) dX12_clears_32 hg_17 (by decide) (fun H locs S_18 eS_18 hG => ?_)
            replace hM := nx_at hM eS_18
            clear eS_18
            refine lv_iinc (v := iI (v_1 + 1)) (lv' := [(1, .int (iI (v_1 + 1))), (0, .ref (b + 80))]) hx hb dX12_clears_33 hl (k := 0) rfl ((iI_add v_1 (1)).trans (congrArg iI (by omega))) (by decide) rfl (fun ls hl => ?_)
            refine lv_goto (tgt := 2) hx hb dX12_clears_36 (by decide) ?_
            exact ih_7 (v_1 + 1) S_18 H locs ls hM hG (lv_sub hl [0, 1] rfl)
  exact loop_6 FU 0 S0 H locs ls hc_4 hG (lv_sub hl [0, 1] rfl)
def mX12_isAt (S0 : St) (a1 : Int) (a2 : Int) : Option (Int) := gd ((inI (S0 83 6)) ∧ (inI (S0 83 3))) <| if (S0 83 3) ≤ (S0 83 6) then (some (0)) else (gd (0 ≤ (S0 83 6) ∧ (S0 83 6) < 400) <| gd (inI (S0 86 (S0 83 6))) <| gd (inI a1) <| gd (inI a2) <| bd1 (mX12_in (S0 86 (S0 83 6)) a1 a2) fun r_8 => gd (inI r_8) <| if r_8 = 0 then (some (0)) else (some (1)))
set_option maxHeartbeats 4000000 in
set_option maxRecDepth 100000 in
theorem vX12_isAt (l : Launch) {D : va_G} {cy : Nat → ClassId} {b n : Nat} (hn : 102 ≤ n) {X : Nat → va_E} {S0 : St} (a1 : Int) (a2 : Int) {o1 : Int} (hM : mX12_isAt S0 a1 a2 = some o1) : gI l yX12_isAt cX12_isAt 3 (some .boolean) 1 0 0 D cy b n (enc b cy X S0) [.ref (b + 80), .int (iI a1), .int (iI a2)] (fun r u => r = iI o1 ∧ u = (n, enc b cy X S0)) := by
  refine gI_of (by decide) (Nat.le_of_ble_eq_true rfl) ?_
  intro p e s m args below meth c S hr hlk hin hsz ls hl hG
  have hx := S.1
  have hb := S.2.1
  have hl : lv_has ls 3 [(0, .ref (b + 80)), (1, .int (iI a1)), (2, .int (iI a2))] := hl
  replace hG : gW D cy b n s s.heap [] (enc b cy X S0) := hG
  obtain ⟨H, eH⟩ : ∃ H, H = s.heap := ⟨_, rfl⟩
  obtain ⟨locs, elocs⟩ : ∃ locs : List Loc, locs = [] := ⟨_, rfl⟩
  rw [← eH, ← elocs] at hG
  rw [← eH, ← elocs]
  clear eH elocs
  unfold mX12_isAt at hM
  refine lv_aload_n hx hb dX12_isAt_0 rfl (lv_at hl 0 rfl) ?_
  refine m_get S hG 80 83 6 rfl ec_83 cpX12 wm_1679 dX12_isAt_1 rfl (Nat.lt_of_lt_of_le (Nat.le_of_ble_eq_true rfl) hn) (by decide) ?_
  refine lv_aload_n hx hb dX12_isAt_4 rfl (lv_at hl 0 rfl) ?_
  refine m_get S hG 80 83 3 rfl ec_83 cpX12 wm_1676 dX12_isAt_5 rfl (Nat.lt_of_lt_of_le (Nat.le_of_ble_eq_true rfl) hn) (by decide) ?_
  obtain ⟨hg_1, hM⟩ := gd_some hM
  refine gi_icmp_ge (tgt := 35) hx hb dX12_isAt_8 (by decide) hg_1.1 hg_1.2 (fun c_2 => ?_) (fun c_2 => ?_)
  · replace hM := ifp hM c_2
    refine lv_iconst (v := iI 0) hx hb dX12_isAt_35 (by decide) ?_
    cases hM
    exact g_zret S hr hlk hG hsz dX12_isAt_36 ⟨Nat.le_of_ble_eq_true rfl, Nat.le_of_ble_eq_true rfl⟩ (nar_z (by decide)) ⟨rfl, rfl⟩
  · replace hM := ifn hM c_2
    refine lv_aload_n hx hb dX12_isAt_11 rfl (lv_at hl 0 rfl) ?_
    refine m_get S hG 80 83 2 rfl ec_83 cpX12 wm_1675 dX12_isAt_12 rfl (Nat.lt_of_lt_of_le (Nat.le_of_ble_eq_true rfl) hn) (by decide) ?_
    refine lv_aload_n hx hb dX12_isAt_15 rfl (lv_at hl 0 rfl) ?_
    refine m_get S hG 80 83 6 rfl ec_83 cpX12 wm_1679 dX12_isAt_16 rfl (Nat.lt_of_lt_of_le (Nat.le_of_ble_eq_true rfl) hn) (by decide) ?_
    obtain ⟨hg_3, hM⟩ := gd_some hM
    refine mi_ald S hG 83 86 rfl ec_86 (Nat.lt_of_lt_of_le (Nat.le_of_ble_eq_true rfl) hn) dX12_isAt_19 hg_3 (by decide) ?_
    obtain ⟨hg_4, hM⟩ := gd_some hM
    refine gi_i2l hx hb dX12_isAt_20 hg_4 ?_
    refine lv_iload_n hx hb dX12_isAt_21 rfl (lv_at hl 1 rfl) ?_
    obtain ⟨hg_5, hM⟩ := gd_some hM
    refine gi_i2l hx hb dX12_isAt_22 hg_5 ?_
    refine lv_iload_n hx hb dX12_isAt_23 rfl (lv_at hl 2 rfl) ?_
    obtain ⟨hg_6, hM⟩ := gd_some hM
    refine gi_i2l hx hb dX12_isAt_24 hg_6 ?_
    obtain ⟨r_8, hc_7, hM⟩ := bd1_some hM
    refine g_si (As := [.long (jJ (S0 86 (S0 83 6))), .long (jJ a1), .long (jJ a2)]) (rest := []) S hG hsz (vX12_in l hn (S0 86 (S0 83 6)) a1 a2 hc_7) wS_12_97 dX12_isAt_25 rfl hl.1 (ar := 3) (by decide +kernel) rfl ⟨Nat.le_of_ble_eq_true rfl, Nat.le_of_ble_eq_true rfl, Nat.le_of_ble_eq_true rfl, Nat.le_of_ble_eq_true rfl⟩ (Nat.le_of_ble_eq_true rfl) (fun rv uu H locs hp hG => ?_)
    obtain ⟨rfl, rfl⟩ := hp
    replace hG : gW D cy b n s H locs (enc b cy X S0) := hG
    obtain ⟨hg_9, hM⟩ := gd_some hM
    refine gi_if_eq (tgt := 35) hx hb dX12_isAt_28 (by decide) hg_9 (fun c_10 => ?_) (fun c_10 => ?_)
    · replace hM := ifp hM c_10
      refine lv_iconst (v := iI 0) hx hb dX12_isAt_35 (by decide) ?_
      cases hM
      exact g_zret S hr hlk hG hsz dX12_isAt_36 ⟨Nat.le_of_ble_eq_true rfl, Nat.le_of_ble_eq_true rfl⟩ (nar_z (by decide)) ⟨rfl, rfl⟩
    · replace hM := ifn hM c_10
      refine lv_iconst (v := iI 1) hx hb dX12_isAt_31 (by decide) ?_
      refine lv_goto (tgt := 36) hx hb dX12_isAt_32 (by decide) ?_
      cases hM
      exact g_zret S hr hlk hG hsz dX12_isAt_36 ⟨Nat.le_of_ble_eq_true rfl, Nat.le_of_ble_eq_true rfl⟩ (nar_z (by decide)) ⟨rfl, rfl⟩
theorem wV_12_104 : gWV "GrownKindsModel" 104 yX12_isAt cX12_isAt 3 (some .boolean) := ⟨wm_1850, wm_1852, wm_89, wm_188, wm_1853, by decide +kernel, by decide +kernel⟩
def mX12_next_123  : Nat → St → Option (St)
  | 0, _ => none
  | f + 1, S_35 => bd1 (mX12_isAt S_35 48 57) fun r_43 => gd (inI r_43) <| if r_43 = 0 then (some (S_35)) else (gd (0 ≤ (S_35 83 6) ∧ (S_35 83 6) < 400) <| gd (inI (((10 * (S_35 83 9)) + (S_35 86 (S_35 83 6))) - 48)) <| nx (up S_35 83 9 (min 9999 (((10 * (S_35 83 9)) + (S_35 86 (S_35 83 6))) - 48))) fun S_48 => nx (up S_48 83 6 ((S_48 83 6) + 1)) fun S_49 => mX12_next_123 f S_49)
def mX12_next_83  : Nat → St → Option (St)
  | 0, _ => none
  | f + 1, S_51 => bd1 (mX12_isAt S_51 97 122) fun r_59 => gd (inI r_59) <| if r_59 = 0 then (some (S_51)) else (nx (up S_51 83 6 ((S_51 83 6) + 1)) fun S_62 => mX12_next_83 f S_62)
def mX12_next_0  : Nat → St → Option (St)
  | 0, _ => none
  | f + 1, S_1 => bd1 (mX12_isAt S_1 32 32) fun r_68 => bd1 (gd (inI r_68) <| if r_68 = 0 then (bd1 (mX12_isAt S_1 10 10) fun r_77 => gd (inI r_77) <| if r_77 = 0 then (some (1)) else (some (0))) else (some (0))) fun t_69 => if t_69 = 0 then (nx (up S_1 83 6 ((S_1 83 6) + 1)) fun S_72 => mX12_next_0 f S_72) else (some (S_1))
def mX12_next (S0 : St)  : Option (St) := bd1 (mX12_next_0 FU S0) fun S_2 => nx (up S_2 83 7 (S_2 83 6)) fun S_5 => nx (up S_5 83 9 0) fun S_6 => gd ((inI (S_6 83 6)) ∧ (inI (S_6 83 3))) <| if (S_6 83 6) = (S_6 83 3) then (nx (up S_6 83 8 0) fun S_63 => some (S_63)) else (bd1 (mX12_isAt S_6 97 122) fun r_10 => gd (inI r_10) <| if r_10 = 0 then (bd1 (mX12_isAt S_6 48 57) fun r_14 => gd (inI r_14) <| if r_14 = 0 then (bd1 (mX12_isAt S_6 61 61) fun r_18 => bd1 (gd (inI r_18) <| if r_18 = 0 then (bd1 (mX12_isAt S_6 59 59) fun r_27 => gd (inI r_27) <| if r_27 = 0 then (bd1 (mX12_isAt S_6 40 41) fun r_31 => gd (inI r_31) <| if r_31 = 0 then (some (4)) else (some (3))) else (some (3))) else (some (3))) fun z_19 => nx (up S_6 83 8 z_19) fun S_22 => nx (up S_22 83 6 ((S_22 83 6) + 1)) fun S_23 => some (S_23)) else (nx (up S_6 83 8 2) fun S_34 => bd1 (mX12_next_123 FU S_34) fun S_36 => some (S_36))) else (nx (up S_6 83 8 1) fun S_50 => bd1 (mX12_next_83 FU S_50) fun S_52 => some (S_52)))
set_option maxHeartbeats 4000000 in
set_option maxRecDepth 100000 in
theorem vX12_next (l : Launch) {D : va_G} {cy : Nat → ClassId} {b n : Nat} (hn : 102 ≤ n) {X : Nat → va_E} {S0 : St}  {o1 : St} (hM : mX12_next S0  = some o1) : gV l yX12_next cX12_next 1 2 0 0 D cy b n (enc b cy X S0) [.ref (b + 80)] (fun u => u = (n, enc b cy X o1)) := by
  refine gV_of (by decide) (Nat.le_of_ble_eq_true rfl) ?_
  intro p e s m args below meth c S hr hlk hin hsz ls hl hG
  have hx := S.1
  have hb := S.2.1
  have hl : lv_has ls 1 [(0, .ref (b + 80))] := hl
  replace hG : gW D cy b n s s.heap [] (enc b cy X S0) := hG
  obtain ⟨H, eH⟩ : ∃ H, H = s.heap := ⟨_, rfl⟩
  obtain ⟨locs, elocs⟩ : ∃ locs : List Loc, locs = [] := ⟨_, rfl⟩
  rw [← eH, ← elocs] at hG
  rw [← eH, ← elocs]
  clear eH elocs
  unfold mX12_next at hM
  obtain ⟨S_2, hc_3, hM⟩ := bd1_some hM
  have hK_4 : ∀ (H : Heap) (locs : List Loc) (ls : Array Slot), gW D cy b n s H locs (enc b cy X S_2) → lv_has ls 1 [(0, .ref (b + 80))] → W p l e (gRm 2 0 0) s m args below meth c H locs 0 0 (gQV D cy b s args below 0 0 (fun u => u = (n, enc b cy X o1))) (F0 m 35 ls []) := by
    intro H locs ls hG hl
    refine lv_aload_n hx hb dX12_next_35 rfl (lv_at hl 0 rfl) ?_
    refine lv_aload_n hx hb dX12_next_36 rfl (lv_at hl 0 rfl) ?_
    refine m_get S hG 80 83 6 rfl ec_83 cpX12 wm_1679 dX12_next_37 rfl (Nat.lt_of_lt_of_le (Nat.le_of_ble_eq_true rfl) hn) (by decide) ?_
    refine m_put S hG 80 83 7 rfl 7 (S_2 83 6) ec_83 cpX12 wm_1680 dX12_next_40 (pf_83_7) (Nat.lt_of_lt_of_le (Nat.le_of_ble_eq_true rfl) hn) (by decide) (Nat.le_of_ble_eq_true rfl) rfl rfl rfl (fun H locs S_5 eS_5 hG => ?_)
    replace hM := nx_at hM eS_5
    clear eS_5
    refine lv_aload_n hx hb dX12_next_43 rfl (lv_at hl 0 rfl) ?_
    refine lv_iconst (v := iI 0) hx hb dX12_next_44 (by decide) ?_
    refine m_put S hG 80 83 9 rfl 9 0 ec_83 cpX12 wm_1682 dX12_next_45 (pf_83_9) (Nat.lt_of_lt_of_le (Nat.le_of_ble_eq_true rfl) hn) (by decide) (Nat.le_of_ble_eq_true rfl) rfl rfl rfl (fun H locs S_6 eS_6 hG => ?_)
    replace hM := nx_at hM eS_6
    clear eS_6
    refine lv_aload_n hx hb dX12_next_48 rfl (lv_at hl 0 rfl) ?_
    refine m_get S hG 80 83 6 rfl ec_83 cpX12 wm_1679 dX12_next_49 rfl (Nat.lt_of_lt_of_le (Nat.le_of_ble_eq_true rfl) hn) (by decide) ?_
    refine lv_aload_n hx hb dX12_next_52 rfl (lv_at hl 0 rfl) ?_
    refine m_get S hG 80 83 3 rfl ec_83 cpX12 wm_1676 dX12_next_53 rfl (Nat.lt_of_lt_of_le (Nat.le_of_ble_eq_true rfl) hn) (by decide) ?_
    obtain ⟨hg_7, hM⟩ := gd_some hM
    refine gi_icmp_ne (tgt := 67) hx hb dX12_next_56 (by decide) hg_7.1 hg_7.2 (fun c_8 => ?_) (fun c_8 => ?_)
    · replace hM := ifn hM c_8
      refine lv_aload_n hx hb dX12_next_67 rfl (lv_at hl 0 rfl) ?_
      refine lv_bipush (v := iI 97) hx hb dX12_next_68 (by decide) ?_
      refine lv_bipush (v := iI 122) hx hb dX12_next_70 (by decide) ?_
      obtain ⟨r_10, hc_9, hM⟩ := bd1_some hM
      refine g_vi (As := [.int (iI 97), .int (iI 122)]) (rest := []) S hG hsz (vX12_isAt l hn 97 122 hc_9) wV_12_104 (ec_83 _) cpX12 (Nat.lt_of_lt_of_le (Nat.le_of_ble_eq_true rfl) hn) dX12_next_72 rfl hl.1 (ar := 2) (by decide +kernel) rfl ⟨Nat.le_of_ble_eq_true rfl, Nat.le_of_ble_eq_true rfl, Nat.le_of_ble_eq_true rfl, Nat.le_of_ble_eq_true rfl⟩ (Nat.le_of_ble_eq_true rfl) (fun rv uu H locs hp hG => ?_)
      obtain ⟨rfl, rfl⟩ := hp
      replace hG : gW D cy b n s H locs (enc b cy X S_6) := hG
      obtain ⟨hg_11, hM⟩ := gd_some hM
      refine gi_if_eq (tgt := 107) hx hb dX12_next_75 (by decide) hg_11 (fun c_12 => ?_) (fun c_12 => ?_)
      · replace hM := ifp hM c_12
        refine lv_aload_n hx hb dX12_next_107 rfl (lv_at hl 0 rfl) ?_
        refine lv_bipush (v := iI 48) hx hb dX12_next_108 (by decide) ?_
        refine lv_bipush (v := iI 57) hx hb dX12_next_110 (by decide) ?_
        obtain ⟨r_14, hc_13, hM⟩ := bd1_some hM
        refine g_vi (As := [.int (iI 48), .int (iI 57)]) (rest := []) S hG hsz (vX12_isAt l hn 48 57 hc_13) wV_12_104 (ec_83 _) cpX12 (Nat.lt_of_lt_of_le (Nat.le_of_ble_eq_true rfl) hn) dX12_next_112 rfl hl.1 (ar := 2) (by decide +kernel) rfl ⟨Nat.le_of_ble_eq_true rfl, Nat.le_of_ble_eq_true rfl, Nat.le_of_ble_eq_true rfl, Nat.le_of_ble_eq_true rfl⟩ (Nat.le_of_ble_eq_true rfl) (fun rv uu H locs hp hG => ?_)
        obtain ⟨rfl, rfl⟩ := hp
        replace hG : gW D cy b n s H locs (enc b cy X S_6) := hG
        obtain ⟨hg_15, hM⟩ := gd_some hM
        refine gi_if_eq (tgt := 177) hx hb dX12_next_115 (by decide) hg_15 (fun c_16 => ?_) (fun c_16 => ?_)
        · replace hM := ifp hM c_16
          refine lv_aload_n hx hb dX12_next_177 rfl (lv_at hl 0 rfl) ?_
          refine lv_aload_n hx hb dX12_next_178 rfl (lv_at hl 0 rfl) ?_
          refine lv_bipush (v := iI 61) hx hb dX12_next_179 (by decide) ?_
          refine lv_bipush (v := iI 61) hx hb dX12_next_181 (by decide) ?_
          obtain ⟨r_18, hc_17, hM⟩ := bd1_some hM
          refine g_vi (As := [.int (iI 61), .int (iI 61)]) (rest := [.ref (b + 80)]) S hG hsz (vX12_isAt l hn 61 61 hc_17) wV_12_104 (ec_83 _) cpX12 (Nat.lt_of_lt_of_le (Nat.le_of_ble_eq_true rfl) hn) dX12_next_183 rfl hl.1 (ar := 2) (by decide +kernel) rfl ⟨Nat.le_of_ble_eq_true rfl, Nat.le_of_ble_eq_true rfl, Nat.le_of_ble_eq_true rfl, Nat.le_of_ble_eq_true rfl⟩ (Nat.le_of_ble_eq_true rfl) (fun rv uu H locs hp hG => ?_)
          obtain ⟨rfl, rfl⟩ := hp
          replace hG : gW D cy b n s H locs (enc b cy X S_6) := hG
          obtain ⟨z_19, hc_20, hM⟩ := bd1_some hM
          have hK_21 : ∀ (H : Heap) (locs : List Loc) (ls : Array Slot), gW D cy b n s H locs (enc b cy X S_6) → lv_has ls 1 [(0, .ref (b + 80))] → W p l e (gRm 2 0 0) s m args below meth c H locs 0 0 (gQV D cy b s args below 0 0 (fun u => u = (n, enc b cy X o1))) (F0 m 216 ls [.int (iI z_19), .ref (b + 80)]) := by
            intro H locs ls hG hl
            refine m_put S hG 80 83 8 rfl 8 z_19 ec_83 cpX12 wm_1681 dX12_next_216 (pf_83_8) (Nat.lt_of_lt_of_le (Nat.le_of_ble_eq_true rfl) hn) (by decide) (Nat.le_of_ble_eq_true rfl) rfl rfl rfl (fun H locs S_22 eS_22 hG => ?_)
            replace hM := nx_at hM eS_22
            clear eS_22
            refine lv_aload_n hx hb dX12_next_219 rfl (lv_at hl 0 rfl) ?_
            refine lv_dup hx hb dX12_next_220 rfl ?_
            refine m_get S hG 80 83 6 rfl ec_83 cpX12 wm_1679 dX12_next_221 rfl (Nat.lt_of_lt_of_le (Nat.le_of_ble_eq_true rfl) hn) (by decide) ?_
            refine lv_iconst (v := iI 1) hx hb dX12_next_224 (by decide) ?_
            refine gi_add hx hb dX12_next_225 ?_
            refine m_put S hG 80 83 6 rfl 6 ((S_22 83 6) + 1) ec_83 cpX12 wm_1679 dX12_next_226 (pf_83_6) (Nat.lt_of_lt_of_le (Nat.le_of_ble_eq_true rfl) hn) (by decide) (Nat.le_of_ble_eq_true rfl) rfl rfl rfl (fun H locs S_23 eS_23 hG => ?_)
            replace hM := nx_at hM eS_23
            clear eS_23
            cases hM
            exact g_vret S hr hlk hG hsz dX12_next_229 ⟨Nat.le_of_ble_eq_true rfl, Nat.le_of_ble_eq_true rfl⟩ rfl
          clear hM
          replace hM := hc_20
          obtain ⟨hg_24, hM⟩ := gd_some hM
          refine gi_if_ne (tgt := 211) hx hb dX12_next_186 (by decide) hg_24 (fun c_25 => ?_) (fun c_25 => ?_)
          · replace hM := ifn hM c_25
            refine lv_iconst (v := iI 3) hx hb dX12_next_211 (by decide) ?_
            refine lv_goto (tgt := 216) hx hb dX12_next_212 (by decide) ?_
            cases hM
            exact hK_21 H locs ls hG (lv_sub hl [0] rfl)
          · replace hM := ifp hM c_25
            refine lv_aload_n hx hb dX12_next_189 rfl (lv_at hl 0 rfl) ?_
            refine lv_bipush (v := iI 59) hx hb dX12_next_190 (by decide) ?_
            refine lv_bipush (v := iI 59) hx hb dX12_next_192 (by decide) ?_
            obtain ⟨r_27, hc_26, hM⟩ := bd1_some hM
            refine g_vi (As := [.int (iI 59), .int (iI 59)]) (rest := [.ref (b + 80)]) S hG hsz (vX12_isAt l hn 59 59 hc_26) wV_12_104 (ec_83 _) cpX12 (Nat.lt_of_lt_of_le (Nat.le_of_ble_eq_true rfl) hn) dX12_next_194 rfl hl.1 (ar := 2) (by decide +kernel) rfl ⟨Nat.le_of_ble_eq_true rfl, Nat.le_of_ble_eq_true rfl, Nat.le_of_ble_eq_true rfl, Nat.le_of_ble_eq_true rfl⟩ (Nat.le_of_ble_eq_true rfl) (fun rv uu H locs hp hG => ?_)
            obtain ⟨rfl, rfl⟩ := hp
            replace hG : gW D cy b n s H locs (enc b cy X S_6) := hG
            obtain ⟨hg_28, hM⟩ := gd_some hM
            refine gi_if_ne (tgt := 211) hx hb dX12_next_197 (by decide) hg_28 (fun c_29 => ?_) (fun c_29 => ?_)
            · replace hM := ifn hM c_29
              refine lv_iconst (v := iI 3) hx hb dX12_next_211 (by decide) ?_
              refine lv_goto (tgt := 216) hx hb dX12_next_212 (by decide) ?_
              cases hM
              exact hK_21 H locs ls hG (lv_sub hl [0] rfl)
            · replace hM := ifp hM c_29
              refine lv_aload_n hx hb dX12_next_200 rfl (lv_at hl 0 rfl) ?_
              refine lv_bipush (v := iI 40) hx hb dX12_next_201 (by decide) ?_
              refine lv_bipush (v := iI 41) hx hb dX12_next_203 (by decide) ?_
              obtain ⟨r_31, hc_30, hM⟩ := bd1_some hM
              refine g_vi (As := [.int (iI 40), .int (iI 41)]) (rest := [.ref (b + 80)]) S hG hsz (vX12_isAt l hn 40 41 hc_30) wV_12_104 (ec_83 _) cpX12 (Nat.lt_of_lt_of_le (Nat.le_of_ble_eq_true rfl) hn) dX12_next_205 rfl hl.1 (ar := 2) (by decide +kernel) rfl ⟨Nat.le_of_ble_eq_true rfl, Nat.le_of_ble_eq_true rfl, Nat.le_of_ble_eq_true rfl, Nat.le_of_ble_eq_true rfl⟩ (Nat.le_of_ble_eq_true rfl) (fun rv uu H locs hp hG => ?_)
              obtain ⟨rfl, rfl⟩ := hp
              replace hG : gW D cy b n s H locs (enc b cy X S_6) := hG
              obtain ⟨hg_32, hM⟩ := gd_some hM
              refine gi_if_eq (tgt := 215) hx hb dX12_next_208 (by decide) hg_32 (fun c_33 => ?_) (fun c_33 => ?_)
              · replace hM := ifp hM c_33
                refine lv_iconst (v := iI 4) hx hb dX12_next_215 (by decide) ?_
                cases hM
                exact hK_21 H locs ls hG (lv_sub hl [0] rfl)
              · replace hM := ifn hM c_33
                refine lv_iconst (v := iI 3) hx hb dX12_next_211 (by decide) ?_
                refine lv_goto (tgt := 216) hx hb dX12_next_212 (by decide) ?_
                cases hM
                exact hK_21 H locs ls hG (lv_sub hl [0] rfl)
        · replace hM := ifn hM c_16
          refine lv_aload_n hx hb dX12_next_118 rfl (lv_at hl 0 rfl) ?_
          refine lv_iconst (v := iI 2) hx hb dX12_next_119 (by decide) ?_
          refine m_put S hG 80 83 8 rfl 8 2 ec_83 cpX12 wm_1681 dX12_next_120 (pf_83_8) (Nat.lt_of_lt_of_le (Nat.le_of_ble_eq_true rfl) hn) (by decide) (Nat.le_of_ble_eq_true rfl) rfl rfl rfl (fun H locs S_34 eS_34 hG => ?_)
          replace hM := nx_at hM eS_34
          clear eS_34
          obtain ⟨S_36, hc_37, hM⟩ := bd1_some hM
          have hK_38 : ∀ (H : Heap) (locs : List Loc) (ls : Array Slot), gW D cy b n s H locs (enc b cy X S_36) → lv_has ls 1 [] → W p l e (gRm 2 0 0) s m args below meth c H locs 0 0 (gQV D cy b s args below 0 0 (fun u => u = (n, enc b cy X o1))) (F0 m 229 ls []) := by
            intro H locs ls hG hl
            cases hM
            exact g_vret S hr hlk hG hsz dX12_next_229 ⟨Nat.le_of_ble_eq_true rfl, Nat.le_of_ble_eq_true rfl⟩ rfl
          have loop_39 : ∀ (f : Nat)  (S_35 : St) (H : Heap) (locs : List Loc) (ls : Array Slot), mX12_next_123 f S_35 = some S_36 → gW D cy b n s H locs (enc b cy X S_35) → lv_has ls 1 [(0, .ref (b + 80))] → W p l e (gRm 2 0 0) s m args below meth c H locs 0 0 (gQV D cy b s args below 0 0 (fun u => u = (n, enc b cy X o1))) (F0 m 123 ls []) := by
            clear hM
            intro f
            induction f with
            | zero => intro  S_35 H locs ls hM; rw [mX12_next_123] at hM; cases hM
            | succ f_41 ih_40 =>
              intro  S_35 H locs ls hM hG hl
              rw [mX12_next_123] at hM
              refine lv_aload_n hx hb dX12_next_123 rfl (lv_at hl 0 rfl) ?_
              refine lv_bipush (v := iI 48) hx hb dX12_next_124 (by decide) ?_
              refine lv_bipush (v := iI 57) hx hb dX12_next_126 (by decide) ?_
              obtain ⟨r_43, hc_42, hM⟩ := bd1_some hM
              refine g_vi (As := [.int (iI 48), .int (iI 57)]) (rest := []) S hG hsz (vX12_isAt l hn 48 57 hc_42) wV_12_104 (ec_83 _) cpX12 (Nat.lt_of_lt_of_le (Nat.le_of_ble_eq_true rfl) hn) dX12_next_128 rfl hl.1 (ar := 2) (by decide +kernel) rfl ⟨Nat.le_of_ble_eq_true rfl, Nat.le_of_ble_eq_true rfl, Nat.le_of_ble_eq_true rfl, Nat.le_of_ble_eq_true rfl⟩ (Nat.le_of_ble_eq_true rfl) (fun rv uu H locs hp hG => ?_)
              obtain ⟨rfl, rfl⟩ := hp
              replace hG : gW D cy b n s H locs (enc b cy X S_35) := hG
              obtain ⟨hg_44, hM⟩ := gd_some hM
              refine gi_if_eq (tgt := 229) hx hb dX12_next_131 (by decide) hg_44 (fun c_45 => ?_) (fun c_45 => ?_)
              · replace hM := ifp hM c_45
                cases hM
                exact hK_38 H locs ls hG (lv_sub hl [] rfl)
              · replace hM := ifn hM c_45
                refine lv_aload_n hx hb dX12_next_134 rfl (lv_at hl 0 rfl) ?_
                refine lv_sipush (v := iI 9999) hx hb dX12_next_135 (by decide) ?_
                refine lv_bipush (v := iI 10) hx hb dX12_next_138 (by decide) ?_
                refine lv_aload_n hx hb dX12_next_140 rfl (lv_at hl 0 rfl) ?_
                refine m_get S hG 80 83 9 rfl ec_83 cpX12 wm_1682 dX12_next_141 rfl (Nat.lt_of_lt_of_le (Nat.le_of_ble_eq_true rfl) hn) (by decide) ?_
                refine gi_mul hx hb dX12_next_144 ?_
                refine lv_aload_n hx hb dX12_next_145 rfl (lv_at hl 0 rfl) ?_
                refine m_get S hG 80 83 2 rfl ec_83 cpX12 wm_1675 dX12_next_146 rfl (Nat.lt_of_lt_of_le (Nat.le_of_ble_eq_true rfl) hn) (by decide) ?_
                refine lv_aload_n hx hb dX12_next_149 rfl (lv_at hl 0 rfl) ?_
                refine m_get S hG 80 83 6 rfl ec_83 cpX12 wm_1679 dX12_next_150 rfl (Nat.lt_of_lt_of_le (Nat.le_of_ble_eq_true rfl) hn) (by decide) ?_
                obtain ⟨hg_46, hM⟩ := gd_some hM
                refine mi_ald S hG 83 86 rfl ec_86 (Nat.lt_of_lt_of_le (Nat.le_of_ble_eq_true rfl) hn) dX12_next_153 hg_46 (by decide) ?_
                refine gi_add hx hb dX12_next_154 ?_
                refine lv_bipush (v := iI 48) hx hb dX12_next_155 (by decide) ?_
                refine gi_sub hx hb dX12_next_157 ?_
                obtain ⟨hg_47, hM⟩ := gd_some hM
                refine gi_min S wm_1854 wm_761 wm_190 wm_762 hl.1 dX12_next_158 ⟨Nat.le_of_ble_eq_true rfl, Nat.le_of_ble_eq_true rfl, Nat.le_of_ble_eq_true rfl, Nat.le_of_ble_eq_true rfl⟩ (by decide) hg_47 ?_
                refine m_put S hG 80 83 9 rfl 9 (min 9999 (((10 * (S_35 83 9)) + (S_35 86 (S_35 83 6))) - 48)) ec_83 cpX12 wm_1682 dX12_next_161 (pf_83_9) (Nat.lt_of_lt_of_le (Nat.le_of_ble_eq_true rfl) hn) (by decide) (Nat.le_of_ble_eq_true rfl) rfl rfl rfl (fun H locs S_48 eS_48 hG => ?_)
                replace hM := nx_at hM eS_48
                clear eS_48
                refine lv_aload_n hx hb dX12_next_164 rfl (lv_at hl 0 rfl) ?_
                refine lv_dup hx hb dX12_next_165 rfl ?_
                refine m_get S hG 80 83 6 rfl ec_83 cpX12 wm_1679 dX12_next_166 rfl (Nat.lt_of_lt_of_le (Nat.le_of_ble_eq_true rfl) hn) (by decide) ?_
                refine lv_iconst (v := iI 1) hx hb dX12_next_169 (by decide) ?_
                refine gi_add hx hb dX12_next_170 ?_
                refine m_put S hG 80 83 6 rfl 6 ((S_48 83 6) + 1) ec_83 cpX12 wm_1679 dX12_next_171 (pf_83_6) (Nat.lt_of_lt_of_le (Nat.le_of_ble_eq_true rfl) hn) (by decide) (Nat.le_of_ble_eq_true rfl) rfl rfl rfl (fun H locs S_49 eS_49 hG => ?_)
                replace hM := nx_at hM eS_49
                clear eS_49
                refine lv_goto (tgt := 123) hx hb dX12_next_174 (by decide) ?_
                exact ih_40  S_49 H locs ls hM hG (lv_sub hl [0] rfl)
          exact loop_39 FU  S_34 H locs ls hc_37 hG (lv_sub hl [0] rfl)
      · replace hM := ifn hM c_12
        refine lv_aload_n hx hb dX12_next_78 rfl (lv_at hl 0 rfl) ?_
        refine lv_iconst (v := iI 1) hx hb dX12_next_79 (by decide) ?_
        refine m_put S hG 80 83 8 rfl 8 1 ec_83 cpX12 wm_1681 dX12_next_80 (pf_83_8) (Nat.lt_of_lt_of_le (Nat.le_of_ble_eq_true rfl) hn) (by decide) (Nat.le_of_ble_eq_true rfl) rfl rfl rfl (fun H locs S_50 eS_50 hG => ?_)
        replace hM := nx_at hM eS_50
        clear eS_50
        obtain ⟨S_52, hc_53, hM⟩ := bd1_some hM
        have hK_54 : ∀ (H : Heap) (locs : List Loc) (ls : Array Slot), gW D cy b n s H locs (enc b cy X S_52) → lv_has ls 1 [] → W p l e (gRm 2 0 0) s m args below meth c H locs 0 0 (gQV D cy b s args below 0 0 (fun u => u = (n, enc b cy X o1))) (F0 m 229 ls []) := by
          intro H locs ls hG hl
          cases hM
          exact g_vret S hr hlk hG hsz dX12_next_229 ⟨Nat.le_of_ble_eq_true rfl, Nat.le_of_ble_eq_true rfl⟩ rfl
        have loop_55 : ∀ (f : Nat)  (S_51 : St) (H : Heap) (locs : List Loc) (ls : Array Slot), mX12_next_83 f S_51 = some S_52 → gW D cy b n s H locs (enc b cy X S_51) → lv_has ls 1 [(0, .ref (b + 80))] → W p l e (gRm 2 0 0) s m args below meth c H locs 0 0 (gQV D cy b s args below 0 0 (fun u => u = (n, enc b cy X o1))) (F0 m 83 ls []) := by
          clear hM
          intro f
          induction f with
          | zero => intro  S_51 H locs ls hM; rw [mX12_next_83] at hM; cases hM
          | succ f_57 ih_56 =>
            intro  S_51 H locs ls hM hG hl
            rw [mX12_next_83] at hM
            refine lv_aload_n hx hb dX12_next_83 rfl (lv_at hl 0 rfl) ?_
            refine lv_bipush (v := iI 97) hx hb dX12_next_84 (by decide) ?_
            refine lv_bipush (v := iI 122) hx hb dX12_next_86 (by decide) ?_
            obtain ⟨r_59, hc_58, hM⟩ := bd1_some hM
            refine g_vi (As := [.int (iI 97), .int (iI 122)]) (rest := []) S hG hsz (vX12_isAt l hn 97 122 hc_58) wV_12_104 (ec_83 _) cpX12 (Nat.lt_of_lt_of_le (Nat.le_of_ble_eq_true rfl) hn) dX12_next_88 rfl hl.1 (ar := 2) (by decide +kernel) rfl ⟨Nat.le_of_ble_eq_true rfl, Nat.le_of_ble_eq_true rfl, Nat.le_of_ble_eq_true rfl, Nat.le_of_ble_eq_true rfl⟩ (Nat.le_of_ble_eq_true rfl) (fun rv uu H locs hp hG => ?_)
            obtain ⟨rfl, rfl⟩ := hp
            replace hG : gW D cy b n s H locs (enc b cy X S_51) := hG
            obtain ⟨hg_60, hM⟩ := gd_some hM
            refine gi_if_eq (tgt := 229) hx hb dX12_next_91 (by decide) hg_60 (fun c_61 => ?_) (fun c_61 => ?_)
            · replace hM := ifp hM c_61
              cases hM
              exact hK_54 H locs ls hG (lv_sub hl [] rfl)
            · replace hM := ifn hM c_61
              refine lv_aload_n hx hb dX12_next_94 rfl (lv_at hl 0 rfl) ?_
              refine lv_dup hx hb dX12_next_95 rfl ?_
              refine m_get S hG 80 83 6 rfl ec_83 cpX12 wm_1679 dX12_next_96 rfl (Nat.lt_of_lt_of_le (Nat.le_of_ble_eq_true rfl) hn) (by decide) ?_
              refine lv_iconst (v := iI 1) hx hb dX12_next_99 (by decide) ?_
              refine gi_add hx hb dX12_next_100 ?_
              refine m_put S hG 80 83 6 rfl 6 ((S_51 83 6) + 1) ec_83 cpX12 wm_1679 dX12_next_101 (pf_83_6) (Nat.lt_of_lt_of_le (Nat.le_of_ble_eq_true rfl) hn) (by decide) (Nat.le_of_ble_eq_true rfl) rfl rfl rfl (fun H locs S_62 eS_62 hG => ?_)
              replace hM := nx_at hM eS_62
              clear eS_62
              refine lv_goto (tgt := 83) hx hb dX12_next_104 (by decide) ?_
              exact ih_56  S_62 H locs ls hM hG (lv_sub hl [0] rfl)
        exact loop_55 FU  S_50 H locs ls hc_53 hG (lv_sub hl [0] rfl)
    · replace hM := ifp hM c_8
      refine lv_aload_n hx hb dX12_next_59 rfl (lv_at hl 0 rfl) ?_
      refine lv_iconst (v := iI 0) hx hb dX12_next_60 (by decide) ?_
      refine m_put S hG 80 83 8 rfl 8 0 ec_83 cpX12 wm_1681 dX12_next_61 (pf_83_8) (Nat.lt_of_lt_of_le (Nat.le_of_ble_eq_true rfl) hn) (by decide) (Nat.le_of_ble_eq_true rfl) rfl rfl rfl (fun H locs S_63 eS_63 hG => ?_)
      replace hM := nx_at hM eS_63
      clear eS_63
      refine lv_goto (tgt := 229) hx hb dX12_next_64 (by decide) ?_
      cases hM
      exact g_vret S hr hlk hG hsz dX12_next_229 ⟨Nat.le_of_ble_eq_true rfl, Nat.le_of_ble_eq_true rfl⟩ rfl
  have loop_64 : ∀ (f : Nat)  (S_1 : St) (H : Heap) (locs : List Loc) (ls : Array Slot), mX12_next_0 f S_1 = some S_2 → gW D cy b n s H locs (enc b cy X S_1) → lv_has ls 1 [(0, .ref (b + 80))] → W p l e (gRm 2 0 0) s m args below meth c H locs 0 0 (gQV D cy b s args below 0 0 (fun u => u = (n, enc b cy X o1))) (F0 m 0 ls []) := by
    clear hM
    intro f
    induction f with
    | zero => intro  S_1 H locs ls hM; rw [mX12_next_0] at hM; cases hM
    | succ f_66 ih_65 =>
      intro  S_1 H locs ls hM hG hl
      rw [mX12_next_0] at hM
      refine lv_aload_n hx hb dX12_next_0 rfl (lv_at hl 0 rfl) ?_
      refine lv_bipush (v := iI 32) hx hb dX12_next_1 (by decide) ?_
      refine lv_bipush (v := iI 32) hx hb dX12_next_3 (by decide) ?_
      obtain ⟨r_68, hc_67, hM⟩ := bd1_some hM
      refine g_vi (As := [.int (iI 32), .int (iI 32)]) (rest := []) S hG hsz (vX12_isAt l hn 32 32 hc_67) wV_12_104 (ec_83 _) cpX12 (Nat.lt_of_lt_of_le (Nat.le_of_ble_eq_true rfl) hn) dX12_next_5 rfl hl.1 (ar := 2) (by decide +kernel) rfl ⟨Nat.le_of_ble_eq_true rfl, Nat.le_of_ble_eq_true rfl, Nat.le_of_ble_eq_true rfl, Nat.le_of_ble_eq_true rfl⟩ (Nat.le_of_ble_eq_true rfl) (fun rv uu H locs hp hG => ?_)
      obtain ⟨rfl, rfl⟩ := hp
      replace hG : gW D cy b n s H locs (enc b cy X S_1) := hG
      obtain ⟨t_69, hc_70, hM⟩ := bd1_some hM
      have hK_71 : ∀ (H : Heap) (locs : List Loc) (ls : Array Slot), t_69 = 0 → gW D cy b n s H locs (enc b cy X S_1) → lv_has ls 1 [(0, .ref (b + 80))] → W p l e (gRm 2 0 0) s m args below meth c H locs 0 0 (gQV D cy b s args below 0 0 (fun u => u = (n, enc b cy X o1))) (F0 m 22 ls []) := by
        intro H locs ls ht hG hl
        subst ht
        replace hM := ifp hM rfl
        refine lv_aload_n hx hb dX12_next_22 rfl (lv_at hl 0 rfl) ?_
        refine lv_dup hx hb dX12_next_23 rfl ?_
        refine m_get S hG 80 83 6 rfl ec_83 cpX12 wm_1679 dX12_next_24 rfl (Nat.lt_of_lt_of_le (Nat.le_of_ble_eq_true rfl) hn) (by decide) ?_
        refine lv_iconst (v := iI 1) hx hb dX12_next_27 (by decide) ?_
        refine gi_add hx hb dX12_next_28 ?_
        refine m_put S hG 80 83 6 rfl 6 ((S_1 83 6) + 1) ec_83 cpX12 wm_1679 dX12_next_29 (pf_83_6) (Nat.lt_of_lt_of_le (Nat.le_of_ble_eq_true rfl) hn) (by decide) (Nat.le_of_ble_eq_true rfl) rfl rfl rfl (fun H locs S_72 eS_72 hG => ?_)
        replace hM := nx_at hM eS_72
        clear eS_72
        refine lv_goto (tgt := 0) hx hb dX12_next_32 (by decide) ?_
        exact ih_65  S_72 H locs ls hM hG (lv_sub hl [0] rfl)
      have hK_73 : ∀ (H : Heap) (locs : List Loc) (ls : Array Slot), t_69 = 1 → gW D cy b n s H locs (enc b cy X S_1) → lv_has ls 1 [(0, .ref (b + 80))] → W p l e (gRm 2 0 0) s m args below meth c H locs 0 0 (gQV D cy b s args below 0 0 (fun u => u = (n, enc b cy X o1))) (F0 m 35 ls []) := by
        intro H locs ls ht hG hl
        subst ht
        replace hM := ifn hM (by decide)
        cases hM
        exact hK_4 H locs ls hG (lv_sub hl [0] rfl)
      clear hM
      replace hM := hc_70
      obtain ⟨hg_74, hM⟩ := gd_some hM
      refine gi_if_ne (tgt := 22) hx hb dX12_next_8 (by decide) hg_74 (fun c_75 => ?_) (fun c_75 => ?_)
      · replace hM := ifn hM c_75
        cases hM
        exact hK_71 H locs ls rfl hG (lv_sub hl [0] rfl)
      · replace hM := ifp hM c_75
        refine lv_aload_n hx hb dX12_next_11 rfl (lv_at hl 0 rfl) ?_
        refine lv_bipush (v := iI 10) hx hb dX12_next_12 (by decide) ?_
        refine lv_bipush (v := iI 10) hx hb dX12_next_14 (by decide) ?_
        obtain ⟨r_77, hc_76, hM⟩ := bd1_some hM
        refine g_vi (As := [.int (iI 10), .int (iI 10)]) (rest := []) S hG hsz (vX12_isAt l hn 10 10 hc_76) wV_12_104 (ec_83 _) cpX12 (Nat.lt_of_lt_of_le (Nat.le_of_ble_eq_true rfl) hn) dX12_next_16 rfl hl.1 (ar := 2) (by decide +kernel) rfl ⟨Nat.le_of_ble_eq_true rfl, Nat.le_of_ble_eq_true rfl, Nat.le_of_ble_eq_true rfl, Nat.le_of_ble_eq_true rfl⟩ (Nat.le_of_ble_eq_true rfl) (fun rv uu H locs hp hG => ?_)
        obtain ⟨rfl, rfl⟩ := hp
        replace hG : gW D cy b n s H locs (enc b cy X S_1) := hG
        obtain ⟨hg_78, hM⟩ := gd_some hM
        refine gi_if_eq (tgt := 35) hx hb dX12_next_19 (by decide) hg_78 (fun c_79 => ?_) (fun c_79 => ?_)
        · replace hM := ifp hM c_79
          cases hM
          exact hK_73 H locs ls rfl hG (lv_sub hl [0] rfl)
        · replace hM := ifn hM c_79
          cases hM
          exact hK_71 H locs ls rfl hG (lv_sub hl [0] rfl)
  exact loop_64 FU  S0 H locs ls hc_3 hG (lv_sub hl [0] rfl)
def mX12_faults (S0 : St) (a1 : Int) : Option (Int × St) := gd (inI (S0 83 10)) <| if (S0 83 10) = 0 then (nx (up S0 83 10 1) fun S_3 => nx (up S_3 83 4 a1) fun S_4 => nx (up S_4 83 5 (S_4 83 7)) fun S_5 => some ((-1), S_5)) else (some ((-1), S0))
set_option maxHeartbeats 4000000 in
set_option maxRecDepth 100000 in
theorem vX12_faults (l : Launch) {D : va_G} {cy : Nat → ClassId} {b n : Nat} (hn : 102 ≤ n) {X : Nat → va_E} {S0 : St} (a1 : Int) {o1 : Int} {o2 : St} (hM : mX12_faults S0 a1 = some (o1, o2)) : gI l yX12_faults cX12_faults 2 (some .int) 0 0 0 D cy b n (enc b cy X S0) [.ref (b + 80), .int (iI a1)] (fun r u => r = iI o1 ∧ u = (n, enc b cy X o2)) := by
  refine gI_of (by decide) (Nat.le_of_ble_eq_true rfl) ?_
  intro p e s m args below meth c S hr hlk hin hsz ls hl hG
  have hx := S.1
  have hb := S.2.1
  have hl : lv_has ls 2 [(0, .ref (b + 80)), (1, .int (iI a1))] := hl
  replace hG : gW D cy b n s s.heap [] (enc b cy X S0) := hG
  obtain ⟨H, eH⟩ : ∃ H, H = s.heap := ⟨_, rfl⟩
  obtain ⟨locs, elocs⟩ : ∃ locs : List Loc, locs = [] := ⟨_, rfl⟩
  rw [← eH, ← elocs] at hG
  rw [← eH, ← elocs]
  clear eH elocs
  unfold mX12_faults at hM
  refine lv_aload_n hx hb dX12_faults_0 rfl (lv_at hl 0 rfl) ?_
  refine m_get S hG 80 83 10 rfl ec_83 cpX12 wm_1683 dX12_faults_1 rfl (Nat.lt_of_lt_of_le (Nat.le_of_ble_eq_true rfl) hn) (by decide) ?_
  obtain ⟨hg_1, hM⟩ := gd_some hM
  refine gi_if_ne (tgt := 25) hx hb dX12_faults_4 (by decide) hg_1 (fun c_2 => ?_) (fun c_2 => ?_)
  · replace hM := ifn hM c_2
    refine lv_iconst (v := iI (-1)) hx hb dX12_faults_25 (by decide) ?_
    cases hM
    exact g_iret S hr hlk hG hsz dX12_faults_26 ⟨Nat.le_of_ble_eq_true rfl, Nat.le_of_ble_eq_true rfl⟩ ⟨rfl, rfl⟩
  · replace hM := ifp hM c_2
    refine lv_aload_n hx hb dX12_faults_7 rfl (lv_at hl 0 rfl) ?_
    refine lv_iconst (v := iI 1) hx hb dX12_faults_8 (by decide) ?_
    refine m_put S hG 80 83 10 rfl 10 1 ec_83 cpX12 wm_1683 dX12_faults_9 (pf_83_10) (Nat.lt_of_lt_of_le (Nat.le_of_ble_eq_true rfl) hn) (by decide) (Nat.le_of_ble_eq_true rfl) rfl rfl rfl (fun H locs S_3 eS_3 hG => ?_)
    replace hM := nx_at hM eS_3
    clear eS_3
    refine lv_aload_n hx hb dX12_faults_12 rfl (lv_at hl 0 rfl) ?_
    refine lv_iload_n hx hb dX12_faults_13 rfl (lv_at hl 1 rfl) ?_
    refine m_put S hG 80 83 4 rfl 4 a1 ec_83 cpX12 wm_1677 dX12_faults_14 (pf_83_4) (Nat.lt_of_lt_of_le (Nat.le_of_ble_eq_true rfl) hn) (by decide) (Nat.le_of_ble_eq_true rfl) rfl rfl rfl (fun H locs S_4 eS_4 hG => ?_)
    replace hM := nx_at hM eS_4
    clear eS_4
    refine lv_aload_n hx hb dX12_faults_17 rfl (lv_at hl 0 rfl) ?_
    refine lv_aload_n hx hb dX12_faults_18 rfl (lv_at hl 0 rfl) ?_
    refine m_get S hG 80 83 7 rfl ec_83 cpX12 wm_1680 dX12_faults_19 rfl (Nat.lt_of_lt_of_le (Nat.le_of_ble_eq_true rfl) hn) (by decide) ?_
    refine m_put S hG 80 83 5 rfl 5 (S_4 83 7) ec_83 cpX12 wm_1678 dX12_faults_22 (pf_83_5) (Nat.lt_of_lt_of_le (Nat.le_of_ble_eq_true rfl) hn) (by decide) (Nat.le_of_ble_eq_true rfl) rfl rfl rfl (fun H locs S_5 eS_5 hG => ?_)
    replace hM := nx_at hM eS_5
    clear eS_5
    refine lv_iconst (v := iI (-1)) hx hb dX12_faults_25 (by decide) ?_
    cases hM
    exact g_iret S hr hlk hG hsz dX12_faults_26 ⟨Nat.le_of_ble_eq_true rfl, Nat.le_of_ble_eq_true rfl⟩ ⟨rfl, rfl⟩
def mX12_named_46 (S0 : St) (v_1 : Int) : Nat → Int → Int → Option (Int)
  | 0, _, _ => none
  | f + 1, v_15, v_16 => gd (0 ≤ v_1 ∧ v_1 < 6) <| gd ((inI v_15) ∧ (inI (S0 88 v_1))) <| if (S0 88 v_1) ≤ v_15 then (some (v_16)) else (gd (inI v_16) <| if v_16 = 0 then (some (v_16)) else (gd (0 ≤ ((S0 83 7) + v_15) ∧ ((S0 83 7) + v_15) < 400) <| gd (0 ≤ ((8 * v_1) + v_15) ∧ ((8 * v_1) + v_15) < 48) <| gd ((inI (S0 86 ((S0 83 7) + v_15))) ∧ (inI (S0 87 ((8 * v_1) + v_15)))) <| if (S0 86 ((S0 83 7) + v_15)) = (S0 87 ((8 * v_1) + v_15)) then (mX12_named_46 S0 v_1 f (v_15 + 1) 1) else (mX12_named_46 S0 v_1 f (v_15 + 1) 0)))
def mX12_named_2 (S0 : St)  : Nat → Int → Option (Int × Int)
  | 0, _ => none
  | f + 1, v_1 => gd ((inI v_1) ∧ (inI (S0 84 0))) <| if (S0 84 0) ≤ v_1 then (some (1, v_1)) else (bd1 (gd (inI (S0 83 8)) <| if (S0 83 8) = 1 then (gd (0 ≤ v_1 ∧ v_1 < 6) <| gd ((inI ((S0 83 6) - (S0 83 7))) ∧ (inI (S0 88 v_1))) <| if ((S0 83 6) - (S0 83 7)) = (S0 88 v_1) then (some (1)) else (some (0))) else (some (0))) fun z_12 => bd1 (mX12_named_46 S0 v_1 FU 0 z_12) fun y_17 => gd (inI y_17) <| if y_17 = 0 then (mX12_named_2 S0 f (v_1 + 1)) else (some (0, v_1)))
def mX12_named (S0 : St)  : Option (Int) := bd2 (mX12_named_2 S0 FU 0) fun t_2 y_3 => if t_2 = 0 then (some (y_3)) else (some ((-1)))
set_option maxHeartbeats 4000000 in
set_option maxRecDepth 100000 in
theorem vX12_named (l : Launch) {D : va_G} {cy : Nat → ClassId} {b n : Nat} (hn : 102 ≤ n) {X : Nat → va_E} {S0 : St}  {o1 : Int} (hM : mX12_named S0  = some o1) : gI l yX12_named cX12_named 4 (some .int) 0 0 0 D cy b n (enc b cy X S0) [.ref (b + 80)] (fun r u => r = iI o1 ∧ u = (n, enc b cy X S0)) := by
  refine gI_of (by decide) (Nat.le_of_ble_eq_true rfl) ?_
  intro p e s m args below meth c S hr hlk hin hsz ls hl hG
  have hx := S.1
  have hb := S.2.1
  have hl : lv_has ls 4 [(0, .ref (b + 80))] := hl
  replace hG : gW D cy b n s s.heap [] (enc b cy X S0) := hG
  obtain ⟨H, eH⟩ : ∃ H, H = s.heap := ⟨_, rfl⟩
  obtain ⟨locs, elocs⟩ : ∃ locs : List Loc, locs = [] := ⟨_, rfl⟩
  rw [← eH, ← elocs] at hG
  rw [← eH, ← elocs]
  clear eH elocs
  unfold mX12_named at hM
  refine lv_iconst (v := iI 0) hx hb dX12_named_0 (by decide) ?_
  refine lv_istore_n (lv' := [(1, .int (iI 0)), (0, .ref (b + 80))]) hx hb dX12_named_1 rfl hl (by decide) rfl (fun ls hl => ?_)
  obtain ⟨t_2, y_3, hc_4, hM⟩ := bd2_some hM
  have hK_5 : ∀ (H : Heap) (locs : List Loc) (ls : Array Slot), t_2 = 0 → gW D cy b n s H locs (enc b cy X S0) → lv_has ls 4 [(1, .int (iI y_3))] → W p l e (gRm 0 0 0) s m args below meth c H locs 0 0 (gQI D cy b s args below 0 0 (fun r u => r = iI o1 ∧ u = (n, enc b cy X S0))) (F0 m 101 ls []) := by
    intro H locs ls ht hG hl
    subst ht
    replace hM := ifp hM rfl
    refine lv_iload_n hx hb dX12_named_101 rfl (lv_at hl 0 rfl) ?_
    cases hM
    exact g_iret S hr hlk hG hsz dX12_named_102 ⟨Nat.le_of_ble_eq_true rfl, Nat.le_of_ble_eq_true rfl⟩ ⟨rfl, rfl⟩
  have hK_6 : ∀ (H : Heap) (locs : List Loc) (ls : Array Slot), t_2 = 1 → gW D cy b n s H locs (enc b cy X S0) → lv_has ls 4 [] → W p l e (gRm 0 0 0) s m args below meth c H locs 0 0 (gQI D cy b s args below 0 0 (fun r u => r = iI o1 ∧ u = (n, enc b cy X S0))) (F0 m 109 ls []) := by
    intro H locs ls ht hG hl
    subst ht
    replace hM := ifn hM (by decide)
    refine lv_iconst (v := iI (-1)) hx hb dX12_named_109 (by decide) ?_
    cases hM
    exact g_iret S hr hlk hG hsz dX12_named_110 ⟨Nat.le_of_ble_eq_true rfl, Nat.le_of_ble_eq_true rfl⟩ ⟨rfl, rfl⟩
  have loop_7 : ∀ (f : Nat) (v_1 : Int) (H : Heap) (locs : List Loc) (ls : Array Slot), mX12_named_2 S0 f v_1 = some (t_2, y_3) → gW D cy b n s H locs (enc b cy X S0) → lv_has ls 4 [(1, .int (iI v_1)), (0, .ref (b + 80))] → W p l e (gRm 0 0 0) s m args below meth c H locs 0 0 (gQI D cy b s args below 0 0 (fun r u => r = iI o1 ∧ u = (n, enc b cy X S0))) (F0 m 2 ls []) := by
    clear hM
    intro f
    induction f with
    | zero => intro v_1 H locs ls hM; rw [mX12_named_2] at hM; cases hM
    | succ f_9 ih_8 =>
      intro v_1 H locs ls hM hG hl
      rw [mX12_named_2] at hM
      refine lv_iload_n hx hb dX12_named_2 rfl (lv_at hl 0 rfl) ?_
      refine lv_aload_n hx hb dX12_named_3 rfl (lv_at hl 1 rfl) ?_
      refine m_get S hG 80 83 0 rfl ec_83 cpX12 wm_1673 dX12_named_4 rfl (Nat.lt_of_lt_of_le (Nat.le_of_ble_eq_true rfl) hn) (by decide) ?_
      refine lv_iconst (v := iI 0) hx hb dX12_named_7 (by decide) ?_
      refine mi_ald S hG 81 84 rfl ec_84 (Nat.lt_of_lt_of_le (Nat.le_of_ble_eq_true rfl) hn) dX12_named_8 (by decide) (by decide) ?_
      obtain ⟨hg_10, hM⟩ := gd_some hM
      refine gi_icmp_ge (tgt := 109) hx hb dX12_named_9 (by decide) hg_10.1 hg_10.2 (fun c_11 => ?_) (fun c_11 => ?_)
      · replace hM := ifp hM c_11
        cases hM
        exact hK_6 H locs ls rfl hG (lv_sub hl [] rfl)
      · replace hM := ifn hM c_11
        refine lv_aload_n hx hb dX12_named_12 rfl (lv_at hl 1 rfl) ?_
        refine m_get S hG 80 83 8 rfl ec_83 cpX12 wm_1681 dX12_named_13 rfl (Nat.lt_of_lt_of_le (Nat.le_of_ble_eq_true rfl) hn) (by decide) ?_
        refine lv_iconst (v := iI 1) hx hb dX12_named_16 (by decide) ?_
        obtain ⟨z_12, hc_13, hM⟩ := bd1_some hM
        have hK_14 : ∀ (H : Heap) (locs : List Loc) (ls : Array Slot), gW D cy b n s H locs (enc b cy X S0) → lv_has ls 4 [(1, .int (iI v_1)), (0, .ref (b + 80))] → W p l e (gRm 0 0 0) s m args below meth c H locs 0 0 (gQI D cy b s args below 0 0 (fun r u => r = iI o1 ∧ u = (n, enc b cy X S0))) (F0 m 43 ls [.int (iI z_12)]) := by
          intro H locs ls hG hl
          refine lv_istore_n (lv' := [(2, .int (iI z_12)), (1, .int (iI v_1)), (0, .ref (b + 80))]) hx hb dX12_named_43 rfl hl (by decide) rfl (fun ls hl => ?_)
          refine lv_iconst (v := iI 0) hx hb dX12_named_44 (by decide) ?_
          refine lv_istore_n (lv' := [(3, .int (iI 0)), (2, .int (iI z_12)), (1, .int (iI v_1)), (0, .ref (b + 80))]) hx hb dX12_named_45 rfl hl (by decide) rfl (fun ls hl => ?_)
          obtain ⟨y_17, hc_18, hM⟩ := bd1_some hM
          have hK_19 : ∀ (H : Heap) (locs : List Loc) (ls : Array Slot), gW D cy b n s H locs (enc b cy X S0) → lv_has ls 4 [(1, .int (iI v_1)), (0, .ref (b + 80)), (2, .int (iI y_17))] → W p l e (gRm 0 0 0) s m args below meth c H locs 0 0 (gQI D cy b s args below 0 0 (fun r u => r = iI o1 ∧ u = (n, enc b cy X S0))) (F0 m 97 ls []) := by
            intro H locs ls hG hl
            refine lv_iload_n hx hb dX12_named_97 rfl (lv_at hl 2 rfl) ?_
            obtain ⟨hg_20, hM⟩ := gd_some hM
            refine gi_if_eq (tgt := 103) hx hb dX12_named_98 (by decide) hg_20 (fun c_21 => ?_) (fun c_21 => ?_)
            · replace hM := ifp hM c_21
              refine lv_iinc (v := iI (v_1 + 1)) (lv' := [(1, .int (iI (v_1 + 1))), (0, .ref (b + 80)), (2, .int (iI y_17))]) hx hb dX12_named_103 hl (k := 0) rfl ((iI_add v_1 (1)).trans (congrArg iI (by omega))) (by decide) rfl (fun ls hl => ?_)
              refine lv_goto (tgt := 2) hx hb dX12_named_106 (by decide) ?_
              exact ih_8 (v_1 + 1) H locs ls hM hG (lv_sub hl [0, 1] rfl)
            · replace hM := ifn hM c_21
              cases hM
              exact hK_5 H locs ls rfl hG (lv_sub hl [0] rfl)
          have loop_22 : ∀ (f : Nat) (v_15 : Int) (v_16 : Int) (H : Heap) (locs : List Loc) (ls : Array Slot), mX12_named_46 S0 v_1 f v_15 v_16 = some y_17 → gW D cy b n s H locs (enc b cy X S0) → lv_has ls 4 [(3, .int (iI v_15)), (2, .int (iI v_16)), (1, .int (iI v_1)), (0, .ref (b + 80))] → W p l e (gRm 0 0 0) s m args below meth c H locs 0 0 (gQI D cy b s args below 0 0 (fun r u => r = iI o1 ∧ u = (n, enc b cy X S0))) (F0 m 46 ls []) := by
            clear hM
            intro f
            induction f with
            | zero => intro v_15 v_16 H locs ls hM; rw [mX12_named_46] at hM; cases hM
            | succ f_24 ih_23 =>
              intro v_15 v_16 H locs ls hM hG hl
              rw [mX12_named_46] at hM
              refine lv_iload_n hx hb dX12_named_46 rfl (lv_at hl 0 rfl) ?_
              refine lv_aload_n hx hb dX12_named_47 rfl (lv_at hl 3 rfl) ?_
              refine m_get S hG 80 83 12 rfl ec_83 cpX12 wm_1685 dX12_named_48 rfl (Nat.lt_of_lt_of_le (Nat.le_of_ble_eq_true rfl) hn) (by decide) ?_
              refine lv_iload_n hx hb dX12_named_51 rfl (lv_at hl 2 rfl) ?_
              obtain ⟨hg_25, hM⟩ := gd_some hM
              refine mi_ald S hG 85 88 rfl ec_88 (Nat.lt_of_lt_of_le (Nat.le_of_ble_eq_true rfl) hn) dX12_named_52 hg_25 (by decide) ?_
              obtain ⟨hg_26, hM⟩ := gd_some hM
              refine gi_icmp_ge (tgt := 97) hx hb dX12_named_53 (by decide) hg_26.1 hg_26.2 (fun c_27 => ?_) (fun c_27 => ?_)
              · replace hM := ifp hM c_27
                cases hM
                exact hK_19 H locs ls hG (lv_sub hl [2, 3, 1] rfl)
              · replace hM := ifn hM c_27
                refine lv_iload_n hx hb dX12_named_56 rfl (lv_at hl 1 rfl) ?_
                obtain ⟨hg_28, hM⟩ := gd_some hM
                refine gi_if_eq (tgt := 97) hx hb dX12_named_57 (by decide) hg_28 (fun c_29 => ?_) (fun c_29 => ?_)
                · replace hM := ifp hM c_29
                  cases hM
                  exact hK_19 H locs ls hG (lv_sub hl [2, 3, 1] rfl)
                · replace hM := ifn hM c_29
                  refine lv_aload_n hx hb dX12_named_60 rfl (lv_at hl 3 rfl) ?_
                  refine m_get S hG 80 83 2 rfl ec_83 cpX12 wm_1675 dX12_named_61 rfl (Nat.lt_of_lt_of_le (Nat.le_of_ble_eq_true rfl) hn) (by decide) ?_
                  refine lv_aload_n hx hb dX12_named_64 rfl (lv_at hl 3 rfl) ?_
                  refine m_get S hG 80 83 7 rfl ec_83 cpX12 wm_1680 dX12_named_65 rfl (Nat.lt_of_lt_of_le (Nat.le_of_ble_eq_true rfl) hn) (by decide) ?_
                  refine lv_iload_n hx hb dX12_named_68 rfl (lv_at hl 0 rfl) ?_
                  refine gi_add hx hb dX12_named_69 ?_
                  obtain ⟨hg_30, hM⟩ := gd_some hM
                  refine mi_ald S hG 83 86 rfl ec_86 (Nat.lt_of_lt_of_le (Nat.le_of_ble_eq_true rfl) hn) dX12_named_70 hg_30 (by decide) ?_
                  refine lv_aload_n hx hb dX12_named_71 rfl (lv_at hl 3 rfl) ?_
                  refine m_get S hG 80 83 11 rfl ec_83 cpX12 wm_1684 dX12_named_72 rfl (Nat.lt_of_lt_of_le (Nat.le_of_ble_eq_true rfl) hn) (by decide) ?_
                  refine lv_bipush (v := iI 8) hx hb dX12_named_75 (by decide) ?_
                  refine lv_iload_n hx hb dX12_named_77 rfl (lv_at hl 2 rfl) ?_
                  refine gi_mul hx hb dX12_named_78 ?_
                  refine lv_iload_n hx hb dX12_named_79 rfl (lv_at hl 0 rfl) ?_
                  refine gi_add hx hb dX12_named_80 ?_
                  obtain ⟨hg_31, hM⟩ := gd_some hM
                  refine mi_ald S hG 84 87 rfl ec_87 (Nat.lt_of_lt_of_le (Nat.le_of_ble_eq_true rfl) hn) dX12_named_81 hg_31 (by decide) ?_
                  obtain ⟨hg_32, hM⟩ := gd_some hM
                  refine gi_icmp_ne (tgt := 89) hx hb dX12_named_82 (by decide) hg_32.1 hg_32.2 (fun c_33 => ?_) (fun c_33 => ?_)
                  · replace hM := ifn hM c_33
                    refine lv_iconst (v := iI 0) hx hb dX12_named_89 (by decide) ?_
                    refine lv_istore_n (lv' := [(2, .int (iI 0)), (3, .int (iI v_15)), (1, .int (iI v_1)), (0, .ref (b + 80))]) hx hb dX12_named_90 rfl hl (by decide) rfl (fun ls hl => ?_)
                    refine lv_iinc (v := iI (v_15 + 1)) (lv' := [(3, .int (iI (v_15 + 1))), (2, .int (iI 0)), (1, .int (iI v_1)), (0, .ref (b + 80))]) hx hb dX12_named_91 hl (k := 1) rfl ((iI_add v_15 (1)).trans (congrArg iI (by omega))) (by decide) rfl (fun ls hl => ?_)
                    refine lv_goto (tgt := 46) hx hb dX12_named_94 (by decide) ?_
                    exact ih_23 (v_15 + 1) 0 H locs ls hM hG (lv_sub hl [0, 1, 2, 3] rfl)
                  · replace hM := ifp hM c_33
                    refine lv_iconst (v := iI 1) hx hb dX12_named_85 (by decide) ?_
                    refine lv_goto (tgt := 90) hx hb dX12_named_86 (by decide) ?_
                    refine lv_istore_n (lv' := [(2, .int (iI 1)), (3, .int (iI v_15)), (1, .int (iI v_1)), (0, .ref (b + 80))]) hx hb dX12_named_90 rfl hl (by decide) rfl (fun ls hl => ?_)
                    refine lv_iinc (v := iI (v_15 + 1)) (lv' := [(3, .int (iI (v_15 + 1))), (2, .int (iI 1)), (1, .int (iI v_1)), (0, .ref (b + 80))]) hx hb dX12_named_91 hl (k := 1) rfl ((iI_add v_15 (1)).trans (congrArg iI (by omega))) (by decide) rfl (fun ls hl => ?_)
                    refine lv_goto (tgt := 46) hx hb dX12_named_94 (by decide) ?_
                    exact ih_23 (v_15 + 1) 1 H locs ls hM hG (lv_sub hl [0, 1, 2, 3] rfl)
          exact loop_22 FU 0 z_12 H locs ls hc_18 hG (lv_sub hl [0, 1, 2, 3] rfl)
        clear hM
        replace hM := hc_13
        obtain ⟨hg_34, hM⟩ := gd_some hM
        refine gi_icmp_ne (tgt := 42) hx hb dX12_named_17 (by decide) hg_34 (by decide) (fun c_35 => ?_) (fun c_35 => ?_)
        · replace hM := ifn hM c_35
          refine lv_iconst (v := iI 0) hx hb dX12_named_42 (by decide) ?_
          cases hM
          exact hK_14 H locs ls hG (lv_sub hl [0, 1] rfl)
        · replace hM := ifp hM c_35
          refine lv_aload_n hx hb dX12_named_20 rfl (lv_at hl 1 rfl) ?_
          refine m_get S hG 80 83 6 rfl ec_83 cpX12 wm_1679 dX12_named_21 rfl (Nat.lt_of_lt_of_le (Nat.le_of_ble_eq_true rfl) hn) (by decide) ?_
          refine lv_aload_n hx hb dX12_named_24 rfl (lv_at hl 1 rfl) ?_
          refine m_get S hG 80 83 7 rfl ec_83 cpX12 wm_1680 dX12_named_25 rfl (Nat.lt_of_lt_of_le (Nat.le_of_ble_eq_true rfl) hn) (by decide) ?_
          refine gi_sub hx hb dX12_named_28 ?_
          refine lv_aload_n hx hb dX12_named_29 rfl (lv_at hl 1 rfl) ?_
          refine m_get S hG 80 83 12 rfl ec_83 cpX12 wm_1685 dX12_named_30 rfl (Nat.lt_of_lt_of_le (Nat.le_of_ble_eq_true rfl) hn) (by decide) ?_
          refine lv_iload_n hx hb dX12_named_33 rfl (lv_at hl 0 rfl) ?_
          obtain ⟨hg_36, hM⟩ := gd_some hM
          refine mi_ald S hG 85 88 rfl ec_88 (Nat.lt_of_lt_of_le (Nat.le_of_ble_eq_true rfl) hn) dX12_named_34 hg_36 (by decide) ?_
          obtain ⟨hg_37, hM⟩ := gd_some hM
          refine gi_icmp_ne (tgt := 42) hx hb dX12_named_35 (by decide) hg_37.1 hg_37.2 (fun c_38 => ?_) (fun c_38 => ?_)
          · replace hM := ifn hM c_38
            refine lv_iconst (v := iI 0) hx hb dX12_named_42 (by decide) ?_
            cases hM
            exact hK_14 H locs ls hG (lv_sub hl [0, 1] rfl)
          · replace hM := ifp hM c_38
            refine lv_iconst (v := iI 1) hx hb dX12_named_38 (by decide) ?_
            refine lv_goto (tgt := 43) hx hb dX12_named_39 (by decide) ?_
            cases hM
            exact hK_14 H locs ls hG (lv_sub hl [0, 1] rfl)
  exact loop_7 FU 0 H locs ls hc_4 hG (lv_sub hl [0, 1] rfl)
def mX12_isSign (S0 : St) (a1 : Int) : Option (Int) := gd (inI (S0 83 8)) <| if (S0 83 8) = 3 then (gd (0 ≤ (S0 83 7) ∧ (S0 83 7) < 400) <| gd ((inI (S0 86 (S0 83 7))) ∧ (inI a1)) <| if (S0 86 (S0 83 7)) = a1 then (some (1)) else (some (0))) else (some (0))
set_option maxHeartbeats 4000000 in
set_option maxRecDepth 100000 in
theorem vX12_isSign (l : Launch) {D : va_G} {cy : Nat → ClassId} {b n : Nat} (hn : 102 ≤ n) {X : Nat → va_E} {S0 : St} (a1 : Int) {o1 : Int} (hM : mX12_isSign S0 a1 = some o1) : gI l yX12_isSign cX12_isSign 2 (some .boolean) 0 0 0 D cy b n (enc b cy X S0) [.ref (b + 80), .int (iI a1)] (fun r u => r = iI o1 ∧ u = (n, enc b cy X S0)) := by
  refine gI_of (by decide) (Nat.le_of_ble_eq_true rfl) ?_
  intro p e s m args below meth c S hr hlk hin hsz ls hl hG
  have hx := S.1
  have hb := S.2.1
  have hl : lv_has ls 2 [(0, .ref (b + 80)), (1, .int (iI a1))] := hl
  replace hG : gW D cy b n s s.heap [] (enc b cy X S0) := hG
  obtain ⟨H, eH⟩ : ∃ H, H = s.heap := ⟨_, rfl⟩
  obtain ⟨locs, elocs⟩ : ∃ locs : List Loc, locs = [] := ⟨_, rfl⟩
  rw [← eH, ← elocs] at hG
  rw [← eH, ← elocs]
  clear eH elocs
  unfold mX12_isSign at hM
  refine lv_aload_n hx hb dX12_isSign_0 rfl (lv_at hl 0 rfl) ?_
  refine m_get S hG 80 83 8 rfl ec_83 cpX12 wm_1681 dX12_isSign_1 rfl (Nat.lt_of_lt_of_le (Nat.le_of_ble_eq_true rfl) hn) (by decide) ?_
  refine lv_iconst (v := iI 3) hx hb dX12_isSign_4 (by decide) ?_
  obtain ⟨hg_1, hM⟩ := gd_some hM
  refine gi_icmp_ne (tgt := 25) hx hb dX12_isSign_5 (by decide) hg_1 (by decide) (fun c_2 => ?_) (fun c_2 => ?_)
  · replace hM := ifn hM c_2
    refine lv_iconst (v := iI 0) hx hb dX12_isSign_25 (by decide) ?_
    cases hM
    exact g_zret S hr hlk hG hsz dX12_isSign_26 ⟨Nat.le_of_ble_eq_true rfl, Nat.le_of_ble_eq_true rfl⟩ (nar_z (by decide)) ⟨rfl, rfl⟩
  · replace hM := ifp hM c_2
    refine lv_aload_n hx hb dX12_isSign_8 rfl (lv_at hl 0 rfl) ?_
    refine m_get S hG 80 83 2 rfl ec_83 cpX12 wm_1675 dX12_isSign_9 rfl (Nat.lt_of_lt_of_le (Nat.le_of_ble_eq_true rfl) hn) (by decide) ?_
    refine lv_aload_n hx hb dX12_isSign_12 rfl (lv_at hl 0 rfl) ?_
    refine m_get S hG 80 83 7 rfl ec_83 cpX12 wm_1680 dX12_isSign_13 rfl (Nat.lt_of_lt_of_le (Nat.le_of_ble_eq_true rfl) hn) (by decide) ?_
    obtain ⟨hg_3, hM⟩ := gd_some hM
    refine mi_ald S hG 83 86 rfl ec_86 (Nat.lt_of_lt_of_le (Nat.le_of_ble_eq_true rfl) hn) dX12_isSign_16 hg_3 (by decide) ?_
    refine lv_iload_n hx hb dX12_isSign_17 rfl (lv_at hl 1 rfl) ?_
    obtain ⟨hg_4, hM⟩ := gd_some hM
    refine gi_icmp_ne (tgt := 25) hx hb dX12_isSign_18 (by decide) hg_4.1 hg_4.2 (fun c_5 => ?_) (fun c_5 => ?_)
    · replace hM := ifn hM c_5
      refine lv_iconst (v := iI 0) hx hb dX12_isSign_25 (by decide) ?_
      cases hM
      exact g_zret S hr hlk hG hsz dX12_isSign_26 ⟨Nat.le_of_ble_eq_true rfl, Nat.le_of_ble_eq_true rfl⟩ (nar_z (by decide)) ⟨rfl, rfl⟩
    · replace hM := ifp hM c_5
      refine lv_iconst (v := iI 1) hx hb dX12_isSign_21 (by decide) ?_
      refine lv_goto (tgt := 26) hx hb dX12_isSign_22 (by decide) ?_
      cases hM
      exact g_zret S hr hlk hG hsz dX12_isSign_26 ⟨Nat.le_of_ble_eq_true rfl, Nat.le_of_ble_eq_true rfl⟩ (nar_z (by decide)) ⟨rfl, rfl⟩
theorem wV_12_165 : gWV "GrownKindsModel" 165 yX12_isSign cX12_isSign 2 (some .boolean) := ⟨wm_1906, wm_1908, wm_99, wm_188, wm_1909, by decide +kernel, by decide +kernel⟩
theorem wV_12_173 : gWV "GrownKindsModel" 173 yX12_next cX12_next 1 none := ⟨wm_1846, wm_1848, wm_88, wm_188, wm_1849, by decide +kernel, by decide +kernel⟩
theorem wV_12_169 : gWV "GrownKindsModel" 169 yX12_faults cX12_faults 2 (some .int) := ⟨wm_1882, wm_1884, wm_93, wm_188, wm_1885, by decide +kernel, by decide +kernel⟩
def mX12_needs (S0 : St) (a1 : Int) : Option (St) := bd1 (mX12_isSign S0 a1) fun r_2 => gd (inI r_2) <| if r_2 = 0 then (bd2 (mX12_faults S0 1) fun r_10 S_11 => gd (inI (S_11 83 10)) <| if (S_11 83 10) = 0 then (bd1 (mX12_next S_11) fun S_15 => some (S_15)) else (some (S_11))) else (gd (inI (S0 83 10)) <| if (S0 83 10) = 0 then (bd1 (mX12_next S0) fun S_8 => some (S_8)) else (some (S0)))
set_option maxHeartbeats 4000000 in
set_option maxRecDepth 100000 in
theorem vX12_needs (l : Launch) {D : va_G} {cy : Nat → ClassId} {b n : Nat} (hn : 102 ≤ n) {X : Nat → va_E} {S0 : St} (a1 : Int) {o1 : St} (hM : mX12_needs S0 a1 = some o1) : gV l yX12_needs cX12_needs 2 3 0 0 D cy b n (enc b cy X S0) [.ref (b + 80), .int (iI a1)] (fun u => u = (n, enc b cy X o1)) := by
  refine gV_of (by decide) (Nat.le_of_ble_eq_true rfl) ?_
  intro p e s m args below meth c S hr hlk hin hsz ls hl hG
  have hx := S.1
  have hb := S.2.1
  have hl : lv_has ls 2 [(0, .ref (b + 80)), (1, .int (iI a1))] := hl
  replace hG : gW D cy b n s s.heap [] (enc b cy X S0) := hG
  obtain ⟨H, eH⟩ : ∃ H, H = s.heap := ⟨_, rfl⟩
  obtain ⟨locs, elocs⟩ : ∃ locs : List Loc, locs = [] := ⟨_, rfl⟩
  rw [← eH, ← elocs] at hG
  rw [← eH, ← elocs]
  clear eH elocs
  unfold mX12_needs at hM
  refine lv_aload_n hx hb dX12_needs_0 rfl (lv_at hl 0 rfl) ?_
  refine lv_iload_n hx hb dX12_needs_1 rfl (lv_at hl 1 rfl) ?_
  obtain ⟨r_2, hc_1, hM⟩ := bd1_some hM
  refine g_vi (As := [.int (iI a1)]) (rest := []) S hG hsz (vX12_isSign l hn a1 hc_1) wV_12_165 (ec_83 _) cpX12 (Nat.lt_of_lt_of_le (Nat.le_of_ble_eq_true rfl) hn) dX12_needs_2 rfl hl.1 (ar := 1) (by decide +kernel) rfl ⟨Nat.le_of_ble_eq_true rfl, Nat.le_of_ble_eq_true rfl, Nat.le_of_ble_eq_true rfl, Nat.le_of_ble_eq_true rfl⟩ (Nat.le_of_ble_eq_true rfl) (fun rv uu H locs hp hG => ?_)
  obtain ⟨rfl, rfl⟩ := hp
  replace hG : gW D cy b n s H locs (enc b cy X S0) := hG
  obtain ⟨hg_3, hM⟩ := gd_some hM
  refine gi_if_ne (tgt := 14) hx hb dX12_needs_5 (by decide) hg_3 (fun c_4 => ?_) (fun c_4 => ?_)
  · replace hM := ifn hM c_4
    refine lv_aload_n hx hb dX12_needs_14 rfl (lv_at hl 0 rfl) ?_
    refine m_get S hG 80 83 10 rfl ec_83 cpX12 wm_1683 dX12_needs_15 rfl (Nat.lt_of_lt_of_le (Nat.le_of_ble_eq_true rfl) hn) (by decide) ?_
    obtain ⟨hg_5, hM⟩ := gd_some hM
    refine gi_if_ne (tgt := 25) hx hb dX12_needs_18 (by decide) hg_5 (fun c_6 => ?_) (fun c_6 => ?_)
    · replace hM := ifn hM c_6
      cases hM
      exact g_vret S hr hlk hG hsz dX12_needs_25 ⟨Nat.le_of_ble_eq_true rfl, Nat.le_of_ble_eq_true rfl⟩ rfl
    · replace hM := ifp hM c_6
      refine lv_aload_n hx hb dX12_needs_21 rfl (lv_at hl 0 rfl) ?_
      obtain ⟨S_8, hc_7, hM⟩ := bd1_some hM
      refine g_vv (As := []) (rest := []) S hG hsz (vX12_next l hn  hc_7) wV_12_173 (ec_83 _) cpX12 (Nat.lt_of_lt_of_le (Nat.le_of_ble_eq_true rfl) hn) dX12_needs_22 rfl hl.1 (ar := 0) (by decide +kernel) rfl ⟨Nat.le_of_ble_eq_true rfl, Nat.le_of_ble_eq_true rfl, Nat.le_of_ble_eq_true rfl, Nat.le_of_ble_eq_true rfl⟩ (Nat.le_of_ble_eq_true rfl) (fun uu H locs hp hG => ?_)
      obtain rfl := hp
      replace hG : gW D cy b n s H locs (enc b cy X S_8) := hG
      cases hM
      exact g_vret S hr hlk hG hsz dX12_needs_25 ⟨Nat.le_of_ble_eq_true rfl, Nat.le_of_ble_eq_true rfl⟩ rfl
  · replace hM := ifp hM c_4
    refine lv_aload_n hx hb dX12_needs_8 rfl (lv_at hl 0 rfl) ?_
    refine lv_iconst (v := iI 1) hx hb dX12_needs_9 (by decide) ?_
    obtain ⟨r_10, S_11, hc_9, hM⟩ := bd2_some hM
    refine g_vi (As := [.int (iI 1)]) (rest := []) S hG hsz (vX12_faults l hn 1 hc_9) wV_12_169 (ec_83 _) cpX12 (Nat.lt_of_lt_of_le (Nat.le_of_ble_eq_true rfl) hn) dX12_needs_10 rfl hl.1 (ar := 1) (by decide +kernel) rfl ⟨Nat.le_of_ble_eq_true rfl, Nat.le_of_ble_eq_true rfl, Nat.le_of_ble_eq_true rfl, Nat.le_of_ble_eq_true rfl⟩ (Nat.le_of_ble_eq_true rfl) (fun rv uu H locs hp hG => ?_)
    obtain ⟨rfl, rfl⟩ := hp
    replace hG : gW D cy b n s H locs (enc b cy X S_11) := hG
    refine lv_pop hx hb dX12_needs_13 rfl ?_
    refine lv_aload_n hx hb dX12_needs_14 rfl (lv_at hl 0 rfl) ?_
    refine m_get S hG 80 83 10 rfl ec_83 cpX12 wm_1683 dX12_needs_15 rfl (Nat.lt_of_lt_of_le (Nat.le_of_ble_eq_true rfl) hn) (by decide) ?_
    obtain ⟨hg_12, hM⟩ := gd_some hM
    refine gi_if_ne (tgt := 25) hx hb dX12_needs_18 (by decide) hg_12 (fun c_13 => ?_) (fun c_13 => ?_)
    · replace hM := ifn hM c_13
      cases hM
      exact g_vret S hr hlk hG hsz dX12_needs_25 ⟨Nat.le_of_ble_eq_true rfl, Nat.le_of_ble_eq_true rfl⟩ rfl
    · replace hM := ifp hM c_13
      refine lv_aload_n hx hb dX12_needs_21 rfl (lv_at hl 0 rfl) ?_
      obtain ⟨S_15, hc_14, hM⟩ := bd1_some hM
      refine g_vv (As := []) (rest := []) S hG hsz (vX12_next l hn  hc_14) wV_12_173 (ec_83 _) cpX12 (Nat.lt_of_lt_of_le (Nat.le_of_ble_eq_true rfl) hn) dX12_needs_22 rfl hl.1 (ar := 0) (by decide +kernel) rfl ⟨Nat.le_of_ble_eq_true rfl, Nat.le_of_ble_eq_true rfl, Nat.le_of_ble_eq_true rfl, Nat.le_of_ble_eq_true rfl⟩ (Nat.le_of_ble_eq_true rfl) (fun uu H locs hp hG => ?_)
      obtain rfl := hp
      replace hG : gW D cy b n s H locs (enc b cy X S_15) := hG
      cases hM
      exact g_vret S hr hlk hG hsz dX12_needs_25 ⟨Nat.le_of_ble_eq_true rfl, Nat.le_of_ble_eq_true rfl⟩ rfl
def mX12_readsAtom (S0 : St) (a1 : Int) : Option (St) := gd (0 ≤ (24 + a1) ∧ (24 + a1) < 228) <| nx (up S0 84 (24 + a1) 0) fun S_2 => gd (inI (S_2 83 8)) <| if (S_2 83 8) = 1 then (gd (inI ((S_2 83 6) - (S_2 83 7))) <| if ((S_2 83 6) - (S_2 83 7)) ≤ 1 then (gd (0 ≤ (S_2 83 7) ∧ (S_2 83 7) < 400) <| gd (0 ≤ (48 + a1) ∧ (48 + a1) < 228) <| nx (up S_2 84 (48 + a1) ((S_2 86 (S_2 83 7)) - 97)) fun S_9 => bd1 (mX12_next S_9) fun S_11 => some (S_11)) else (bd2 (mX12_faults S_2 2) fun r_13 S_14 => some (S_14))) else (bd2 (mX12_faults S_2 1) fun r_16 S_17 => some (S_17))
set_option maxHeartbeats 4000000 in
set_option maxRecDepth 100000 in
theorem vX12_readsAtom (l : Launch) {D : va_G} {cy : Nat → ClassId} {b n : Nat} (hn : 102 ≤ n) {X : Nat → va_E} {S0 : St} (a1 : Int) {o1 : St} (hM : mX12_readsAtom S0 a1 = some o1) : gV l yX12_readsAtom cX12_readsAtom 2 3 0 0 D cy b n (enc b cy X S0) [.ref (b + 80), .int (iI a1)] (fun u => u = (n, enc b cy X o1)) := by
  refine gV_of (by decide) (Nat.le_of_ble_eq_true rfl) ?_
  intro p e s m args below meth c S hr hlk hin hsz ls hl hG
  have hx := S.1
  have hb := S.2.1
  have hl : lv_has ls 2 [(0, .ref (b + 80)), (1, .int (iI a1))] := hl
  replace hG : gW D cy b n s s.heap [] (enc b cy X S0) := hG
  obtain ⟨H, eH⟩ : ∃ H, H = s.heap := ⟨_, rfl⟩
  obtain ⟨locs, elocs⟩ : ∃ locs : List Loc, locs = [] := ⟨_, rfl⟩
  rw [← eH, ← elocs] at hG
  rw [← eH, ← elocs]
  clear eH elocs
  unfold mX12_readsAtom at hM
  refine lv_aload_n hx hb dX12_readsAtom_0 rfl (lv_at hl 0 rfl) ?_
  refine m_get S hG 80 83 0 rfl ec_83 cpX12 wm_1673 dX12_readsAtom_1 rfl (Nat.lt_of_lt_of_le (Nat.le_of_ble_eq_true rfl) hn) (by decide) ?_
  refine lv_bipush (v := iI 24) hx hb dX12_readsAtom_4 (by decide) ?_
  refine lv_iload_n hx hb dX12_readsAtom_6 rfl (lv_at hl 1 rfl) ?_
  refine gi_add hx hb dX12_readsAtom_7 ?_
  refine lv_iconst (v := iI 0) hx hb dX12_readsAtom_8 (by decide) ?_
  obtain ⟨hg_1, hM⟩ := gd_some hM
  refine mi_ast S hG 81 84 rfl ec_84 (Nat.lt_of_lt_of_le (Nat.le_of_ble_eq_true rfl) hn) dX12_readsAtom_9 hg_1 (by decide) (fun H locs S_2 eS_2 hG => ?_)
  replace hM := nx_at hM eS_2
  clear eS_2
  refine lv_aload_n hx hb dX12_readsAtom_10 rfl (lv_at hl 0 rfl) ?_
  refine m_get S hG 80 83 8 rfl ec_83 cpX12 wm_1681 dX12_readsAtom_11 rfl (Nat.lt_of_lt_of_le (Nat.le_of_ble_eq_true rfl) hn) (by decide) ?_
  refine lv_iconst (v := iI 1) hx hb dX12_readsAtom_14 (by decide) ?_
  obtain ⟨hg_3, hM⟩ := gd_some hM
  refine gi_icmp_eq (tgt := 25) hx hb dX12_readsAtom_15 (by decide) hg_3 (by decide) (fun c_4 => ?_) (fun c_4 => ?_)
  · replace hM := ifp hM c_4
    refine lv_aload_n hx hb dX12_readsAtom_25 rfl (lv_at hl 0 rfl) ?_
    refine m_get S hG 80 83 6 rfl ec_83 cpX12 wm_1679 dX12_readsAtom_26 rfl (Nat.lt_of_lt_of_le (Nat.le_of_ble_eq_true rfl) hn) (by decide) ?_
    refine lv_aload_n hx hb dX12_readsAtom_29 rfl (lv_at hl 0 rfl) ?_
    refine m_get S hG 80 83 7 rfl ec_83 cpX12 wm_1680 dX12_readsAtom_30 rfl (Nat.lt_of_lt_of_le (Nat.le_of_ble_eq_true rfl) hn) (by decide) ?_
    refine gi_sub hx hb dX12_readsAtom_33 ?_
    refine lv_iconst (v := iI 1) hx hb dX12_readsAtom_34 (by decide) ?_
    obtain ⟨hg_5, hM⟩ := gd_some hM
    refine gi_icmp_le (tgt := 45) hx hb dX12_readsAtom_35 (by decide) hg_5 (by decide) (fun c_6 => ?_) (fun c_6 => ?_)
    · replace hM := ifp hM c_6
      refine lv_aload_n hx hb dX12_readsAtom_45 rfl (lv_at hl 0 rfl) ?_
      refine m_get S hG 80 83 0 rfl ec_83 cpX12 wm_1673 dX12_readsAtom_46 rfl (Nat.lt_of_lt_of_le (Nat.le_of_ble_eq_true rfl) hn) (by decide) ?_
      refine lv_bipush (v := iI 48) hx hb dX12_readsAtom_49 (by decide) ?_
      refine lv_iload_n hx hb dX12_readsAtom_51 rfl (lv_at hl 1 rfl) ?_
      refine gi_add hx hb dX12_readsAtom_52 ?_
      refine lv_aload_n hx hb dX12_readsAtom_53 rfl (lv_at hl 0 rfl) ?_
      refine m_get S hG 80 83 2 rfl ec_83 cpX12 wm_1675 dX12_readsAtom_54 rfl (Nat.lt_of_lt_of_le (Nat.le_of_ble_eq_true rfl) hn) (by decide) ?_
      refine lv_aload_n hx hb dX12_readsAtom_57 rfl (lv_at hl 0 rfl) ?_
      refine m_get S hG 80 83 7 rfl ec_83 cpX12 wm_1680 dX12_readsAtom_58 rfl (Nat.lt_of_lt_of_le (Nat.le_of_ble_eq_true rfl) hn) (by decide) ?_
      obtain ⟨hg_7, hM⟩ := gd_some hM
      refine mi_ald S hG 83 86 rfl ec_86 (Nat.lt_of_lt_of_le (Nat.le_of_ble_eq_true rfl) hn) dX12_readsAtom_61 hg_7 (by decide) ?_
      refine lv_bipush (v := iI 97) hx hb dX12_readsAtom_62 (by decide) ?_
      refine gi_sub hx hb dX12_readsAtom_64 ?_
      obtain ⟨hg_8, hM⟩ := gd_some hM
      refine mi_ast S hG 81 84 rfl ec_84 (Nat.lt_of_lt_of_le (Nat.le_of_ble_eq_true rfl) hn) dX12_readsAtom_65 hg_8 (by decide) (fun H locs S_9 eS_9 hG => ?_)
      replace hM := nx_at hM eS_9
      clear eS_9
      refine lv_aload_n hx hb dX12_readsAtom_66 rfl (lv_at hl 0 rfl) ?_
      obtain ⟨S_11, hc_10, hM⟩ := bd1_some hM
      refine g_vv (As := []) (rest := []) S hG hsz (vX12_next l hn  hc_10) wV_12_173 (ec_83 _) cpX12 (Nat.lt_of_lt_of_le (Nat.le_of_ble_eq_true rfl) hn) dX12_readsAtom_67 rfl hl.1 (ar := 0) (by decide +kernel) rfl ⟨Nat.le_of_ble_eq_true rfl, Nat.le_of_ble_eq_true rfl, Nat.le_of_ble_eq_true rfl, Nat.le_of_ble_eq_true rfl⟩ (Nat.le_of_ble_eq_true rfl) (fun uu H locs hp hG => ?_)
      obtain rfl := hp
      replace hG : gW D cy b n s H locs (enc b cy X S_11) := hG
      cases hM
      exact g_vret S hr hlk hG hsz dX12_readsAtom_70 ⟨Nat.le_of_ble_eq_true rfl, Nat.le_of_ble_eq_true rfl⟩ rfl
    · replace hM := ifn hM c_6
      refine lv_aload_n hx hb dX12_readsAtom_38 rfl (lv_at hl 0 rfl) ?_
      refine lv_iconst (v := iI 2) hx hb dX12_readsAtom_39 (by decide) ?_
      obtain ⟨r_13, S_14, hc_12, hM⟩ := bd2_some hM
      refine g_vi (As := [.int (iI 2)]) (rest := []) S hG hsz (vX12_faults l hn 2 hc_12) wV_12_169 (ec_83 _) cpX12 (Nat.lt_of_lt_of_le (Nat.le_of_ble_eq_true rfl) hn) dX12_readsAtom_40 rfl hl.1 (ar := 1) (by decide +kernel) rfl ⟨Nat.le_of_ble_eq_true rfl, Nat.le_of_ble_eq_true rfl, Nat.le_of_ble_eq_true rfl, Nat.le_of_ble_eq_true rfl⟩ (Nat.le_of_ble_eq_true rfl) (fun rv uu H locs hp hG => ?_)
      obtain ⟨rfl, rfl⟩ := hp
      replace hG : gW D cy b n s H locs (enc b cy X S_14) := hG
      refine lv_pop hx hb dX12_readsAtom_43 rfl ?_
      cases hM
      exact g_vret S hr hlk hG hsz dX12_readsAtom_44 ⟨Nat.le_of_ble_eq_true rfl, Nat.le_of_ble_eq_true rfl⟩ rfl
  · replace hM := ifn hM c_4
    refine lv_aload_n hx hb dX12_readsAtom_18 rfl (lv_at hl 0 rfl) ?_
    refine lv_iconst (v := iI 1) hx hb dX12_readsAtom_19 (by decide) ?_
    obtain ⟨r_16, S_17, hc_15, hM⟩ := bd2_some hM
    refine g_vi (As := [.int (iI 1)]) (rest := []) S hG hsz (vX12_faults l hn 1 hc_15) wV_12_169 (ec_83 _) cpX12 (Nat.lt_of_lt_of_le (Nat.le_of_ble_eq_true rfl) hn) dX12_readsAtom_20 rfl hl.1 (ar := 1) (by decide +kernel) rfl ⟨Nat.le_of_ble_eq_true rfl, Nat.le_of_ble_eq_true rfl, Nat.le_of_ble_eq_true rfl, Nat.le_of_ble_eq_true rfl⟩ (Nat.le_of_ble_eq_true rfl) (fun rv uu H locs hp hG => ?_)
    obtain ⟨rfl, rfl⟩ := hp
    replace hG : gW D cy b n s H locs (enc b cy X S_17) := hG
    refine lv_pop hx hb dX12_readsAtom_23 rfl ?_
    cases hM
    exact g_vret S hr hlk hG hsz dX12_readsAtom_24 ⟨Nat.le_of_ble_eq_true rfl, Nat.le_of_ble_eq_true rfl⟩ rfl
def mX12_isEmptyTerm_10 (S0 : St) (a2 : Int) : Nat → Int → Option (Int)
  | 0, _ => none
  | f + 1, v_3 => gd (inI v_3) <| if v_3 < 0 then (some (1)) else (bd1 (gd (inI a2) <| if v_3 = a2 then (some (1)) else (gd (0 ≤ v_3 ∧ v_3 < 30) <| gd (inI (S0 89 v_3)) <| if (S0 89 v_3) = 0 then (some (0)) else (some (1)))) fun t_13 => if t_13 = 0 then (some (0)) else (gd (0 ≤ (96 + v_3) ∧ (96 + v_3) < 228) <| nx (S0 84 (96 + v_3)) fun x_18 => mX12_isEmptyTerm_10 S0 a2 f x_18))
def mX12_isEmptyTerm (S0 : St) (a1 : Int) (a2 : Int) : Option (Int) := gd (0 ≤ (120 + a1) ∧ (120 + a1) < 228) <| nx (S0 84 (120 + a1)) fun x_2 => bd1 (mX12_isEmptyTerm_10 S0 a2 FU x_2) fun t_4 => if t_4 = 0 then (some (0)) else (some (1))
set_option maxHeartbeats 4000000 in
set_option maxRecDepth 100000 in
theorem vX12_isEmptyTerm (l : Launch) {D : va_G} {cy : Nat → ClassId} {b n : Nat} (hn : 102 ≤ n) {X : Nat → va_E} {S0 : St} (a1 : Int) (a2 : Int) {o1 : Int} (hM : mX12_isEmptyTerm S0 a1 a2 = some o1) : gI l yX12_isEmptyTerm cX12_isEmptyTerm 4 (some .boolean) 0 0 0 D cy b n (enc b cy X S0) [.ref (b + 80), .int (iI a1), .int (iI a2)] (fun r u => r = iI o1 ∧ u = (n, enc b cy X S0)) := by
  refine gI_of (by decide) (Nat.le_of_ble_eq_true rfl) ?_
  intro p e s m args below meth c S hr hlk hin hsz ls hl hG
  have hx := S.1
  have hb := S.2.1
  have hl : lv_has ls 4 [(0, .ref (b + 80)), (1, .int (iI a1)), (2, .int (iI a2))] := hl
  replace hG : gW D cy b n s s.heap [] (enc b cy X S0) := hG
  obtain ⟨H, eH⟩ : ∃ H, H = s.heap := ⟨_, rfl⟩
  obtain ⟨locs, elocs⟩ : ∃ locs : List Loc, locs = [] := ⟨_, rfl⟩
  rw [← eH, ← elocs] at hG
  rw [← eH, ← elocs]
  clear eH elocs
  unfold mX12_isEmptyTerm at hM
  refine lv_aload_n hx hb dX12_isEmptyTerm_0 rfl (lv_at hl 0 rfl) ?_
  refine m_get S hG 80 83 0 rfl ec_83 cpX12 wm_1673 dX12_isEmptyTerm_1 rfl (Nat.lt_of_lt_of_le (Nat.le_of_ble_eq_true rfl) hn) (by decide) ?_
  refine lv_bipush (v := iI 120) hx hb dX12_isEmptyTerm_4 (by decide) ?_
  refine lv_iload_n hx hb dX12_isEmptyTerm_6 rfl (lv_at hl 1 rfl) ?_
  refine gi_add hx hb dX12_isEmptyTerm_7 ?_
  obtain ⟨hg_1, hM⟩ := gd_some hM
  refine mi_ald S hG 81 84 rfl ec_84 (Nat.lt_of_lt_of_le (Nat.le_of_ble_eq_true rfl) hn) dX12_isEmptyTerm_8 hg_1 (by decide) ?_
  refine gi_nm (fun x_2 ex_2 => ?_)
  replace hM := nx_at hM ex_2
  clear ex_2
  refine lv_istore_n (lv' := [(3, .int (iI x_2)), (0, .ref (b + 80)), (1, .int (iI a1)), (2, .int (iI a2))]) hx hb dX12_isEmptyTerm_9 rfl hl (by decide) rfl (fun ls hl => ?_)
  obtain ⟨t_4, hc_5, hM⟩ := bd1_some hM
  have hK_6 : ∀ (H : Heap) (locs : List Loc) (ls : Array Slot), t_4 = 0 → gW D cy b n s H locs (enc b cy X S0) → lv_has ls 4 [] → W p l e (gRm 0 0 0) s m args below meth c H locs 0 0 (gQI D cy b s args below 0 0 (fun r u => r = iI o1 ∧ u = (n, enc b cy X S0))) (F0 m 28 ls []) := by
    intro H locs ls ht hG hl
    subst ht
    replace hM := ifp hM rfl
    refine lv_iconst (v := iI 0) hx hb dX12_isEmptyTerm_28 (by decide) ?_
    cases hM
    exact g_zret S hr hlk hG hsz dX12_isEmptyTerm_29 ⟨Nat.le_of_ble_eq_true rfl, Nat.le_of_ble_eq_true rfl⟩ (nar_z (by decide)) ⟨rfl, rfl⟩
  have hK_7 : ∀ (H : Heap) (locs : List Loc) (ls : Array Slot), t_4 = 1 → gW D cy b n s H locs (enc b cy X S0) → lv_has ls 4 [] → W p l e (gRm 0 0 0) s m args below meth c H locs 0 0 (gQI D cy b s args below 0 0 (fun r u => r = iI o1 ∧ u = (n, enc b cy X S0))) (F0 m 43 ls []) := by
    intro H locs ls ht hG hl
    subst ht
    replace hM := ifn hM (by decide)
    refine lv_iconst (v := iI 1) hx hb dX12_isEmptyTerm_43 (by decide) ?_
    cases hM
    exact g_zret S hr hlk hG hsz dX12_isEmptyTerm_44 ⟨Nat.le_of_ble_eq_true rfl, Nat.le_of_ble_eq_true rfl⟩ (nar_z (by decide)) ⟨rfl, rfl⟩
  have loop_8 : ∀ (f : Nat) (v_3 : Int) (H : Heap) (locs : List Loc) (ls : Array Slot), mX12_isEmptyTerm_10 S0 a2 f v_3 = some t_4 → gW D cy b n s H locs (enc b cy X S0) → lv_has ls 4 [(3, .int (iI v_3)), (0, .ref (b + 80)), (2, .int (iI a2))] → W p l e (gRm 0 0 0) s m args below meth c H locs 0 0 (gQI D cy b s args below 0 0 (fun r u => r = iI o1 ∧ u = (n, enc b cy X S0))) (F0 m 10 ls []) := by
    clear hM
    intro f
    induction f with
    | zero => intro v_3 H locs ls hM; rw [mX12_isEmptyTerm_10] at hM; cases hM
    | succ f_10 ih_9 =>
      intro v_3 H locs ls hM hG hl
      rw [mX12_isEmptyTerm_10] at hM
      refine lv_iload_n hx hb dX12_isEmptyTerm_10 rfl (lv_at hl 0 rfl) ?_
      obtain ⟨hg_11, hM⟩ := gd_some hM
      refine gi_if_lt (tgt := 43) hx hb dX12_isEmptyTerm_11 (by decide) hg_11 (fun c_12 => ?_) (fun c_12 => ?_)
      · replace hM := ifp hM c_12
        cases hM
        exact hK_7 H locs ls rfl hG (lv_sub hl [] rfl)
      · replace hM := ifn hM c_12
        refine lv_iload_n hx hb dX12_isEmptyTerm_14 rfl (lv_at hl 0 rfl) ?_
        refine lv_iload_n hx hb dX12_isEmptyTerm_15 rfl (lv_at hl 2 rfl) ?_
        obtain ⟨t_13, hc_14, hM⟩ := bd1_some hM
        have hK_15 : ∀ (H : Heap) (locs : List Loc) (ls : Array Slot), t_13 = 0 → gW D cy b n s H locs (enc b cy X S0) → lv_has ls 4 [] → W p l e (gRm 0 0 0) s m args below meth c H locs 0 0 (gQI D cy b s args below 0 0 (fun r u => r = iI o1 ∧ u = (n, enc b cy X S0))) (F0 m 28 ls []) := by
          intro H locs ls ht hG hl
          subst ht
          replace hM := ifp hM rfl
          cases hM
          exact hK_6 H locs ls rfl hG (lv_sub hl [] rfl)
        have hK_16 : ∀ (H : Heap) (locs : List Loc) (ls : Array Slot), t_13 = 1 → gW D cy b n s H locs (enc b cy X S0) → lv_has ls 4 [(3, .int (iI v_3)), (0, .ref (b + 80)), (2, .int (iI a2))] → W p l e (gRm 0 0 0) s m args below meth c H locs 0 0 (gQI D cy b s args below 0 0 (fun r u => r = iI o1 ∧ u = (n, enc b cy X S0))) (F0 m 30 ls []) := by
          intro H locs ls ht hG hl
          subst ht
          replace hM := ifn hM (by decide)
          refine lv_aload_n hx hb dX12_isEmptyTerm_30 rfl (lv_at hl 1 rfl) ?_
          refine m_get S hG 80 83 0 rfl ec_83 cpX12 wm_1673 dX12_isEmptyTerm_31 rfl (Nat.lt_of_lt_of_le (Nat.le_of_ble_eq_true rfl) hn) (by decide) ?_
          refine lv_bipush (v := iI 96) hx hb dX12_isEmptyTerm_34 (by decide) ?_
          refine lv_iload_n hx hb dX12_isEmptyTerm_36 rfl (lv_at hl 0 rfl) ?_
          refine gi_add hx hb dX12_isEmptyTerm_37 ?_
          obtain ⟨hg_17, hM⟩ := gd_some hM
          refine mi_ald S hG 81 84 rfl ec_84 (Nat.lt_of_lt_of_le (Nat.le_of_ble_eq_true rfl) hn) dX12_isEmptyTerm_38 hg_17 (by decide) ?_
          refine gi_nm (fun x_18 ex_18 => ?_)
          replace hM := nx_at hM ex_18
          clear ex_18
          refine lv_istore_n (lv' := [(3, .int (iI x_18)), (0, .ref (b + 80)), (2, .int (iI a2))]) hx hb dX12_isEmptyTerm_39 rfl hl (by decide) rfl (fun ls hl => ?_)
          refine lv_goto (tgt := 10) hx hb dX12_isEmptyTerm_40 (by decide) ?_
          exact ih_9 x_18 H locs ls hM hG (lv_sub hl [0, 1, 2] rfl)
        clear hM
        replace hM := hc_14
        obtain ⟨hg_19, hM⟩ := gd_some hM
        refine gi_icmp_eq (tgt := 30) hx hb dX12_isEmptyTerm_16 (by decide) hg_11 hg_19 (fun c_20 => ?_) (fun c_20 => ?_)
        · replace hM := ifp hM c_20
          cases hM
          exact hK_16 H locs ls rfl hG (lv_sub hl [0, 1, 2] rfl)
        · replace hM := ifn hM c_20
          refine lv_aload_n hx hb dX12_isEmptyTerm_19 rfl (lv_at hl 1 rfl) ?_
          refine m_get S hG 80 83 13 rfl ec_83 cpX12 wm_1686 dX12_isEmptyTerm_20 rfl (Nat.lt_of_lt_of_le (Nat.le_of_ble_eq_true rfl) hn) (by decide) ?_
          refine lv_iload_n hx hb dX12_isEmptyTerm_23 rfl (lv_at hl 0 rfl) ?_
          obtain ⟨hg_21, hM⟩ := gd_some hM
          refine mz_ald S hG 86 89 rfl ec_89 (Nat.lt_of_lt_of_le (Nat.le_of_ble_eq_true rfl) hn) dX12_isEmptyTerm_24 hg_21 (by decide) ?_
          obtain ⟨hg_22, hM⟩ := gd_some hM
          refine gi_if_ne (tgt := 30) hx hb dX12_isEmptyTerm_25 (by decide) hg_22 (fun c_23 => ?_) (fun c_23 => ?_)
          · replace hM := ifn hM c_23
            cases hM
            exact hK_16 H locs ls rfl hG (lv_sub hl [0, 1, 2] rfl)
          · replace hM := ifp hM c_23
            cases hM
            exact hK_15 H locs ls rfl hG (lv_sub hl [] rfl)
  exact loop_8 FU x_2 H locs ls hc_5 hG (lv_sub hl [0, 1, 3] rfl)
theorem wV_12_231 : gWV "GrownKindsModel" 231 yX12_isOff cX12_isOff 3 (some .boolean) := ⟨wm_1945, wm_1947, wm_108, wm_188, wm_1948, by decide +kernel, by decide +kernel⟩
theorem wV_12_244 : gWV "GrownKindsModel" 244 yX12_isEmptyTerm cX12_isEmptyTerm 4 (some .boolean) := ⟨wm_1952, wm_1954, wm_109, wm_188, wm_1955, by decide +kernel, by decide +kernel⟩
def mX12_isEmptyExpr_13 (S0 : St) (a1 : Int) : Nat → Int → Int → Option (Int)
  | 0, _, _ => none
  | f + 1, v_3, v_4 => gd (inI v_3) <| if v_3 < 0 then (some (1)) else (bd1 (mX12_isOff S0 a1 v_4) fun r_15 => bd1 (gd (inI r_15) <| if r_15 = 0 then (bd1 (mX12_isEmptyTerm S0 v_3 (-1)) fun r_25 => gd (inI r_25) <| if r_25 = 0 then (some (1)) else (some (0))) else (some (1))) fun t_16 => if t_16 = 0 then (some (0)) else (gd (0 ≤ (144 + v_3) ∧ (144 + v_3) < 228) <| nx (S0 84 (144 + v_3)) fun x_21 => mX12_isEmptyExpr_13 S0 a1 f x_21 (v_4 + 1)))
def mX12_isEmptyExpr (S0 : St) (a1 : Int) : Option (Int) := gd (0 ≤ (168 + a1) ∧ (168 + a1) < 228) <| nx (S0 84 (168 + a1)) fun x_2 => bd1 (mX12_isEmptyExpr_13 S0 a1 FU x_2 0) fun t_5 => if t_5 = 0 then (some (1)) else (some (0))
set_option maxHeartbeats 4000000 in
set_option maxRecDepth 100000 in
theorem vX12_isEmptyExpr (l : Launch) {D : va_G} {cy : Nat → ClassId} {b n : Nat} (hn : 102 ≤ n) {X : Nat → va_E} {S0 : St} (a1 : Int) {o1 : Int} (hM : mX12_isEmptyExpr S0 a1 = some o1) : gI l yX12_isEmptyExpr cX12_isEmptyExpr 4 (some .boolean) 2 0 0 D cy b n (enc b cy X S0) [.ref (b + 80), .int (iI a1)] (fun r u => r = iI o1 ∧ u = (n, enc b cy X S0)) := by
  refine gI_of (by decide) (Nat.le_of_ble_eq_true rfl) ?_
  intro p e s m args below meth c S hr hlk hin hsz ls hl hG
  have hx := S.1
  have hb := S.2.1
  have hl : lv_has ls 4 [(0, .ref (b + 80)), (1, .int (iI a1))] := hl
  replace hG : gW D cy b n s s.heap [] (enc b cy X S0) := hG
  obtain ⟨H, eH⟩ : ∃ H, H = s.heap := ⟨_, rfl⟩
  obtain ⟨locs, elocs⟩ : ∃ locs : List Loc, locs = [] := ⟨_, rfl⟩
  rw [← eH, ← elocs] at hG
  rw [← eH, ← elocs]
  clear eH elocs
  unfold mX12_isEmptyExpr at hM
  refine lv_iconst (v := iI 0) hx hb dX12_isEmptyExpr_0 (by decide) ?_
  refine lv_istore_n (lv' := [(2, .int (iI 0)), (0, .ref (b + 80)), (1, .int (iI a1))]) hx hb dX12_isEmptyExpr_1 rfl hl (by decide) rfl (fun ls hl => ?_)
  refine lv_aload_n hx hb dX12_isEmptyExpr_2 rfl (lv_at hl 1 rfl) ?_
  refine m_get S hG 80 83 0 rfl ec_83 cpX12 wm_1673 dX12_isEmptyExpr_3 rfl (Nat.lt_of_lt_of_le (Nat.le_of_ble_eq_true rfl) hn) (by decide) ?_
  refine lv_sipush (v := iI 168) hx hb dX12_isEmptyExpr_6 (by decide) ?_
  refine lv_iload_n hx hb dX12_isEmptyExpr_9 rfl (lv_at hl 2 rfl) ?_
  refine gi_add hx hb dX12_isEmptyExpr_10 ?_
  obtain ⟨hg_1, hM⟩ := gd_some hM
  refine mi_ald S hG 81 84 rfl ec_84 (Nat.lt_of_lt_of_le (Nat.le_of_ble_eq_true rfl) hn) dX12_isEmptyExpr_11 hg_1 (by decide) ?_
  refine gi_nm (fun x_2 ex_2 => ?_)
  replace hM := nx_at hM ex_2
  clear ex_2
  refine lv_istore_n (lv' := [(3, .int (iI x_2)), (2, .int (iI 0)), (0, .ref (b + 80)), (1, .int (iI a1))]) hx hb dX12_isEmptyExpr_12 rfl hl (by decide) rfl (fun ls hl => ?_)
  obtain ⟨t_5, hc_6, hM⟩ := bd1_some hM
  have hK_7 : ∀ (H : Heap) (locs : List Loc) (ls : Array Slot), t_5 = 0 → gW D cy b n s H locs (enc b cy X S0) → lv_has ls 4 [] → W p l e (gRm 2 0 0) s m args below meth c H locs 0 0 (gQI D cy b s args below 0 0 (fun r u => r = iI o1 ∧ u = (n, enc b cy X S0))) (F0 m 35 ls []) := by
    intro H locs ls ht hG hl
    subst ht
    replace hM := ifp hM rfl
    refine lv_iconst (v := iI 1) hx hb dX12_isEmptyExpr_35 (by decide) ?_
    cases hM
    exact g_zret S hr hlk hG hsz dX12_isEmptyExpr_36 ⟨Nat.le_of_ble_eq_true rfl, Nat.le_of_ble_eq_true rfl⟩ (nar_z (by decide)) ⟨rfl, rfl⟩
  have hK_8 : ∀ (H : Heap) (locs : List Loc) (ls : Array Slot), t_5 = 1 → gW D cy b n s H locs (enc b cy X S0) → lv_has ls 4 [] → W p l e (gRm 2 0 0) s m args below meth c H locs 0 0 (gQI D cy b s args below 0 0 (fun r u => r = iI o1 ∧ u = (n, enc b cy X S0))) (F0 m 54 ls []) := by
    intro H locs ls ht hG hl
    subst ht
    replace hM := ifn hM (by decide)
    refine lv_iconst (v := iI 0) hx hb dX12_isEmptyExpr_54 (by decide) ?_
    cases hM
    exact g_zret S hr hlk hG hsz dX12_isEmptyExpr_55 ⟨Nat.le_of_ble_eq_true rfl, Nat.le_of_ble_eq_true rfl⟩ (nar_z (by decide)) ⟨rfl, rfl⟩
  have loop_9 : ∀ (f : Nat) (v_3 : Int) (v_4 : Int) (H : Heap) (locs : List Loc) (ls : Array Slot), mX12_isEmptyExpr_13 S0 a1 f v_3 v_4 = some t_5 → gW D cy b n s H locs (enc b cy X S0) → lv_has ls 4 [(3, .int (iI v_3)), (2, .int (iI v_4)), (0, .ref (b + 80)), (1, .int (iI a1))] → W p l e (gRm 2 0 0) s m args below meth c H locs 0 0 (gQI D cy b s args below 0 0 (fun r u => r = iI o1 ∧ u = (n, enc b cy X S0))) (F0 m 13 ls []) := by
    clear hM
    intro f
    induction f with
    | zero => intro v_3 v_4 H locs ls hM; rw [mX12_isEmptyExpr_13] at hM; cases hM
    | succ f_11 ih_10 =>
      intro v_3 v_4 H locs ls hM hG hl
      rw [mX12_isEmptyExpr_13] at hM
      refine lv_iload_n hx hb dX12_isEmptyExpr_13 rfl (lv_at hl 0 rfl) ?_
      obtain ⟨hg_12, hM⟩ := gd_some hM
      refine gi_if_lt (tgt := 54) hx hb dX12_isEmptyExpr_14 (by decide) hg_12 (fun c_13 => ?_) (fun c_13 => ?_)
      · replace hM := ifp hM c_13
        cases hM
        exact hK_8 H locs ls rfl hG (lv_sub hl [] rfl)
      · replace hM := ifn hM c_13
        refine lv_aload_n hx hb dX12_isEmptyExpr_17 rfl (lv_at hl 2 rfl) ?_
        refine lv_iload_n hx hb dX12_isEmptyExpr_18 rfl (lv_at hl 3 rfl) ?_
        refine lv_iload_n hx hb dX12_isEmptyExpr_19 rfl (lv_at hl 1 rfl) ?_
        obtain ⟨r_15, hc_14, hM⟩ := bd1_some hM
        refine g_vi (As := [.int (iI a1), .int (iI v_4)]) (rest := []) S hG hsz (vX12_isOff l hn a1 v_4 hc_14) wV_12_231 (ec_83 _) cpX12 (Nat.lt_of_lt_of_le (Nat.le_of_ble_eq_true rfl) hn) dX12_isEmptyExpr_20 rfl hl.1 (ar := 2) (by decide +kernel) rfl ⟨Nat.le_of_ble_eq_true rfl, Nat.le_of_ble_eq_true rfl, Nat.le_of_ble_eq_true rfl, Nat.le_of_ble_eq_true rfl⟩ (Nat.le_of_ble_eq_true rfl) (fun rv uu H locs hp hG => ?_)
        obtain ⟨rfl, rfl⟩ := hp
        replace hG : gW D cy b n s H locs (enc b cy X S0) := hG
        obtain ⟨t_16, hc_17, hM⟩ := bd1_some hM
        have hK_18 : ∀ (H : Heap) (locs : List Loc) (ls : Array Slot), t_16 = 0 → gW D cy b n s H locs (enc b cy X S0) → lv_has ls 4 [] → W p l e (gRm 2 0 0) s m args below meth c H locs 0 0 (gQI D cy b s args below 0 0 (fun r u => r = iI o1 ∧ u = (n, enc b cy X S0))) (F0 m 35 ls []) := by
          intro H locs ls ht hG hl
          subst ht
          replace hM := ifp hM rfl
          cases hM
          exact hK_7 H locs ls rfl hG (lv_sub hl [] rfl)
        have hK_19 : ∀ (H : Heap) (locs : List Loc) (ls : Array Slot), t_16 = 1 → gW D cy b n s H locs (enc b cy X S0) → lv_has ls 4 [(3, .int (iI v_3)), (2, .int (iI v_4)), (0, .ref (b + 80)), (1, .int (iI a1))] → W p l e (gRm 2 0 0) s m args below meth c H locs 0 0 (gQI D cy b s args below 0 0 (fun r u => r = iI o1 ∧ u = (n, enc b cy X S0))) (F0 m 37 ls []) := by
          intro H locs ls ht hG hl
          subst ht
          replace hM := ifn hM (by decide)
          refine lv_iinc (v := iI (v_4 + 1)) (lv' := [(2, .int (iI (v_4 + 1))), (3, .int (iI v_3)), (0, .ref (b + 80)), (1, .int (iI a1))]) hx hb dX12_isEmptyExpr_37 hl (k := 1) rfl ((iI_add v_4 (1)).trans (congrArg iI (by omega))) (by decide) rfl (fun ls hl => ?_)
          refine lv_aload_n hx hb dX12_isEmptyExpr_40 rfl (lv_at hl 2 rfl) ?_
          refine m_get S hG 80 83 0 rfl ec_83 cpX12 wm_1673 dX12_isEmptyExpr_41 rfl (Nat.lt_of_lt_of_le (Nat.le_of_ble_eq_true rfl) hn) (by decide) ?_
          refine lv_sipush (v := iI 144) hx hb dX12_isEmptyExpr_44 (by decide) ?_
          refine lv_iload_n hx hb dX12_isEmptyExpr_47 rfl (lv_at hl 1 rfl) ?_
          refine gi_add hx hb dX12_isEmptyExpr_48 ?_
          obtain ⟨hg_20, hM⟩ := gd_some hM
          refine mi_ald S hG 81 84 rfl ec_84 (Nat.lt_of_lt_of_le (Nat.le_of_ble_eq_true rfl) hn) dX12_isEmptyExpr_49 hg_20 (by decide) ?_
          refine gi_nm (fun x_21 ex_21 => ?_)
          replace hM := nx_at hM ex_21
          clear ex_21
          refine lv_istore_n (lv' := [(3, .int (iI x_21)), (2, .int (iI (v_4 + 1))), (0, .ref (b + 80)), (1, .int (iI a1))]) hx hb dX12_isEmptyExpr_50 rfl hl (by decide) rfl (fun ls hl => ?_)
          refine lv_goto (tgt := 13) hx hb dX12_isEmptyExpr_51 (by decide) ?_
          exact ih_10 x_21 (v_4 + 1) H locs ls hM hG (lv_sub hl [0, 1, 2, 3] rfl)
        clear hM
        replace hM := hc_17
        obtain ⟨hg_22, hM⟩ := gd_some hM
        refine gi_if_ne (tgt := 37) hx hb dX12_isEmptyExpr_23 (by decide) hg_22 (fun c_23 => ?_) (fun c_23 => ?_)
        · replace hM := ifn hM c_23
          cases hM
          exact hK_19 H locs ls rfl hG (lv_sub hl [0, 1, 2, 3] rfl)
        · replace hM := ifp hM c_23
          refine lv_aload_n hx hb dX12_isEmptyExpr_26 rfl (lv_at hl 2 rfl) ?_
          refine lv_iload_n hx hb dX12_isEmptyExpr_27 rfl (lv_at hl 0 rfl) ?_
          refine lv_iconst (v := iI (-1)) hx hb dX12_isEmptyExpr_28 (by decide) ?_
          obtain ⟨r_25, hc_24, hM⟩ := bd1_some hM
          refine g_vi (As := [.int (iI v_3), .int (iI (-1))]) (rest := []) S hG hsz (vX12_isEmptyTerm l hn v_3 (-1) hc_24) wV_12_244 (ec_83 _) cpX12 (Nat.lt_of_lt_of_le (Nat.le_of_ble_eq_true rfl) hn) dX12_isEmptyExpr_29 rfl hl.1 (ar := 2) (by decide +kernel) rfl ⟨Nat.le_of_ble_eq_true rfl, Nat.le_of_ble_eq_true rfl, Nat.le_of_ble_eq_true rfl, Nat.le_of_ble_eq_true rfl⟩ (Nat.le_of_ble_eq_true rfl) (fun rv uu H locs hp hG => ?_)
          obtain ⟨rfl, rfl⟩ := hp
          replace hG : gW D cy b n s H locs (enc b cy X S0) := hG
          obtain ⟨hg_26, hM⟩ := gd_some hM
          refine gi_if_eq (tgt := 37) hx hb dX12_isEmptyExpr_32 (by decide) hg_26 (fun c_27 => ?_) (fun c_27 => ?_)
          · replace hM := ifp hM c_27
            cases hM
            exact hK_19 H locs ls rfl hG (lv_sub hl [0, 1, 2, 3] rfl)
          · replace hM := ifn hM c_27
            cases hM
            exact hK_18 H locs ls rfl hG (lv_sub hl [] rfl)
  exact loop_9 FU x_2 0 H locs ls hc_6 hG (lv_sub hl [0, 1, 2, 3] rfl)
theorem wV_12_247 : gWV "GrownKindsModel" 247 yX12_isEmptyExpr cX12_isEmptyExpr 4 (some .boolean) := ⟨wm_1941, wm_1943, wm_107, wm_188, wm_1944, by decide +kernel, by decide +kernel⟩
def mX12_isEmptyPart (S0 : St) (a1 : Int) : Option (Int) := gd (0 ≤ (24 + a1) ∧ (24 + a1) < 228) <| nx (S0 84 (24 + a1)) fun x_2 => gd (inI x_2) <| if x_2 = 0 then (some (0)) else (if x_2 = 1 then (some (1)) else (if x_2 = 2 then (gd (0 ≤ (48 + a1) ∧ (48 + a1) < 228) <| gd (0 ≤ (24 + (S0 84 (48 + a1))) ∧ (24 + (S0 84 (48 + a1))) < 30) <| gd ((S0 89 (24 + (S0 84 (48 + a1)))) = 0 ∨ (S0 89 (24 + (S0 84 (48 + a1)))) = 1) <| some ((S0 89 (24 + (S0 84 (48 + a1)))))) else (if x_2 = 3 then (gd (0 ≤ (48 + a1) ∧ (48 + a1) < 228) <| gd (inI (S0 84 (48 + a1))) <| if (S0 84 (48 + a1)) = 0 then (some (1)) else (gd (0 ≤ (72 + a1) ∧ (72 + a1) < 228) <| gd (0 ≤ (S0 84 (72 + a1)) ∧ (S0 84 (72 + a1)) < 30) <| gd (inI (S0 89 (S0 84 (72 + a1)))) <| if (S0 89 (S0 84 (72 + a1))) = 0 then (some (0)) else (some (1)))) else (if x_2 = 4 then (gd (0 ≤ (48 + a1) ∧ (48 + a1) < 228) <| gd (inI (S0 84 (48 + a1))) <| if (S0 84 (48 + a1)) = 0 then (some (1)) else (gd (0 ≤ (72 + a1) ∧ (72 + a1) < 228) <| gd (0 ≤ (S0 84 (72 + a1)) ∧ (S0 84 (72 + a1)) < 30) <| gd (inI (S0 89 (S0 84 (72 + a1)))) <| if (S0 89 (S0 84 (72 + a1))) = 0 then (some (0)) else (some (1)))) else (if x_2 = 5 then (gd (0 ≤ (48 + a1) ∧ (48 + a1) < 228) <| gd (inI (S0 84 (48 + a1))) <| if (S0 84 (48 + a1)) = 0 then (some (1)) else (gd (0 ≤ (72 + a1) ∧ (72 + a1) < 228) <| gd (0 ≤ (S0 84 (72 + a1)) ∧ (S0 84 (72 + a1)) < 30) <| gd (inI (S0 89 (S0 84 (72 + a1)))) <| if (S0 89 (S0 84 (72 + a1))) = 0 then (some (0)) else (some (1)))) else (if x_2 = 6 then (gd (0 ≤ (72 + a1) ∧ (72 + a1) < 228) <| gd (0 ≤ (S0 84 (72 + a1)) ∧ (S0 84 (72 + a1)) < 30) <| gd ((S0 89 (S0 84 (72 + a1))) = 0 ∨ (S0 89 (S0 84 (72 + a1))) = 1) <| some ((S0 89 (S0 84 (72 + a1))))) else (if x_2 = 7 then (gd (0 ≤ (48 + a1) ∧ (48 + a1) < 228) <| bd1 (mX12_isEmptyExpr S0 (S0 84 (48 + a1))) fun r_34 => gd (r_34 = 0 ∨ r_34 = 1) <| some (r_34)) else (gd (0 ≤ (48 + a1) ∧ (48 + a1) < 228) <| gd (inI (S0 84 (48 + a1))) <| if (S0 84 (48 + a1)) = 0 then (some (1)) else (gd (0 ≤ (72 + a1) ∧ (72 + a1) < 228) <| gd (0 ≤ (S0 84 (72 + a1)) ∧ (S0 84 (72 + a1)) < 30) <| gd (inI (S0 89 (S0 84 (72 + a1)))) <| if (S0 89 (S0 84 (72 + a1))) = 0 then (some (0)) else (some (1)))))))))))
set_option maxHeartbeats 4000000 in
set_option maxRecDepth 100000 in
theorem vX12_isEmptyPart (l : Launch) {D : va_G} {cy : Nat → ClassId} {b n : Nat} (hn : 102 ≤ n) {X : Nat → va_E} {S0 : St} (a1 : Int) {o1 : Int} (hM : mX12_isEmptyPart S0 a1 = some o1) : gI l yX12_isEmptyPart cX12_isEmptyPart 2 (some .boolean) 3 0 0 D cy b n (enc b cy X S0) [.ref (b + 80), .int (iI a1)] (fun r u => r = iI o1 ∧ u = (n, enc b cy X S0)) := by
  refine gI_of (by decide) (Nat.le_of_ble_eq_true rfl) ?_
  intro p e s m args below meth c S hr hlk hin hsz ls hl hG
  have hx := S.1
  have hb := S.2.1
  have hl : lv_has ls 2 [(0, .ref (b + 80)), (1, .int (iI a1))] := hl
  replace hG : gW D cy b n s s.heap [] (enc b cy X S0) := hG
  obtain ⟨H, eH⟩ : ∃ H, H = s.heap := ⟨_, rfl⟩
  obtain ⟨locs, elocs⟩ : ∃ locs : List Loc, locs = [] := ⟨_, rfl⟩
  rw [← eH, ← elocs] at hG
  rw [← eH, ← elocs]
  clear eH elocs
  unfold mX12_isEmptyPart at hM
  refine lv_aload_n hx hb dX12_isEmptyPart_0 rfl (lv_at hl 0 rfl) ?_
  refine m_get S hG 80 83 0 rfl ec_83 cpX12 wm_1673 dX12_isEmptyPart_1 rfl (Nat.lt_of_lt_of_le (Nat.le_of_ble_eq_true rfl) hn) (by decide) ?_
  refine lv_bipush (v := iI 24) hx hb dX12_isEmptyPart_4 (by decide) ?_
  refine lv_iload_n hx hb dX12_isEmptyPart_6 rfl (lv_at hl 1 rfl) ?_
  refine gi_add hx hb dX12_isEmptyPart_7 ?_
  obtain ⟨hg_1, hM⟩ := gd_some hM
  refine mi_ald S hG 81 84 rfl ec_84 (Nat.lt_of_lt_of_le (Nat.le_of_ble_eq_true rfl) hn) dX12_isEmptyPart_8 hg_1 (by decide) ?_
  refine gi_nm (fun x_2 ex_2 => ?_)
  replace hM := nx_at hM ex_2
  clear ex_2
  obtain ⟨hg_3, hM⟩ := gd_some hM
  rcases (show x_2 = 0 ∨ x_2 = 1 ∨ x_2 = 2 ∨ x_2 = 3 ∨ x_2 = 4 ∨ x_2 = 5 ∨ x_2 = 6 ∨ x_2 = 7 ∨ (x_2 < 0 ∨ 7 < x_2) by omega) with hs_4 | hs_4 | hs_4 | hs_4 | hs_4 | hs_4 | hs_4 | hs_4 | hs_4
  · replace hM := ifp hM hs_4
    refine gi_tsI (off := 47) (tgt := 56) hx hb 0 dX12_isEmptyPart_9 hg_3 (by omega) (by omega) (by rfl) (by decide) ?_
    refine lv_iconst (v := iI 0) hx hb dX12_isEmptyPart_56 (by decide) ?_
    cases hM
    exact g_zret S hr hlk hG hsz dX12_isEmptyPart_57 ⟨Nat.le_of_ble_eq_true rfl, Nat.le_of_ble_eq_true rfl⟩ (nar_z (by decide)) ⟨rfl, rfl⟩
  · replace hM := ifn hM (by omega)
    replace hM := ifp hM hs_4
    refine gi_tsI (off := 49) (tgt := 58) hx hb 1 dX12_isEmptyPart_9 hg_3 (by omega) (by omega) (by rfl) (by decide) ?_
    refine lv_iconst (v := iI 1) hx hb dX12_isEmptyPart_58 (by decide) ?_
    cases hM
    exact g_zret S hr hlk hG hsz dX12_isEmptyPart_59 ⟨Nat.le_of_ble_eq_true rfl, Nat.le_of_ble_eq_true rfl⟩ (nar_z (by decide)) ⟨rfl, rfl⟩
  · replace hM := ifn hM (by omega)
    replace hM := ifn hM (by omega)
    replace hM := ifp hM hs_4
    refine gi_tsI (off := 51) (tgt := 60) hx hb 2 dX12_isEmptyPart_9 hg_3 (by omega) (by omega) (by rfl) (by decide) ?_
    refine lv_aload_n hx hb dX12_isEmptyPart_60 rfl (lv_at hl 0 rfl) ?_
    refine m_get S hG 80 83 13 rfl ec_83 cpX12 wm_1686 dX12_isEmptyPart_61 rfl (Nat.lt_of_lt_of_le (Nat.le_of_ble_eq_true rfl) hn) (by decide) ?_
    refine lv_bipush (v := iI 24) hx hb dX12_isEmptyPart_64 (by decide) ?_
    refine lv_aload_n hx hb dX12_isEmptyPart_66 rfl (lv_at hl 0 rfl) ?_
    refine m_get S hG 80 83 0 rfl ec_83 cpX12 wm_1673 dX12_isEmptyPart_67 rfl (Nat.lt_of_lt_of_le (Nat.le_of_ble_eq_true rfl) hn) (by decide) ?_
    refine lv_bipush (v := iI 48) hx hb dX12_isEmptyPart_70 (by decide) ?_
    refine lv_iload_n hx hb dX12_isEmptyPart_72 rfl (lv_at hl 1 rfl) ?_
    refine gi_add hx hb dX12_isEmptyPart_73 ?_
    obtain ⟨hg_5, hM⟩ := gd_some hM
    refine mi_ald S hG 81 84 rfl ec_84 (Nat.lt_of_lt_of_le (Nat.le_of_ble_eq_true rfl) hn) dX12_isEmptyPart_74 hg_5 (by decide) ?_
    refine gi_add hx hb dX12_isEmptyPart_75 ?_
    obtain ⟨hg_6, hM⟩ := gd_some hM
    refine mz_ald S hG 86 89 rfl ec_89 (Nat.lt_of_lt_of_le (Nat.le_of_ble_eq_true rfl) hn) dX12_isEmptyPart_76 hg_6 (by decide) ?_
    obtain ⟨hg_7, hM⟩ := gd_some hM
    cases hM
    exact g_zret S hr hlk hG hsz dX12_isEmptyPart_77 ⟨Nat.le_of_ble_eq_true rfl, Nat.le_of_ble_eq_true rfl⟩ (nar_z hg_7) ⟨rfl, rfl⟩
  · replace hM := ifn hM (by omega)
    replace hM := ifn hM (by omega)
    replace hM := ifn hM (by omega)
    replace hM := ifp hM hs_4
    refine gi_tsI (off := 98) (tgt := 107) hx hb 3 dX12_isEmptyPart_9 hg_3 (by omega) (by omega) (by rfl) (by decide) ?_
    refine lv_aload_n hx hb dX12_isEmptyPart_107 rfl (lv_at hl 0 rfl) ?_
    refine m_get S hG 80 83 0 rfl ec_83 cpX12 wm_1673 dX12_isEmptyPart_108 rfl (Nat.lt_of_lt_of_le (Nat.le_of_ble_eq_true rfl) hn) (by decide) ?_
    refine lv_bipush (v := iI 48) hx hb dX12_isEmptyPart_111 (by decide) ?_
    refine lv_iload_n hx hb dX12_isEmptyPart_113 rfl (lv_at hl 1 rfl) ?_
    refine gi_add hx hb dX12_isEmptyPart_114 ?_
    obtain ⟨hg_8, hM⟩ := gd_some hM
    refine mi_ald S hG 81 84 rfl ec_84 (Nat.lt_of_lt_of_le (Nat.le_of_ble_eq_true rfl) hn) dX12_isEmptyPart_115 hg_8 (by decide) ?_
    obtain ⟨hg_9, hM⟩ := gd_some hM
    refine gi_if_eq (tgt := 136) hx hb dX12_isEmptyPart_116 (by decide) hg_9 (fun c_10 => ?_) (fun c_10 => ?_)
    · replace hM := ifp hM c_10
      refine lv_iconst (v := iI 1) hx hb dX12_isEmptyPart_136 (by decide) ?_
      refine lv_goto (tgt := 141) hx hb dX12_isEmptyPart_137 (by decide) ?_
      cases hM
      exact g_zret S hr hlk hG hsz dX12_isEmptyPart_141 ⟨Nat.le_of_ble_eq_true rfl, Nat.le_of_ble_eq_true rfl⟩ (nar_z (by decide)) ⟨rfl, rfl⟩
    · replace hM := ifn hM c_10
      refine lv_aload_n hx hb dX12_isEmptyPart_119 rfl (lv_at hl 0 rfl) ?_
      refine m_get S hG 80 83 13 rfl ec_83 cpX12 wm_1686 dX12_isEmptyPart_120 rfl (Nat.lt_of_lt_of_le (Nat.le_of_ble_eq_true rfl) hn) (by decide) ?_
      refine lv_aload_n hx hb dX12_isEmptyPart_123 rfl (lv_at hl 0 rfl) ?_
      refine m_get S hG 80 83 0 rfl ec_83 cpX12 wm_1673 dX12_isEmptyPart_124 rfl (Nat.lt_of_lt_of_le (Nat.le_of_ble_eq_true rfl) hn) (by decide) ?_
      refine lv_bipush (v := iI 72) hx hb dX12_isEmptyPart_127 (by decide) ?_
      refine lv_iload_n hx hb dX12_isEmptyPart_129 rfl (lv_at hl 1 rfl) ?_
      refine gi_add hx hb dX12_isEmptyPart_130 ?_
      obtain ⟨hg_11, hM⟩ := gd_some hM
      refine mi_ald S hG 81 84 rfl ec_84 (Nat.lt_of_lt_of_le (Nat.le_of_ble_eq_true rfl) hn) dX12_isEmptyPart_131 hg_11 (by decide) ?_
      obtain ⟨hg_12, hM⟩ := gd_some hM
      refine mz_ald S hG 86 89 rfl ec_89 (Nat.lt_of_lt_of_le (Nat.le_of_ble_eq_true rfl) hn) dX12_isEmptyPart_132 hg_12 (by decide) ?_
      obtain ⟨hg_13, hM⟩ := gd_some hM
      refine gi_if_eq (tgt := 140) hx hb dX12_isEmptyPart_133 (by decide) hg_13 (fun c_14 => ?_) (fun c_14 => ?_)
      · replace hM := ifp hM c_14
        refine lv_iconst (v := iI 0) hx hb dX12_isEmptyPart_140 (by decide) ?_
        cases hM
        exact g_zret S hr hlk hG hsz dX12_isEmptyPart_141 ⟨Nat.le_of_ble_eq_true rfl, Nat.le_of_ble_eq_true rfl⟩ (nar_z (by decide)) ⟨rfl, rfl⟩
      · replace hM := ifn hM c_14
        refine lv_iconst (v := iI 1) hx hb dX12_isEmptyPart_136 (by decide) ?_
        refine lv_goto (tgt := 141) hx hb dX12_isEmptyPart_137 (by decide) ?_
        cases hM
        exact g_zret S hr hlk hG hsz dX12_isEmptyPart_141 ⟨Nat.le_of_ble_eq_true rfl, Nat.le_of_ble_eq_true rfl⟩ (nar_z (by decide)) ⟨rfl, rfl⟩
  · replace hM := ifn hM (by omega)
    replace hM := ifn hM (by omega)
    replace hM := ifn hM (by omega)
    replace hM := ifn hM (by omega)
    replace hM := ifp hM hs_4
    refine gi_tsI (off := 98) (tgt := 107) hx hb 4 dX12_isEmptyPart_9 hg_3 (by omega) (by omega) (by rfl) (by decide) ?_
    refine lv_aload_n hx hb dX12_isEmptyPart_107 rfl (lv_at hl 0 rfl) ?_
    refine m_get S hG 80 83 0 rfl ec_83 cpX12 wm_1673 dX12_isEmptyPart_108 rfl (Nat.lt_of_lt_of_le (Nat.le_of_ble_eq_true rfl) hn) (by decide) ?_
    refine lv_bipush (v := iI 48) hx hb dX12_isEmptyPart_111 (by decide) ?_
    refine lv_iload_n hx hb dX12_isEmptyPart_113 rfl (lv_at hl 1 rfl) ?_
    refine gi_add hx hb dX12_isEmptyPart_114 ?_
    obtain ⟨hg_15, hM⟩ := gd_some hM
    refine mi_ald S hG 81 84 rfl ec_84 (Nat.lt_of_lt_of_le (Nat.le_of_ble_eq_true rfl) hn) dX12_isEmptyPart_115 hg_15 (by decide) ?_
    obtain ⟨hg_16, hM⟩ := gd_some hM
    refine gi_if_eq (tgt := 136) hx hb dX12_isEmptyPart_116 (by decide) hg_16 (fun c_17 => ?_) (fun c_17 => ?_)
    · replace hM := ifp hM c_17
      refine lv_iconst (v := iI 1) hx hb dX12_isEmptyPart_136 (by decide) ?_
      refine lv_goto (tgt := 141) hx hb dX12_isEmptyPart_137 (by decide) ?_
      cases hM
      exact g_zret S hr hlk hG hsz dX12_isEmptyPart_141 ⟨Nat.le_of_ble_eq_true rfl, Nat.le_of_ble_eq_true rfl⟩ (nar_z (by decide)) ⟨rfl, rfl⟩
    · replace hM := ifn hM c_17
      refine lv_aload_n hx hb dX12_isEmptyPart_119 rfl (lv_at hl 0 rfl) ?_
      refine m_get S hG 80 83 13 rfl ec_83 cpX12 wm_1686 dX12_isEmptyPart_120 rfl (Nat.lt_of_lt_of_le (Nat.le_of_ble_eq_true rfl) hn) (by decide) ?_
      refine lv_aload_n hx hb dX12_isEmptyPart_123 rfl (lv_at hl 0 rfl) ?_
      refine m_get S hG 80 83 0 rfl ec_83 cpX12 wm_1673 dX12_isEmptyPart_124 rfl (Nat.lt_of_lt_of_le (Nat.le_of_ble_eq_true rfl) hn) (by decide) ?_
      refine lv_bipush (v := iI 72) hx hb dX12_isEmptyPart_127 (by decide) ?_
      refine lv_iload_n hx hb dX12_isEmptyPart_129 rfl (lv_at hl 1 rfl) ?_
      refine gi_add hx hb dX12_isEmptyPart_130 ?_
      obtain ⟨hg_18, hM⟩ := gd_some hM
      refine mi_ald S hG 81 84 rfl ec_84 (Nat.lt_of_lt_of_le (Nat.le_of_ble_eq_true rfl) hn) dX12_isEmptyPart_131 hg_18 (by decide) ?_
      obtain ⟨hg_19, hM⟩ := gd_some hM
      refine mz_ald S hG 86 89 rfl ec_89 (Nat.lt_of_lt_of_le (Nat.le_of_ble_eq_true rfl) hn) dX12_isEmptyPart_132 hg_19 (by decide) ?_
      obtain ⟨hg_20, hM⟩ := gd_some hM
      refine gi_if_eq (tgt := 140) hx hb dX12_isEmptyPart_133 (by decide) hg_20 (fun c_21 => ?_) (fun c_21 => ?_)
      · replace hM := ifp hM c_21
        refine lv_iconst (v := iI 0) hx hb dX12_isEmptyPart_140 (by decide) ?_
        cases hM
        exact g_zret S hr hlk hG hsz dX12_isEmptyPart_141 ⟨Nat.le_of_ble_eq_true rfl, Nat.le_of_ble_eq_true rfl⟩ (nar_z (by decide)) ⟨rfl, rfl⟩
      · replace hM := ifn hM c_21
        refine lv_iconst (v := iI 1) hx hb dX12_isEmptyPart_136 (by decide) ?_
        refine lv_goto (tgt := 141) hx hb dX12_isEmptyPart_137 (by decide) ?_
        cases hM
        exact g_zret S hr hlk hG hsz dX12_isEmptyPart_141 ⟨Nat.le_of_ble_eq_true rfl, Nat.le_of_ble_eq_true rfl⟩ (nar_z (by decide)) ⟨rfl, rfl⟩
  · replace hM := ifn hM (by omega)
    replace hM := ifn hM (by omega)
    replace hM := ifn hM (by omega)
    replace hM := ifn hM (by omega)
    replace hM := ifn hM (by omega)
    replace hM := ifp hM hs_4
    refine gi_tsI (off := 98) (tgt := 107) hx hb 5 dX12_isEmptyPart_9 hg_3 (by omega) (by omega) (by rfl) (by decide) ?_
    refine lv_aload_n hx hb dX12_isEmptyPart_107 rfl (lv_at hl 0 rfl) ?_
    refine m_get S hG 80 83 0 rfl ec_83 cpX12 wm_1673 dX12_isEmptyPart_108 rfl (Nat.lt_of_lt_of_le (Nat.le_of_ble_eq_true rfl) hn) (by decide) ?_
    refine lv_bipush (v := iI 48) hx hb dX12_isEmptyPart_111 (by decide) ?_
    refine lv_iload_n hx hb dX12_isEmptyPart_113 rfl (lv_at hl 1 rfl) ?_
    refine gi_add hx hb dX12_isEmptyPart_114 ?_
    obtain ⟨hg_22, hM⟩ := gd_some hM
    refine mi_ald S hG 81 84 rfl ec_84 (Nat.lt_of_lt_of_le (Nat.le_of_ble_eq_true rfl) hn) dX12_isEmptyPart_115 hg_22 (by decide) ?_
    obtain ⟨hg_23, hM⟩ := gd_some hM
    refine gi_if_eq (tgt := 136) hx hb dX12_isEmptyPart_116 (by decide) hg_23 (fun c_24 => ?_) (fun c_24 => ?_)
    · replace hM := ifp hM c_24
      refine lv_iconst (v := iI 1) hx hb dX12_isEmptyPart_136 (by decide) ?_
      refine lv_goto (tgt := 141) hx hb dX12_isEmptyPart_137 (by decide) ?_
      cases hM
      exact g_zret S hr hlk hG hsz dX12_isEmptyPart_141 ⟨Nat.le_of_ble_eq_true rfl, Nat.le_of_ble_eq_true rfl⟩ (nar_z (by decide)) ⟨rfl, rfl⟩
    · replace hM := ifn hM c_24
      refine lv_aload_n hx hb dX12_isEmptyPart_119 rfl (lv_at hl 0 rfl) ?_
      refine m_get S hG 80 83 13 rfl ec_83 cpX12 wm_1686 dX12_isEmptyPart_120 rfl (Nat.lt_of_lt_of_le (Nat.le_of_ble_eq_true rfl) hn) (by decide) ?_
      refine lv_aload_n hx hb dX12_isEmptyPart_123 rfl (lv_at hl 0 rfl) ?_
      refine m_get S hG 80 83 0 rfl ec_83 cpX12 wm_1673 dX12_isEmptyPart_124 rfl (Nat.lt_of_lt_of_le (Nat.le_of_ble_eq_true rfl) hn) (by decide) ?_
      refine lv_bipush (v := iI 72) hx hb dX12_isEmptyPart_127 (by decide) ?_
      refine lv_iload_n hx hb dX12_isEmptyPart_129 rfl (lv_at hl 1 rfl) ?_
      refine gi_add hx hb dX12_isEmptyPart_130 ?_
      obtain ⟨hg_25, hM⟩ := gd_some hM
      refine mi_ald S hG 81 84 rfl ec_84 (Nat.lt_of_lt_of_le (Nat.le_of_ble_eq_true rfl) hn) dX12_isEmptyPart_131 hg_25 (by decide) ?_
      obtain ⟨hg_26, hM⟩ := gd_some hM
      refine mz_ald S hG 86 89 rfl ec_89 (Nat.lt_of_lt_of_le (Nat.le_of_ble_eq_true rfl) hn) dX12_isEmptyPart_132 hg_26 (by decide) ?_
      obtain ⟨hg_27, hM⟩ := gd_some hM
      refine gi_if_eq (tgt := 140) hx hb dX12_isEmptyPart_133 (by decide) hg_27 (fun c_28 => ?_) (fun c_28 => ?_)
      · replace hM := ifp hM c_28
        refine lv_iconst (v := iI 0) hx hb dX12_isEmptyPart_140 (by decide) ?_
        cases hM
        exact g_zret S hr hlk hG hsz dX12_isEmptyPart_141 ⟨Nat.le_of_ble_eq_true rfl, Nat.le_of_ble_eq_true rfl⟩ (nar_z (by decide)) ⟨rfl, rfl⟩
      · replace hM := ifn hM c_28
        refine lv_iconst (v := iI 1) hx hb dX12_isEmptyPart_136 (by decide) ?_
        refine lv_goto (tgt := 141) hx hb dX12_isEmptyPart_137 (by decide) ?_
        cases hM
        exact g_zret S hr hlk hG hsz dX12_isEmptyPart_141 ⟨Nat.le_of_ble_eq_true rfl, Nat.le_of_ble_eq_true rfl⟩ (nar_z (by decide)) ⟨rfl, rfl⟩
  · replace hM := ifn hM (by omega)
    replace hM := ifn hM (by omega)
    replace hM := ifn hM (by omega)
    replace hM := ifn hM (by omega)
    replace hM := ifn hM (by omega)
    replace hM := ifn hM (by omega)
    replace hM := ifp hM hs_4
    refine gi_tsI (off := 83) (tgt := 92) hx hb 6 dX12_isEmptyPart_9 hg_3 (by omega) (by omega) (by rfl) (by decide) ?_
    refine lv_aload_n hx hb dX12_isEmptyPart_92 rfl (lv_at hl 0 rfl) ?_
    refine m_get S hG 80 83 13 rfl ec_83 cpX12 wm_1686 dX12_isEmptyPart_93 rfl (Nat.lt_of_lt_of_le (Nat.le_of_ble_eq_true rfl) hn) (by decide) ?_
    refine lv_aload_n hx hb dX12_isEmptyPart_96 rfl (lv_at hl 0 rfl) ?_
    refine m_get S hG 80 83 0 rfl ec_83 cpX12 wm_1673 dX12_isEmptyPart_97 rfl (Nat.lt_of_lt_of_le (Nat.le_of_ble_eq_true rfl) hn) (by decide) ?_
    refine lv_bipush (v := iI 72) hx hb dX12_isEmptyPart_100 (by decide) ?_
    refine lv_iload_n hx hb dX12_isEmptyPart_102 rfl (lv_at hl 1 rfl) ?_
    refine gi_add hx hb dX12_isEmptyPart_103 ?_
    obtain ⟨hg_29, hM⟩ := gd_some hM
    refine mi_ald S hG 81 84 rfl ec_84 (Nat.lt_of_lt_of_le (Nat.le_of_ble_eq_true rfl) hn) dX12_isEmptyPart_104 hg_29 (by decide) ?_
    obtain ⟨hg_30, hM⟩ := gd_some hM
    refine mz_ald S hG 86 89 rfl ec_89 (Nat.lt_of_lt_of_le (Nat.le_of_ble_eq_true rfl) hn) dX12_isEmptyPart_105 hg_30 (by decide) ?_
    obtain ⟨hg_31, hM⟩ := gd_some hM
    cases hM
    exact g_zret S hr hlk hG hsz dX12_isEmptyPart_106 ⟨Nat.le_of_ble_eq_true rfl, Nat.le_of_ble_eq_true rfl⟩ (nar_z hg_31) ⟨rfl, rfl⟩
  · replace hM := ifn hM (by omega)
    replace hM := ifn hM (by omega)
    replace hM := ifn hM (by omega)
    replace hM := ifn hM (by omega)
    replace hM := ifn hM (by omega)
    replace hM := ifn hM (by omega)
    replace hM := ifn hM (by omega)
    replace hM := ifp hM hs_4
    refine gi_tsI (off := 69) (tgt := 78) hx hb 7 dX12_isEmptyPart_9 hg_3 (by omega) (by omega) (by rfl) (by decide) ?_
    refine lv_aload_n hx hb dX12_isEmptyPart_78 rfl (lv_at hl 0 rfl) ?_
    refine lv_aload_n hx hb dX12_isEmptyPart_79 rfl (lv_at hl 0 rfl) ?_
    refine m_get S hG 80 83 0 rfl ec_83 cpX12 wm_1673 dX12_isEmptyPart_80 rfl (Nat.lt_of_lt_of_le (Nat.le_of_ble_eq_true rfl) hn) (by decide) ?_
    refine lv_bipush (v := iI 48) hx hb dX12_isEmptyPart_83 (by decide) ?_
    refine lv_iload_n hx hb dX12_isEmptyPart_85 rfl (lv_at hl 1 rfl) ?_
    refine gi_add hx hb dX12_isEmptyPart_86 ?_
    obtain ⟨hg_32, hM⟩ := gd_some hM
    refine mi_ald S hG 81 84 rfl ec_84 (Nat.lt_of_lt_of_le (Nat.le_of_ble_eq_true rfl) hn) dX12_isEmptyPart_87 hg_32 (by decide) ?_
    obtain ⟨r_34, hc_33, hM⟩ := bd1_some hM
    refine g_vi (As := [.int (iI (S0 84 (48 + a1)))]) (rest := []) S hG hsz (vX12_isEmptyExpr l hn (S0 84 (48 + a1)) hc_33) wV_12_247 (ec_83 _) cpX12 (Nat.lt_of_lt_of_le (Nat.le_of_ble_eq_true rfl) hn) dX12_isEmptyPart_88 rfl hl.1 (ar := 1) (by decide +kernel) rfl ⟨Nat.le_of_ble_eq_true rfl, Nat.le_of_ble_eq_true rfl, Nat.le_of_ble_eq_true rfl, Nat.le_of_ble_eq_true rfl⟩ (Nat.le_of_ble_eq_true rfl) (fun rv uu H locs hp hG => ?_)
    obtain ⟨rfl, rfl⟩ := hp
    replace hG : gW D cy b n s H locs (enc b cy X S0) := hG
    obtain ⟨hg_35, hM⟩ := gd_some hM
    cases hM
    exact g_zret S hr hlk hG hsz dX12_isEmptyPart_91 ⟨Nat.le_of_ble_eq_true rfl, Nat.le_of_ble_eq_true rfl⟩ (nar_z hg_35) ⟨rfl, rfl⟩
  · replace hM := ifn hM (by omega)
    replace hM := ifn hM (by omega)
    replace hM := ifn hM (by omega)
    replace hM := ifn hM (by omega)
    replace hM := ifn hM (by omega)
    replace hM := ifn hM (by omega)
    replace hM := ifn hM (by omega)
    replace hM := ifn hM (by omega)
    refine gi_tsO (tgt := 107) hx hb dX12_isEmptyPart_9 hg_3 hs_4 (by decide) ?_
    refine lv_aload_n hx hb dX12_isEmptyPart_107 rfl (lv_at hl 0 rfl) ?_
    refine m_get S hG 80 83 0 rfl ec_83 cpX12 wm_1673 dX12_isEmptyPart_108 rfl (Nat.lt_of_lt_of_le (Nat.le_of_ble_eq_true rfl) hn) (by decide) ?_
    refine lv_bipush (v := iI 48) hx hb dX12_isEmptyPart_111 (by decide) ?_
    refine lv_iload_n hx hb dX12_isEmptyPart_113 rfl (lv_at hl 1 rfl) ?_
    refine gi_add hx hb dX12_isEmptyPart_114 ?_
    obtain ⟨hg_36, hM⟩ := gd_some hM
    refine mi_ald S hG 81 84 rfl ec_84 (Nat.lt_of_lt_of_le (Nat.le_of_ble_eq_true rfl) hn) dX12_isEmptyPart_115 hg_36 (by decide) ?_
    obtain ⟨hg_37, hM⟩ := gd_some hM
    refine gi_if_eq (tgt := 136) hx hb dX12_isEmptyPart_116 (by decide) hg_37 (fun c_38 => ?_) (fun c_38 => ?_)
    · replace hM := ifp hM c_38
      refine lv_iconst (v := iI 1) hx hb dX12_isEmptyPart_136 (by decide) ?_
      refine lv_goto (tgt := 141) hx hb dX12_isEmptyPart_137 (by decide) ?_
      cases hM
      exact g_zret S hr hlk hG hsz dX12_isEmptyPart_141 ⟨Nat.le_of_ble_eq_true rfl, Nat.le_of_ble_eq_true rfl⟩ (nar_z (by decide)) ⟨rfl, rfl⟩
    · replace hM := ifn hM c_38
      refine lv_aload_n hx hb dX12_isEmptyPart_119 rfl (lv_at hl 0 rfl) ?_
      refine m_get S hG 80 83 13 rfl ec_83 cpX12 wm_1686 dX12_isEmptyPart_120 rfl (Nat.lt_of_lt_of_le (Nat.le_of_ble_eq_true rfl) hn) (by decide) ?_
      refine lv_aload_n hx hb dX12_isEmptyPart_123 rfl (lv_at hl 0 rfl) ?_
      refine m_get S hG 80 83 0 rfl ec_83 cpX12 wm_1673 dX12_isEmptyPart_124 rfl (Nat.lt_of_lt_of_le (Nat.le_of_ble_eq_true rfl) hn) (by decide) ?_
      refine lv_bipush (v := iI 72) hx hb dX12_isEmptyPart_127 (by decide) ?_
      refine lv_iload_n hx hb dX12_isEmptyPart_129 rfl (lv_at hl 1 rfl) ?_
      refine gi_add hx hb dX12_isEmptyPart_130 ?_
      obtain ⟨hg_39, hM⟩ := gd_some hM
      refine mi_ald S hG 81 84 rfl ec_84 (Nat.lt_of_lt_of_le (Nat.le_of_ble_eq_true rfl) hn) dX12_isEmptyPart_131 hg_39 (by decide) ?_
      obtain ⟨hg_40, hM⟩ := gd_some hM
      refine mz_ald S hG 86 89 rfl ec_89 (Nat.lt_of_lt_of_le (Nat.le_of_ble_eq_true rfl) hn) dX12_isEmptyPart_132 hg_40 (by decide) ?_
      obtain ⟨hg_41, hM⟩ := gd_some hM
      refine gi_if_eq (tgt := 140) hx hb dX12_isEmptyPart_133 (by decide) hg_41 (fun c_42 => ?_) (fun c_42 => ?_)
      · replace hM := ifp hM c_42
        refine lv_iconst (v := iI 0) hx hb dX12_isEmptyPart_140 (by decide) ?_
        cases hM
        exact g_zret S hr hlk hG hsz dX12_isEmptyPart_141 ⟨Nat.le_of_ble_eq_true rfl, Nat.le_of_ble_eq_true rfl⟩ (nar_z (by decide)) ⟨rfl, rfl⟩
      · replace hM := ifn hM c_42
        refine lv_iconst (v := iI 1) hx hb dX12_isEmptyPart_136 (by decide) ?_
        refine lv_goto (tgt := 141) hx hb dX12_isEmptyPart_137 (by decide) ?_
        cases hM
        exact g_zret S hr hlk hG hsz dX12_isEmptyPart_141 ⟨Nat.le_of_ble_eq_true rfl, Nat.le_of_ble_eq_true rfl⟩ (nar_z (by decide)) ⟨rfl, rfl⟩
theorem wV_12_250 : gWV "GrownKindsModel" 250 yX12_isEmptyPart cX12_isEmptyPart 2 (some .boolean) := ⟨wm_1937, wm_1939, wm_106, wm_188, wm_1940, by decide +kernel, by decide +kernel⟩
def mX12_empties_66 (v_6 : Int) : Nat → Int → St → Option (St)
  | 0, _, _ => none
  | f + 1, v_21, S_22 => gd ((inI v_21) ∧ (inI (S_22 84 0))) <| if (S_22 84 0) ≤ v_21 then (some (S_22)) else (bd1 (mX12_isEmptyExpr S_22 v_21) fun r_32 => gd ((0 ≤ (24 + v_21) ∧ (24 + v_21) < 30) ∧ (r_32 = 0 ∨ r_32 = 1)) <| nx (up S_22 89 (24 + v_21) r_32) fun S_34 => mX12_empties_66 v_6 f (v_21 + 1) S_34)
def mX12_empties_37 (v_6 : Int) : Nat → Int → St → Option (St)
  | 0, _, _ => none
  | f + 1, v_16, S_17 => gd ((inI v_16) ∧ (inI (S_17 84 2))) <| if (S_17 84 2) ≤ v_16 then (some (S_17)) else (bd1 (mX12_isEmptyPart S_17 v_16) fun r_41 => gd ((0 ≤ v_16 ∧ v_16 < 30) ∧ (r_41 = 0 ∨ r_41 = 1)) <| nx (up S_17 89 v_16 r_41) fun S_43 => mX12_empties_37 v_6 f (v_16 + 1) S_43)
def mX12_empties_26  : Nat → Int → St → Option (St)
  | 0, _, _ => none
  | f + 1, v_6, S_7 => gd (inI v_6) <| if 30 < v_6 then (some (S_7)) else (bd1 (mX12_empties_37 v_6 FU 0 S_7) fun S_18 => bd1 (mX12_empties_66 v_6 FU 0 S_18) fun S_23 => mX12_empties_26 f (v_6 + 1) S_23)
def mX12_empties_2  : Nat → Int → St → Option (St)
  | 0, _, _ => none
  | f + 1, v_1, S_2 => gd (inI v_1) <| if 30 ≤ v_1 then (some (S_2)) else (gd (0 ≤ v_1 ∧ v_1 < 30) <| nx (up S_2 89 v_1 0) fun S_50 => mX12_empties_2 f (v_1 + 1) S_50)
def mX12_empties (S0 : St)  : Option (St) := bd1 (mX12_empties_2 FU 0 S0) fun S_3 => bd1 (mX12_empties_26 FU 0 S_3) fun S_8 => some (S_8)
set_option maxHeartbeats 4000000 in
set_option maxRecDepth 100000 in
theorem vX12_empties (l : Launch) {D : va_G} {cy : Nat → ClassId} {b n : Nat} (hn : 102 ≤ n) {X : Nat → va_E} {S0 : St}  {o1 : St} (hM : mX12_empties S0  = some o1) : gV l yX12_empties cX12_empties 3 4 0 0 D cy b n (enc b cy X S0) [.ref (b + 80)] (fun u => u = (n, enc b cy X o1)) := by
  refine gV_of (by decide) (Nat.le_of_ble_eq_true rfl) ?_
  intro p e s m args below meth c S hr hlk hin hsz ls hl hG
  have hx := S.1
  have hb := S.2.1
  have hl : lv_has ls 3 [(0, .ref (b + 80))] := hl
  replace hG : gW D cy b n s s.heap [] (enc b cy X S0) := hG
  obtain ⟨H, eH⟩ : ∃ H, H = s.heap := ⟨_, rfl⟩
  obtain ⟨locs, elocs⟩ : ∃ locs : List Loc, locs = [] := ⟨_, rfl⟩
  rw [← eH, ← elocs] at hG
  rw [← eH, ← elocs]
  clear eH elocs
  unfold mX12_empties at hM
  refine lv_iconst (v := iI 0) hx hb dX12_empties_0 (by decide) ?_
  refine lv_istore_n (lv' := [(1, .int (iI 0)), (0, .ref (b + 80))]) hx hb dX12_empties_1 rfl hl (by decide) rfl (fun ls hl => ?_)
  obtain ⟨S_3, hc_4, hM⟩ := bd1_some hM
  have hK_5 : ∀ (H : Heap) (locs : List Loc) (ls : Array Slot), gW D cy b n s H locs (enc b cy X S_3) → lv_has ls 3 [(0, .ref (b + 80))] → W p l e (gRm 4 0 0) s m args below meth c H locs 0 0 (gQV D cy b s args below 0 0 (fun u => u = (n, enc b cy X o1))) (F0 m 24 ls []) := by
    intro H locs ls hG hl
    refine lv_iconst (v := iI 0) hx hb dX12_empties_24 (by decide) ?_
    refine lv_istore_n (lv' := [(1, .int (iI 0)), (0, .ref (b + 80))]) hx hb dX12_empties_25 rfl hl (by decide) rfl (fun ls hl => ?_)
    obtain ⟨S_8, hc_9, hM⟩ := bd1_some hM
    have hK_10 : ∀ (H : Heap) (locs : List Loc) (ls : Array Slot), gW D cy b n s H locs (enc b cy X S_8) → lv_has ls 3 [] → W p l e (gRm 4 0 0) s m args below meth c H locs 0 0 (gQV D cy b s args below 0 0 (fun u => u = (n, enc b cy X o1))) (F0 m 102 ls []) := by
      intro H locs ls hG hl
      cases hM
      exact g_vret S hr hlk hG hsz dX12_empties_102 ⟨Nat.le_of_ble_eq_true rfl, Nat.le_of_ble_eq_true rfl⟩ rfl
    have loop_11 : ∀ (f : Nat) (v_6 : Int) (S_7 : St) (H : Heap) (locs : List Loc) (ls : Array Slot), mX12_empties_26 f v_6 S_7 = some S_8 → gW D cy b n s H locs (enc b cy X S_7) → lv_has ls 3 [(1, .int (iI v_6)), (0, .ref (b + 80))] → W p l e (gRm 4 0 0) s m args below meth c H locs 0 0 (gQV D cy b s args below 0 0 (fun u => u = (n, enc b cy X o1))) (F0 m 26 ls []) := by
      clear hM
      intro f
      induction f with
      | zero => intro v_6 S_7 H locs ls hM; rw [mX12_empties_26] at hM; cases hM
      | succ f_13 ih_12 =>
        intro v_6 S_7 H locs ls hM hG hl
        rw [mX12_empties_26] at hM
        refine lv_iload_n hx hb dX12_empties_26 rfl (lv_at hl 0 rfl) ?_
        refine lv_aload_n hx hb dX12_empties_27 rfl (lv_at hl 1 rfl) ?_
        refine m_get S hG 80 83 13 rfl ec_83 cpX12 wm_1686 dX12_empties_28 rfl (Nat.lt_of_lt_of_le (Nat.le_of_ble_eq_true rfl) hn) (by decide) ?_
        refine m_alen S hG 86 3 ec_89 rfl (Nat.lt_of_lt_of_le (Nat.le_of_ble_eq_true rfl) hn) dX12_empties_31 (N := 30) (show Int32.ofNat 30 = iI 30 by decide) ?_
        obtain ⟨hg_14, hM⟩ := gd_some hM
        refine gi_icmp_gt (tgt := 102) hx hb dX12_empties_32 (by decide) hg_14 (by decide) (fun c_15 => ?_) (fun c_15 => ?_)
        · replace hM := ifp hM c_15
          cases hM
          exact hK_10 H locs ls hG (lv_sub hl [] rfl)
        · replace hM := ifn hM c_15
          refine lv_iconst (v := iI 0) hx hb dX12_empties_35 (by decide) ?_
          refine lv_istore_n (lv' := [(2, .int (iI 0)), (1, .int (iI v_6)), (0, .ref (b + 80))]) hx hb dX12_empties_36 rfl hl (by decide) rfl (fun ls hl => ?_)
          obtain ⟨S_18, hc_19, hM⟩ := bd1_some hM
          have hK_20 : ∀ (H : Heap) (locs : List Loc) (ls : Array Slot), gW D cy b n s H locs (enc b cy X S_18) → lv_has ls 3 [(1, .int (iI v_6)), (0, .ref (b + 80))] → W p l e (gRm 4 0 0) s m args below meth c H locs 0 0 (gQV D cy b s args below 0 0 (fun u => u = (n, enc b cy X o1))) (F0 m 64 ls []) := by
            intro H locs ls hG hl
            refine lv_iconst (v := iI 0) hx hb dX12_empties_64 (by decide) ?_
            refine lv_istore_n (lv' := [(2, .int (iI 0)), (1, .int (iI v_6)), (0, .ref (b + 80))]) hx hb dX12_empties_65 rfl hl (by decide) rfl (fun ls hl => ?_)
            obtain ⟨S_23, hc_24, hM⟩ := bd1_some hM
            have hK_25 : ∀ (H : Heap) (locs : List Loc) (ls : Array Slot), gW D cy b n s H locs (enc b cy X S_23) → lv_has ls 3 [(1, .int (iI v_6)), (0, .ref (b + 80))] → W p l e (gRm 4 0 0) s m args below meth c H locs 0 0 (gQV D cy b s args below 0 0 (fun u => u = (n, enc b cy X o1))) (F0 m 96 ls []) := by
              intro H locs ls hG hl
              refine lv_iinc (v := iI (v_6 + 1)) (lv' := [(1, .int (iI (v_6 + 1))), (0, .ref (b + 80))]) hx hb dX12_empties_96 hl (k := 0) rfl ((iI_add v_6 (1)).trans (congrArg iI (by omega))) (by decide) rfl (fun ls hl => ?_)
              refine lv_goto (tgt := 26) hx hb dX12_empties_99 (by decide) ?_
              exact ih_12 (v_6 + 1) S_23 H locs ls hM hG (lv_sub hl [0, 1] rfl)
            have loop_26 : ∀ (f : Nat) (v_21 : Int) (S_22 : St) (H : Heap) (locs : List Loc) (ls : Array Slot), mX12_empties_66 v_6 f v_21 S_22 = some S_23 → gW D cy b n s H locs (enc b cy X S_22) → lv_has ls 3 [(2, .int (iI v_21)), (1, .int (iI v_6)), (0, .ref (b + 80))] → W p l e (gRm 4 0 0) s m args below meth c H locs 0 0 (gQV D cy b s args below 0 0 (fun u => u = (n, enc b cy X o1))) (F0 m 66 ls []) := by
              clear hM
              intro f
              induction f with
              | zero => intro v_21 S_22 H locs ls hM; rw [mX12_empties_66] at hM; cases hM
              | succ f_28 ih_27 =>
                intro v_21 S_22 H locs ls hM hG hl
                rw [mX12_empties_66] at hM
                refine lv_iload_n hx hb dX12_empties_66 rfl (lv_at hl 0 rfl) ?_
                refine lv_aload_n hx hb dX12_empties_67 rfl (lv_at hl 2 rfl) ?_
                refine m_get S hG 80 83 0 rfl ec_83 cpX12 wm_1673 dX12_empties_68 rfl (Nat.lt_of_lt_of_le (Nat.le_of_ble_eq_true rfl) hn) (by decide) ?_
                refine lv_iconst (v := iI 0) hx hb dX12_empties_71 (by decide) ?_
                refine mi_ald S hG 81 84 rfl ec_84 (Nat.lt_of_lt_of_le (Nat.le_of_ble_eq_true rfl) hn) dX12_empties_72 (by decide) (by decide) ?_
                obtain ⟨hg_29, hM⟩ := gd_some hM
                refine gi_icmp_ge (tgt := 96) hx hb dX12_empties_73 (by decide) hg_29.1 hg_29.2 (fun c_30 => ?_) (fun c_30 => ?_)
                · replace hM := ifp hM c_30
                  cases hM
                  exact hK_25 H locs ls hG (lv_sub hl [1, 2] rfl)
                · replace hM := ifn hM c_30
                  refine lv_aload_n hx hb dX12_empties_76 rfl (lv_at hl 2 rfl) ?_
                  refine m_get S hG 80 83 13 rfl ec_83 cpX12 wm_1686 dX12_empties_77 rfl (Nat.lt_of_lt_of_le (Nat.le_of_ble_eq_true rfl) hn) (by decide) ?_
                  refine lv_bipush (v := iI 24) hx hb dX12_empties_80 (by decide) ?_
                  refine lv_iload_n hx hb dX12_empties_82 rfl (lv_at hl 0 rfl) ?_
                  refine gi_add hx hb dX12_empties_83 ?_
                  refine lv_aload_n hx hb dX12_empties_84 rfl (lv_at hl 2 rfl) ?_
                  refine lv_iload_n hx hb dX12_empties_85 rfl (lv_at hl 0 rfl) ?_
                  obtain ⟨r_32, hc_31, hM⟩ := bd1_some hM
                  refine g_vi (As := [.int (iI v_21)]) (rest := [.int (iI (24 + v_21)), .ref (b + 86)]) S hG hsz (vX12_isEmptyExpr l hn v_21 hc_31) wV_12_247 (ec_83 _) cpX12 (Nat.lt_of_lt_of_le (Nat.le_of_ble_eq_true rfl) hn) dX12_empties_86 rfl hl.1 (ar := 1) (by decide +kernel) rfl ⟨Nat.le_of_ble_eq_true rfl, Nat.le_of_ble_eq_true rfl, Nat.le_of_ble_eq_true rfl, Nat.le_of_ble_eq_true rfl⟩ (Nat.le_of_ble_eq_true rfl) (fun rv uu H locs hp hG => ?_)
                  obtain ⟨rfl, rfl⟩ := hp
                  replace hG : gW D cy b n s H locs (enc b cy X S_22) := hG
                  obtain ⟨hg_33, hM⟩ := gd_some hM
                  refine mz_ast S hG 86 89 rfl ec_89 (Nat.lt_of_lt_of_le (Nat.le_of_ble_eq_true rfl) hn) dX12_empties_89 hg_33.1 (by decide) hg_33.2 (fun H locs S_34 eS_34 hG => ?_)
                  replace hM := nx_at hM eS_34
                  clear eS_34
                  refine lv_iinc (v := iI (v_21 + 1)) (lv' := [(2, .int (iI (v_21 + 1))), (1, .int (iI v_6)), (0, .ref (b + 80))]) hx hb dX12_empties_90 hl (k := 0) rfl ((iI_add v_21 (1)).trans (congrArg iI (by omega))) (by decide) rfl (fun ls hl => ?_)
                  refine lv_goto (tgt := 66) hx hb dX12_empties_93 (by decide) ?_
                  exact ih_27 (v_21 + 1) S_34 H locs ls hM hG (lv_sub hl [0, 1, 2] rfl)
            exact loop_26 FU 0 S_18 H locs ls hc_24 hG (lv_sub hl [0, 1, 2] rfl)
          have loop_35 : ∀ (f : Nat) (v_16 : Int) (S_17 : St) (H : Heap) (locs : List Loc) (ls : Array Slot), mX12_empties_37 v_6 f v_16 S_17 = some S_18 → gW D cy b n s H locs (enc b cy X S_17) → lv_has ls 3 [(2, .int (iI v_16)), (1, .int (iI v_6)), (0, .ref (b + 80))] → W p l e (gRm 4 0 0) s m args below meth c H locs 0 0 (gQV D cy b s args below 0 0 (fun u => u = (n, enc b cy X o1))) (F0 m 37 ls []) := by
            clear hM
            intro f
            induction f with
            | zero => intro v_16 S_17 H locs ls hM; rw [mX12_empties_37] at hM; cases hM
            | succ f_37 ih_36 =>
              intro v_16 S_17 H locs ls hM hG hl
              rw [mX12_empties_37] at hM
              refine lv_iload_n hx hb dX12_empties_37 rfl (lv_at hl 0 rfl) ?_
              refine lv_aload_n hx hb dX12_empties_38 rfl (lv_at hl 2 rfl) ?_
              refine m_get S hG 80 83 0 rfl ec_83 cpX12 wm_1673 dX12_empties_39 rfl (Nat.lt_of_lt_of_le (Nat.le_of_ble_eq_true rfl) hn) (by decide) ?_
              refine lv_iconst (v := iI 2) hx hb dX12_empties_42 (by decide) ?_
              refine mi_ald S hG 81 84 rfl ec_84 (Nat.lt_of_lt_of_le (Nat.le_of_ble_eq_true rfl) hn) dX12_empties_43 (by decide) (by decide) ?_
              obtain ⟨hg_38, hM⟩ := gd_some hM
              refine gi_icmp_ge (tgt := 64) hx hb dX12_empties_44 (by decide) hg_38.1 hg_38.2 (fun c_39 => ?_) (fun c_39 => ?_)
              · replace hM := ifp hM c_39
                cases hM
                exact hK_20 H locs ls hG (lv_sub hl [1, 2] rfl)
              · replace hM := ifn hM c_39
                refine lv_aload_n hx hb dX12_empties_47 rfl (lv_at hl 2 rfl) ?_
                refine m_get S hG 80 83 13 rfl ec_83 cpX12 wm_1686 dX12_empties_48 rfl (Nat.lt_of_lt_of_le (Nat.le_of_ble_eq_true rfl) hn) (by decide) ?_
                refine lv_iload_n hx hb dX12_empties_51 rfl (lv_at hl 0 rfl) ?_
                refine lv_aload_n hx hb dX12_empties_52 rfl (lv_at hl 2 rfl) ?_
                refine lv_iload_n hx hb dX12_empties_53 rfl (lv_at hl 0 rfl) ?_
                obtain ⟨r_41, hc_40, hM⟩ := bd1_some hM
                refine g_vi (As := [.int (iI v_16)]) (rest := [.int (iI v_16), .ref (b + 86)]) S hG hsz (vX12_isEmptyPart l hn v_16 hc_40) wV_12_250 (ec_83 _) cpX12 (Nat.lt_of_lt_of_le (Nat.le_of_ble_eq_true rfl) hn) dX12_empties_54 rfl hl.1 (ar := 1) (by decide +kernel) rfl ⟨Nat.le_of_ble_eq_true rfl, Nat.le_of_ble_eq_true rfl, Nat.le_of_ble_eq_true rfl, Nat.le_of_ble_eq_true rfl⟩ (Nat.le_of_ble_eq_true rfl) (fun rv uu H locs hp hG => ?_)
                obtain ⟨rfl, rfl⟩ := hp
                replace hG : gW D cy b n s H locs (enc b cy X S_17) := hG
                obtain ⟨hg_42, hM⟩ := gd_some hM
                refine mz_ast S hG 86 89 rfl ec_89 (Nat.lt_of_lt_of_le (Nat.le_of_ble_eq_true rfl) hn) dX12_empties_57 hg_42.1 (by decide) hg_42.2 (fun H locs S_43 eS_43 hG => ?_)
                replace hM := nx_at hM eS_43
                clear eS_43
                refine lv_iinc (v := iI (v_16 + 1)) (lv' := [(2, .int (iI (v_16 + 1))), (1, .int (iI v_6)), (0, .ref (b + 80))]) hx hb dX12_empties_58 hl (k := 0) rfl ((iI_add v_16 (1)).trans (congrArg iI (by omega))) (by decide) rfl (fun ls hl => ?_)
                refine lv_goto (tgt := 37) hx hb dX12_empties_61 (by decide) ?_
                exact ih_36 (v_16 + 1) S_43 H locs ls hM hG (lv_sub hl [0, 1, 2] rfl)
          exact loop_35 FU 0 S_7 H locs ls hc_19 hG (lv_sub hl [0, 1, 2] rfl)
    exact loop_11 FU 0 S_3 H locs ls hc_9 hG (lv_sub hl [0, 1] rfl)
  have loop_44 : ∀ (f : Nat) (v_1 : Int) (S_2 : St) (H : Heap) (locs : List Loc) (ls : Array Slot), mX12_empties_2 f v_1 S_2 = some S_3 → gW D cy b n s H locs (enc b cy X S_2) → lv_has ls 3 [(1, .int (iI v_1)), (0, .ref (b + 80))] → W p l e (gRm 4 0 0) s m args below meth c H locs 0 0 (gQV D cy b s args below 0 0 (fun u => u = (n, enc b cy X o1))) (F0 m 2 ls []) := by
    clear hM
    intro f
    induction f with
    | zero => intro v_1 S_2 H locs ls hM; rw [mX12_empties_2] at hM; cases hM
    | succ f_46 ih_45 =>
      intro v_1 S_2 H locs ls hM hG hl
      rw [mX12_empties_2] at hM
      refine lv_iload_n hx hb dX12_empties_2 rfl (lv_at hl 0 rfl) ?_
      refine lv_aload_n hx hb dX12_empties_3 rfl (lv_at hl 1 rfl) ?_
      refine m_get S hG 80 83 13 rfl ec_83 cpX12 wm_1686 dX12_empties_4 rfl (Nat.lt_of_lt_of_le (Nat.le_of_ble_eq_true rfl) hn) (by decide) ?_
      refine m_alen S hG 86 3 ec_89 rfl (Nat.lt_of_lt_of_le (Nat.le_of_ble_eq_true rfl) hn) dX12_empties_7 (N := 30) (show Int32.ofNat 30 = iI 30 by decide) ?_
      obtain ⟨hg_47, hM⟩ := gd_some hM
      refine gi_icmp_ge (tgt := 24) hx hb dX12_empties_8 (by decide) hg_47 (by decide) (fun c_48 => ?_) (fun c_48 => ?_)
      · replace hM := ifp hM c_48
        cases hM
        exact hK_5 H locs ls hG (lv_sub hl [1] rfl)
      · replace hM := ifn hM c_48
        refine lv_aload_n hx hb dX12_empties_11 rfl (lv_at hl 1 rfl) ?_
        refine m_get S hG 80 83 13 rfl ec_83 cpX12 wm_1686 dX12_empties_12 rfl (Nat.lt_of_lt_of_le (Nat.le_of_ble_eq_true rfl) hn) (by decide) ?_
        refine lv_iload_n hx hb dX12_empties_15 rfl (lv_at hl 0 rfl) ?_
        refine lv_iconst (v := iI 0) hx hb dX12_empties_16 (by decide) ?_
        obtain ⟨hg_49, hM⟩ := gd_some hM
        refine mz_ast S hG 86 89 rfl ec_89 (Nat.lt_of_lt_of_le (Nat.le_of_ble_eq_true rfl) hn) dX12_empties_17 hg_49 (by decide) (by decide) (fun H locs S_50 eS_50 hG => ?_)
        replace hM := nx_at hM eS_50
        clear eS_50
        refine lv_iinc (v := iI (v_1 + 1)) (lv' := [(1, .int (iI (v_1 + 1))), (0, .ref (b + 80))]) hx hb dX12_empties_18 hl (k := 0) rfl ((iI_add v_1 (1)).trans (congrArg iI (by omega))) (by decide) rfl (fun ls hl => ?_)
        refine lv_goto (tgt := 2) hx hb dX12_empties_21 (by decide) ?_
        exact ih_45 (v_1 + 1) S_50 H locs ls hM hG (lv_sub hl [0, 1] rfl)
  exact loop_44 FU 0 S0 H locs ls hc_4 hG (lv_sub hl [0, 1] rfl)
theorem wV_12_262 : gWV "GrownKindsModel" 262 yX12_empties cX12_empties 3 none := ⟨wm_1933, wm_1935, wm_105, wm_188, wm_1936, by decide +kernel, by decide +kernel⟩
def mX12_empty (S0 : St) (a1 : Int) : Option (Int × St) := bd1 (mX12_isKind S0 a1) fun r_2 => gd (inI r_2) <| if r_2 = 0 then (some ((-2), S0)) else (bd1 (mX12_empties S0) fun S_6 => gd (0 ≤ (24 + a1) ∧ (24 + a1) < 30) <| gd (inI (S_6 89 (24 + a1))) <| if (S_6 89 (24 + a1)) = 0 then (some (0, S_6)) else (some (1, S_6)))
set_option maxHeartbeats 4000000 in
set_option maxRecDepth 100000 in
theorem vX12_empty (l : Launch) {D : va_G} {cy : Nat → ClassId} {b n : Nat} (hn : 102 ≤ n) {X : Nat → va_E} {S0 : St} (a1 : Int) {o1 : Int} {o2 : St} (hM : mX12_empty S0 a1 = some (o1, o2)) : gI l yX12_empty cX12_empty 2 (some .int) 5 0 0 D cy b n (enc b cy X S0) [.ref (b + 80), .int (iI a1)] (fun r u => r = iI o1 ∧ u = (n, enc b cy X o2)) := by
  refine gI_of (by decide) (Nat.le_of_ble_eq_true rfl) ?_
  intro p e s m args below meth c S hr hlk hin hsz ls hl hG
  have hx := S.1
  have hb := S.2.1
  have hl : lv_has ls 2 [(0, .ref (b + 80)), (1, .int (iI a1))] := hl
  replace hG : gW D cy b n s s.heap [] (enc b cy X S0) := hG
  obtain ⟨H, eH⟩ : ∃ H, H = s.heap := ⟨_, rfl⟩
  obtain ⟨locs, elocs⟩ : ∃ locs : List Loc, locs = [] := ⟨_, rfl⟩
  rw [← eH, ← elocs] at hG
  rw [← eH, ← elocs]
  clear eH elocs
  unfold mX12_empty at hM
  refine lv_aload_n hx hb dX12_empty_0 rfl (lv_at hl 0 rfl) ?_
  refine lv_iload_n hx hb dX12_empty_1 rfl (lv_at hl 1 rfl) ?_
  obtain ⟨r_2, hc_1, hM⟩ := bd1_some hM
  refine g_vi (As := [.int (iI a1)]) (rest := []) S hG hsz (vX12_isKind l hn a1 hc_1) wV_12_225 (ec_83 _) cpX12 (Nat.lt_of_lt_of_le (Nat.le_of_ble_eq_true rfl) hn) dX12_empty_2 rfl hl.1 (ar := 1) (by decide +kernel) rfl ⟨Nat.le_of_ble_eq_true rfl, Nat.le_of_ble_eq_true rfl, Nat.le_of_ble_eq_true rfl, Nat.le_of_ble_eq_true rfl⟩ (Nat.le_of_ble_eq_true rfl) (fun rv uu H locs hp hG => ?_)
  obtain ⟨rfl, rfl⟩ := hp
  replace hG : gW D cy b n s H locs (enc b cy X S0) := hG
  obtain ⟨hg_3, hM⟩ := gd_some hM
  refine gi_if_ne (tgt := 11) hx hb dX12_empty_5 (by decide) hg_3 (fun c_4 => ?_) (fun c_4 => ?_)
  · replace hM := ifn hM c_4
    refine lv_aload_n hx hb dX12_empty_11 rfl (lv_at hl 0 rfl) ?_
    obtain ⟨S_6, hc_5, hM⟩ := bd1_some hM
    refine g_vv (As := []) (rest := []) S hG hsz (vX12_empties l hn  hc_5) wV_12_262 (ec_83 _) cpX12 (Nat.lt_of_lt_of_le (Nat.le_of_ble_eq_true rfl) hn) dX12_empty_12 rfl hl.1 (ar := 0) (by decide +kernel) rfl ⟨Nat.le_of_ble_eq_true rfl, Nat.le_of_ble_eq_true rfl, Nat.le_of_ble_eq_true rfl, Nat.le_of_ble_eq_true rfl⟩ (Nat.le_of_ble_eq_true rfl) (fun uu H locs hp hG => ?_)
    obtain rfl := hp
    replace hG : gW D cy b n s H locs (enc b cy X S_6) := hG
    refine lv_aload_n hx hb dX12_empty_15 rfl (lv_at hl 0 rfl) ?_
    refine m_get S hG 80 83 13 rfl ec_83 cpX12 wm_1686 dX12_empty_16 rfl (Nat.lt_of_lt_of_le (Nat.le_of_ble_eq_true rfl) hn) (by decide) ?_
    refine lv_bipush (v := iI 24) hx hb dX12_empty_19 (by decide) ?_
    refine lv_iload_n hx hb dX12_empty_21 rfl (lv_at hl 1 rfl) ?_
    refine gi_add hx hb dX12_empty_22 ?_
    obtain ⟨hg_7, hM⟩ := gd_some hM
    refine mz_ald S hG 86 89 rfl ec_89 (Nat.lt_of_lt_of_le (Nat.le_of_ble_eq_true rfl) hn) dX12_empty_23 hg_7 (by decide) ?_
    obtain ⟨hg_8, hM⟩ := gd_some hM
    refine gi_if_eq (tgt := 31) hx hb dX12_empty_24 (by decide) hg_8 (fun c_9 => ?_) (fun c_9 => ?_)
    · replace hM := ifp hM c_9
      refine lv_iconst (v := iI 0) hx hb dX12_empty_31 (by decide) ?_
      cases hM
      exact g_iret S hr hlk hG hsz dX12_empty_32 ⟨Nat.le_of_ble_eq_true rfl, Nat.le_of_ble_eq_true rfl⟩ ⟨rfl, rfl⟩
    · replace hM := ifn hM c_9
      refine lv_iconst (v := iI 1) hx hb dX12_empty_27 (by decide) ?_
      refine lv_goto (tgt := 32) hx hb dX12_empty_28 (by decide) ?_
      cases hM
      exact g_iret S hr hlk hG hsz dX12_empty_32 ⟨Nat.le_of_ble_eq_true rfl, Nat.le_of_ble_eq_true rfl⟩ ⟨rfl, rfl⟩
  · replace hM := ifp hM c_4
    refine lv_bipush (v := iI (-2)) hx hb dX12_empty_8 (by decide) ?_
    cases hM
    exact g_iret S hr hlk hG hsz dX12_empty_10 ⟨Nat.le_of_ble_eq_true rfl, Nat.le_of_ble_eq_true rfl⟩ ⟨rfl, rfl⟩
def mX12_exprMany_18 (S0 : St) (a1 : Int) (a2 : Int) (a3 : Int) : Nat → Int → Int → Int → Option (Int)
  | 0, _, _, _ => none
  | f + 1, v_3, v_4, v_5 => gd (inI v_3) <| if v_3 < 0 then (some (v_5)) else (bd1 (mX12_isOff S0 a1 v_4) fun r_15 => bd1 (gd (inI r_15) <| if r_15 = 0 then (gd (0 ≤ (120 + v_3) ∧ (120 + v_3) < 228) <| bd1 (mX12_place (S0 84 (120 + v_3)) a2 a3) fun r_27 => gd (0 ≤ r_27 ∧ r_27 < 1536) <| some ((S0 91 r_27))) else (some (0))) fun z_16 => bd1 (mX12_add v_5 z_16 1000000000000) fun r_20 => gd (0 ≤ (144 + v_3) ∧ (144 + v_3) < 228) <| nx (S0 84 (144 + v_3)) fun x_22 => mX12_exprMany_18 S0 a1 a2 a3 f x_22 (v_4 + 1) r_20)
def mX12_exprMany (S0 : St) (a1 : Int) (a2 : Int) (a3 : Int) : Option (Int) := gd (0 ≤ (168 + a1) ∧ (168 + a1) < 228) <| nx (S0 84 (168 + a1)) fun x_2 => bd1 (mX12_exprMany_18 S0 a1 a2 a3 FU x_2 0 0) fun y_6 => some (y_6)
set_option maxHeartbeats 4000000 in
set_option maxRecDepth 100000 in
theorem vX12_exprMany (l : Launch) {D : va_G} {cy : Nat → ClassId} {b n : Nat} (hn : 102 ≤ n) {X : Nat → va_E} {S0 : St} (a1 : Int) (a2 : Int) (a3 : Int) {o1 : Int} (hM : mX12_exprMany S0 a1 a2 a3 = some o1) : gL l yX12_exprMany cX12_exprMany 8 2 0 0 D cy b n (enc b cy X S0) [.ref (b + 80), .int (iI a1), .int (iI a2), .int (iI a3)] (fun r u => r = jJ o1 ∧ u = (n, enc b cy X S0)) := by
  refine gL_of (by decide) (Nat.le_of_ble_eq_true rfl) ?_
  intro p e s m args below meth c S hr hlk hin hsz ls hl hG
  have hx := S.1
  have hb := S.2.1
  have hl : lv_has ls 8 [(0, .ref (b + 80)), (1, .int (iI a1)), (2, .int (iI a2)), (3, .int (iI a3))] := hl
  replace hG : gW D cy b n s s.heap [] (enc b cy X S0) := hG
  obtain ⟨H, eH⟩ : ∃ H, H = s.heap := ⟨_, rfl⟩
  obtain ⟨locs, elocs⟩ : ∃ locs : List Loc, locs = [] := ⟨_, rfl⟩
  rw [← eH, ← elocs] at hG
  rw [← eH, ← elocs]
  clear eH elocs
  unfold mX12_exprMany at hM
  refine lv_lconst (v := jJ 0) hx hb dX12_exprMany_0 (by decide) ?_
  refine lv_lstore (lv' := [(4, .long (jJ 0)), (0, .ref (b + 80)), (1, .int (iI a1)), (2, .int (iI a2)), (3, .int (iI a3))]) hx hb dX12_exprMany_1 hl (by decide) rfl (fun ls hl => ?_)
  refine lv_iconst (v := iI 0) hx hb dX12_exprMany_3 (by decide) ?_
  refine lv_istore (lv' := [(6, .int (iI 0)), (4, .long (jJ 0)), (0, .ref (b + 80)), (1, .int (iI a1)), (2, .int (iI a2)), (3, .int (iI a3))]) hx hb dX12_exprMany_4 hl (by decide) rfl (fun ls hl => ?_)
  refine lv_aload_n hx hb dX12_exprMany_6 rfl (lv_at hl 2 rfl) ?_
  refine m_get S hG 80 83 0 rfl ec_83 cpX12 wm_1673 dX12_exprMany_7 rfl (Nat.lt_of_lt_of_le (Nat.le_of_ble_eq_true rfl) hn) (by decide) ?_
  refine lv_sipush (v := iI 168) hx hb dX12_exprMany_10 (by decide) ?_
  refine lv_iload_n hx hb dX12_exprMany_13 rfl (lv_at hl 3 rfl) ?_
  refine gi_add hx hb dX12_exprMany_14 ?_
  obtain ⟨hg_1, hM⟩ := gd_some hM
  refine mi_ald S hG 81 84 rfl ec_84 (Nat.lt_of_lt_of_le (Nat.le_of_ble_eq_true rfl) hn) dX12_exprMany_15 hg_1 (by decide) ?_
  refine gi_nm (fun x_2 ex_2 => ?_)
  replace hM := nx_at hM ex_2
  clear ex_2
  refine lv_istore (lv' := [(7, .int (iI x_2)), (6, .int (iI 0)), (4, .long (jJ 0)), (0, .ref (b + 80)), (1, .int (iI a1)), (2, .int (iI a2)), (3, .int (iI a3))]) hx hb dX12_exprMany_16 hl (by decide) rfl (fun ls hl => ?_)
  obtain ⟨y_6, hc_7, hM⟩ := bd1_some hM
  have hK_8 : ∀ (H : Heap) (locs : List Loc) (ls : Array Slot), gW D cy b n s H locs (enc b cy X S0) → lv_has ls 8 [(4, .long (jJ y_6))] → W p l e (gRm 2 0 0) s m args below meth c H locs 0 0 (gQL D cy b s args below 0 0 (fun r u => r = jJ o1 ∧ u = (n, enc b cy X S0))) (F0 m 86 ls []) := by
    intro H locs ls hG hl
    refine lv_lload hx hb dX12_exprMany_86 (lv_at hl 0 rfl) ?_
    cases hM
    exact g_lret S hr hlk hG hsz dX12_exprMany_88 ⟨Nat.le_of_ble_eq_true rfl, Nat.le_of_ble_eq_true rfl⟩ ⟨rfl, rfl⟩
  have loop_9 : ∀ (f : Nat) (v_3 : Int) (v_4 : Int) (v_5 : Int) (H : Heap) (locs : List Loc) (ls : Array Slot), mX12_exprMany_18 S0 a1 a2 a3 f v_3 v_4 v_5 = some y_6 → gW D cy b n s H locs (enc b cy X S0) → lv_has ls 8 [(7, .int (iI v_3)), (6, .int (iI v_4)), (4, .long (jJ v_5)), (0, .ref (b + 80)), (1, .int (iI a1)), (2, .int (iI a2)), (3, .int (iI a3))] → W p l e (gRm 2 0 0) s m args below meth c H locs 0 0 (gQL D cy b s args below 0 0 (fun r u => r = jJ o1 ∧ u = (n, enc b cy X S0))) (F0 m 18 ls []) := by
    clear hM
    intro f
    induction f with
    | zero => intro v_3 v_4 v_5 H locs ls hM; rw [mX12_exprMany_18] at hM; cases hM
    | succ f_11 ih_10 =>
      intro v_3 v_4 v_5 H locs ls hM hG hl
      rw [mX12_exprMany_18] at hM
      refine lv_iload hx hb dX12_exprMany_18 (lv_at hl 0 rfl) ?_
      obtain ⟨hg_12, hM⟩ := gd_some hM
      refine gi_if_lt (tgt := 86) hx hb dX12_exprMany_20 (by decide) hg_12 (fun c_13 => ?_) (fun c_13 => ?_)
      · replace hM := ifp hM c_13
        cases hM
        exact hK_8 H locs ls hG (lv_sub hl [2] rfl)
      · replace hM := ifn hM c_13
        refine lv_lload hx hb dX12_exprMany_23 (lv_at hl 2 rfl) ?_
        refine lv_aload_n hx hb dX12_exprMany_25 rfl (lv_at hl 3 rfl) ?_
        refine lv_iload_n hx hb dX12_exprMany_26 rfl (lv_at hl 4 rfl) ?_
        refine lv_iload hx hb dX12_exprMany_27 (lv_at hl 1 rfl) ?_
        obtain ⟨r_15, hc_14, hM⟩ := bd1_some hM
        refine g_vi (As := [.int (iI a1), .int (iI v_4)]) (rest := [.long (jJ v_5)]) S hG hsz (vX12_isOff l hn a1 v_4 hc_14) wV_12_231 (ec_83 _) cpX12 (Nat.lt_of_lt_of_le (Nat.le_of_ble_eq_true rfl) hn) dX12_exprMany_29 rfl hl.1 (ar := 2) (by decide +kernel) rfl ⟨Nat.le_of_ble_eq_true rfl, Nat.le_of_ble_eq_true rfl, Nat.le_of_ble_eq_true rfl, Nat.le_of_ble_eq_true rfl⟩ (Nat.le_of_ble_eq_true rfl) (fun rv uu H locs hp hG => ?_)
        obtain ⟨rfl, rfl⟩ := hp
        replace hG : gW D cy b n s H locs (enc b cy X S0) := hG
        obtain ⟨z_16, hc_17, hM⟩ := bd1_some hM
        have hK_18 : ∀ (H : Heap) (locs : List Loc) (ls : Array Slot), gW D cy b n s H locs (enc b cy X S0) → lv_has ls 8 [(7, .int (iI v_3)), (6, .int (iI v_4)), (0, .ref (b + 80)), (1, .int (iI a1)), (2, .int (iI a2)), (3, .int (iI a3))] → W p l e (gRm 2 0 0) s m args below meth c H locs 0 0 (gQL D cy b s args below 0 0 (fun r u => r = jJ o1 ∧ u = (n, enc b cy X S0))) (F0 m 59 ls [.long (jJ z_16), .long (jJ v_5)]) := by
          intro H locs ls hG hl
          refine lv_ldc2 (v := 1000000000000) hx hb S.2.2.2.1 (S.2.2.2.2 _ wm_2044) dX12_exprMany_59 ?_
          refine gj_as 1000000000000 (by decide) ?_
          obtain ⟨r_20, hc_19, hM⟩ := bd1_some hM
          refine g_sl (As := [.long (jJ v_5), .long (jJ z_16), .long (jJ 1000000000000)]) (rest := []) S hG hsz (vX12_add l hn v_5 z_16 1000000000000 hc_19) wS_12_282 dX12_exprMany_62 rfl hl.1 (ar := 3) (by decide +kernel) rfl ⟨Nat.le_of_ble_eq_true rfl, Nat.le_of_ble_eq_true rfl, Nat.le_of_ble_eq_true rfl, Nat.le_of_ble_eq_true rfl⟩ (Nat.le_of_ble_eq_true rfl) (fun rv uu H locs hp hG => ?_)
          obtain ⟨rfl, rfl⟩ := hp
          replace hG : gW D cy b n s H locs (enc b cy X S0) := hG
          refine lv_lstore (lv' := [(4, .long (jJ r_20)), (7, .int (iI v_3)), (6, .int (iI v_4)), (0, .ref (b + 80)), (1, .int (iI a1)), (2, .int (iI a2)), (3, .int (iI a3))]) hx hb dX12_exprMany_65 hl (by decide) rfl (fun ls hl => ?_)
          refine lv_iinc (v := iI (v_4 + 1)) (lv' := [(6, .int (iI (v_4 + 1))), (4, .long (jJ r_20)), (7, .int (iI v_3)), (0, .ref (b + 80)), (1, .int (iI a1)), (2, .int (iI a2)), (3, .int (iI a3))]) hx hb dX12_exprMany_67 hl (k := 2) rfl ((iI_add v_4 (1)).trans (congrArg iI (by omega))) (by decide) rfl (fun ls hl => ?_)
          refine lv_aload_n hx hb dX12_exprMany_70 rfl (lv_at hl 3 rfl) ?_
          refine m_get S hG 80 83 0 rfl ec_83 cpX12 wm_1673 dX12_exprMany_71 rfl (Nat.lt_of_lt_of_le (Nat.le_of_ble_eq_true rfl) hn) (by decide) ?_
          refine lv_sipush (v := iI 144) hx hb dX12_exprMany_74 (by decide) ?_
          refine lv_iload hx hb dX12_exprMany_77 (lv_at hl 2 rfl) ?_
          refine gi_add hx hb dX12_exprMany_79 ?_
          obtain ⟨hg_21, hM⟩ := gd_some hM
          refine mi_ald S hG 81 84 rfl ec_84 (Nat.lt_of_lt_of_le (Nat.le_of_ble_eq_true rfl) hn) dX12_exprMany_80 hg_21 (by decide) ?_
          refine gi_nm (fun x_22 ex_22 => ?_)
          replace hM := nx_at hM ex_22
          clear ex_22
          refine lv_istore (lv' := [(7, .int (iI x_22)), (6, .int (iI (v_4 + 1))), (4, .long (jJ r_20)), (0, .ref (b + 80)), (1, .int (iI a1)), (2, .int (iI a2)), (3, .int (iI a3))]) hx hb dX12_exprMany_81 hl (by decide) rfl (fun ls hl => ?_)
          refine lv_goto (tgt := 18) hx hb dX12_exprMany_83 (by decide) ?_
          exact ih_10 x_22 (v_4 + 1) r_20 H locs ls hM hG (lv_sub hl [0, 1, 2, 3, 4, 5, 6] rfl)
        clear hM
        replace hM := hc_17
        obtain ⟨hg_23, hM⟩ := gd_some hM
        refine gi_if_eq (tgt := 39) hx hb dX12_exprMany_32 (by decide) hg_23 (fun c_24 => ?_) (fun c_24 => ?_)
        · replace hM := ifp hM c_24
          refine lv_aload_n hx hb dX12_exprMany_39 rfl (lv_at hl 3 rfl) ?_
          refine m_get S hG 80 83 15 rfl ec_83 cpX12 wm_1688 dX12_exprMany_40 rfl (Nat.lt_of_lt_of_le (Nat.le_of_ble_eq_true rfl) hn) (by decide) ?_
          refine lv_aload_n hx hb dX12_exprMany_43 rfl (lv_at hl 3 rfl) ?_
          refine m_get S hG 80 83 0 rfl ec_83 cpX12 wm_1673 dX12_exprMany_44 rfl (Nat.lt_of_lt_of_le (Nat.le_of_ble_eq_true rfl) hn) (by decide) ?_
          refine lv_bipush (v := iI 120) hx hb dX12_exprMany_47 (by decide) ?_
          refine lv_iload hx hb dX12_exprMany_49 (lv_at hl 0 rfl) ?_
          refine gi_add hx hb dX12_exprMany_51 ?_
          obtain ⟨hg_25, hM⟩ := gd_some hM
          refine mi_ald S hG 81 84 rfl ec_84 (Nat.lt_of_lt_of_le (Nat.le_of_ble_eq_true rfl) hn) dX12_exprMany_52 hg_25 (by decide) ?_
          refine lv_iload_n hx hb dX12_exprMany_53 rfl (lv_at hl 5 rfl) ?_
          refine lv_iload_n hx hb dX12_exprMany_54 rfl (lv_at hl 6 rfl) ?_
          obtain ⟨r_27, hc_26, hM⟩ := bd1_some hM
          refine g_si (As := [.int (iI (S0 84 (120 + v_3))), .int (iI a2), .int (iI a3)]) (rest := [.ref (b + 88), .long (jJ v_5)]) S hG hsz (vX12_place l hn (S0 84 (120 + v_3)) a2 a3 hc_26) wS_12_276 dX12_exprMany_55 rfl hl.1 (ar := 3) (by decide +kernel) rfl ⟨Nat.le_of_ble_eq_true rfl, Nat.le_of_ble_eq_true rfl, Nat.le_of_ble_eq_true rfl, Nat.le_of_ble_eq_true rfl⟩ (Nat.le_of_ble_eq_true rfl) (fun rv uu H locs hp hG => ?_)
          obtain ⟨rfl, rfl⟩ := hp
          replace hG : gW D cy b n s H locs (enc b cy X S0) := hG
          obtain ⟨hg_28, hM⟩ := gd_some hM
          refine mj_ald S hG 88 91 rfl ec_91 (Nat.lt_of_lt_of_le (Nat.le_of_ble_eq_true rfl) hn) dX12_exprMany_58 hg_28 (by decide) ?_
          cases hM
          exact hK_18 H locs ls hG (lv_sub hl [0, 1, 3, 4, 5, 6] rfl)
        · replace hM := ifn hM c_24
          refine lv_lconst (v := jJ 0) hx hb dX12_exprMany_35 (by decide) ?_
          refine lv_goto (tgt := 59) hx hb dX12_exprMany_36 (by decide) ?_
          cases hM
          exact hK_18 H locs ls hG (lv_sub hl [0, 1, 3, 4, 5, 6] rfl)
  exact loop_9 FU x_2 0 0 H locs ls hc_7 hG (lv_sub hl [0, 1, 2, 3, 4, 5, 6] rfl)
def mX12_countsRest_60 (S_4 : St) (v_16 : Int) (v_3 : Int) (x_2 : Int) (a1 : Int) (a2 : Int) (a3 : Int) : Nat → Int → Int → Option (Int)
  | 0, _, _ => none
  | f + 1, v_32, v_33 => gd ((inI v_32) ∧ (inI (min v_16 v_3))) <| if (min v_16 v_3) < v_32 then (some (v_33)) else (bd1 (mX12_place a1 v_16 v_32) fun r_43 => gd (0 ≤ r_43 ∧ r_43 < 1920) <| bd1 (mX12_place x_2 (a2 - v_16) (v_3 - v_32)) fun r_46 => gd (0 ≤ r_46 ∧ r_46 < 1536) <| bd1 (mX12_mul (S_4 90 r_43) (S_4 91 r_46) 1000000000000) fun r_49 => bd1 (mX12_add v_33 r_49 1000000000000) fun r_51 => mX12_countsRest_60 S_4 v_16 v_3 x_2 a1 a2 a3 f (v_32 + 1) r_51)
def mX12_countsRest_46 (S_4 : St) (v_3 : Int) (x_2 : Int) (a1 : Int) (a2 : Int) (a3 : Int) : Nat → Int → Int → Option (Int)
  | 0, _, _ => none
  | f + 1, v_16, v_17 => gd ((inI v_16) ∧ (inI a2)) <| if a2 < v_16 then (some (v_17)) else (gd (inI x_2) <| if x_2 < 0 then (some (v_17)) else (bd1 (mX12_countsRest_60 S_4 v_16 v_3 x_2 a1 a2 a3 FU 0 v_17) fun y_34 => mX12_countsRest_46 S_4 v_3 x_2 a1 a2 a3 f (v_16 + 1) y_34))
def mX12_countsRest_14 (x_2 : Int) (a1 : Int) (a2 : Int) (a3 : Int) : Nat → Int → St → Option (St)
  | 0, _, _ => none
  | f + 1, v_3, S_4 => gd ((inI v_3) ∧ (inI a3)) <| if a3 < v_3 then (some (S_4)) else (bd1 (gd (inI x_2) <| if 0 ≤ x_2 then (some (0)) else (bd1 (mX12_place a1 a2 v_3) fun r_55 => gd (0 ≤ r_55 ∧ r_55 < 1920) <| some ((S_4 90 r_55)))) fun z_13 => bd1 (mX12_countsRest_46 S_4 v_3 x_2 a1 a2 a3 FU 0 z_13) fun y_18 => bd1 (mX12_place a1 a2 v_3) fun r_22 => gd (0 ≤ r_22 ∧ r_22 < 1536) <| nx (up S_4 91 r_22 y_18) fun S_24 => mX12_countsRest_14 x_2 a1 a2 a3 f (v_3 + 1) S_24)
def mX12_countsRest (S0 : St) (a1 : Int) (a2 : Int) (a3 : Int) : Option (St) := gd (0 ≤ (96 + a1) ∧ (96 + a1) < 228) <| nx (S0 84 (96 + a1)) fun x_2 => bd1 (mX12_countsRest_14 x_2 a1 a2 a3 FU 0 S0) fun S_5 => some (S_5)
set_option maxHeartbeats 4000000 in
set_option maxRecDepth 100000 in
theorem vX12_countsRest (l : Launch) {D : va_G} {cy : Nat → ClassId} {b n : Nat} (hn : 102 ≤ n) {X : Nat → va_E} {S0 : St} (a1 : Int) (a2 : Int) (a3 : Int) {o1 : St} (hM : mX12_countsRest S0 a1 a2 a3 = some o1) : gV l yX12_countsRest cX12_countsRest 10 2 0 0 D cy b n (enc b cy X S0) [.ref (b + 80), .int (iI a1), .int (iI a2), .int (iI a3)] (fun u => u = (n, enc b cy X o1)) := by
  refine gV_of (by decide) (Nat.le_of_ble_eq_true rfl) ?_
  intro p e s m args below meth c S hr hlk hin hsz ls hl hG
  have hx := S.1
  have hb := S.2.1
  have hl : lv_has ls 10 [(0, .ref (b + 80)), (1, .int (iI a1)), (2, .int (iI a2)), (3, .int (iI a3))] := hl
  replace hG : gW D cy b n s s.heap [] (enc b cy X S0) := hG
  obtain ⟨H, eH⟩ : ∃ H, H = s.heap := ⟨_, rfl⟩
  obtain ⟨locs, elocs⟩ : ∃ locs : List Loc, locs = [] := ⟨_, rfl⟩
  rw [← eH, ← elocs] at hG
  rw [← eH, ← elocs]
  clear eH elocs
  unfold mX12_countsRest at hM
  refine lv_aload_n hx hb dX12_countsRest_0 rfl (lv_at hl 0 rfl) ?_
  refine m_get S hG 80 83 0 rfl ec_83 cpX12 wm_1673 dX12_countsRest_1 rfl (Nat.lt_of_lt_of_le (Nat.le_of_ble_eq_true rfl) hn) (by decide) ?_
  refine lv_bipush (v := iI 96) hx hb dX12_countsRest_4 (by decide) ?_
  refine lv_iload_n hx hb dX12_countsRest_6 rfl (lv_at hl 1 rfl) ?_
  refine gi_add hx hb dX12_countsRest_7 ?_
  obtain ⟨hg_1, hM⟩ := gd_some hM
  refine mi_ald S hG 81 84 rfl ec_84 (Nat.lt_of_lt_of_le (Nat.le_of_ble_eq_true rfl) hn) dX12_countsRest_8 hg_1 (by decide) ?_
  refine gi_nm (fun x_2 ex_2 => ?_)
  replace hM := nx_at hM ex_2
  clear ex_2
  refine lv_istore (lv' := [(4, .int (iI x_2)), (0, .ref (b + 80)), (1, .int (iI a1)), (2, .int (iI a2)), (3, .int (iI a3))]) hx hb dX12_countsRest_9 hl (by decide) rfl (fun ls hl => ?_)
  refine lv_iconst (v := iI 0) hx hb dX12_countsRest_11 (by decide) ?_
  refine lv_istore (lv' := [(5, .int (iI 0)), (4, .int (iI x_2)), (0, .ref (b + 80)), (1, .int (iI a1)), (2, .int (iI a2)), (3, .int (iI a3))]) hx hb dX12_countsRest_12 hl (by decide) rfl (fun ls hl => ?_)
  obtain ⟨S_5, hc_6, hM⟩ := bd1_some hM
  have hK_7 : ∀ (H : Heap) (locs : List Loc) (ls : Array Slot), gW D cy b n s H locs (enc b cy X S_5) → lv_has ls 10 [] → W p l e (gRm 2 0 0) s m args below meth c H locs 0 0 (gQV D cy b s args below 0 0 (fun u => u = (n, enc b cy X o1))) (F0 m 152 ls []) := by
    intro H locs ls hG hl
    cases hM
    exact g_vret S hr hlk hG hsz dX12_countsRest_152 ⟨Nat.le_of_ble_eq_true rfl, Nat.le_of_ble_eq_true rfl⟩ rfl
  have loop_8 : ∀ (f : Nat) (v_3 : Int) (S_4 : St) (H : Heap) (locs : List Loc) (ls : Array Slot), mX12_countsRest_14 x_2 a1 a2 a3 f v_3 S_4 = some S_5 → gW D cy b n s H locs (enc b cy X S_4) → lv_has ls 10 [(5, .int (iI v_3)), (4, .int (iI x_2)), (0, .ref (b + 80)), (1, .int (iI a1)), (2, .int (iI a2)), (3, .int (iI a3))] → W p l e (gRm 2 0 0) s m args below meth c H locs 0 0 (gQV D cy b s args below 0 0 (fun u => u = (n, enc b cy X o1))) (F0 m 14 ls []) := by
    clear hM
    intro f
    induction f with
    | zero => intro v_3 S_4 H locs ls hM; rw [mX12_countsRest_14] at hM; cases hM
    | succ f_10 ih_9 =>
      intro v_3 S_4 H locs ls hM hG hl
      rw [mX12_countsRest_14] at hM
      refine lv_iload hx hb dX12_countsRest_14 (lv_at hl 0 rfl) ?_
      refine lv_iload_n hx hb dX12_countsRest_16 rfl (lv_at hl 5 rfl) ?_
      obtain ⟨hg_11, hM⟩ := gd_some hM
      refine gi_icmp_gt (tgt := 152) hx hb dX12_countsRest_17 (by decide) hg_11.1 hg_11.2 (fun c_12 => ?_) (fun c_12 => ?_)
      · replace hM := ifp hM c_12
        cases hM
        exact hK_7 H locs ls hG (lv_sub hl [] rfl)
      · replace hM := ifn hM c_12
        refine lv_iload hx hb dX12_countsRest_20 (lv_at hl 1 rfl) ?_
        obtain ⟨z_13, hc_14, hM⟩ := bd1_some hM
        have hK_15 : ∀ (H : Heap) (locs : List Loc) (ls : Array Slot), gW D cy b n s H locs (enc b cy X S_4) → lv_has ls 10 [(5, .int (iI v_3)), (4, .int (iI x_2)), (0, .ref (b + 80)), (1, .int (iI a1)), (2, .int (iI a2)), (3, .int (iI a3))] → W p l e (gRm 2 0 0) s m args below meth c H locs 0 0 (gQV D cy b s args below 0 0 (fun u => u = (n, enc b cy X o1))) (F0 m 41 ls [.long (jJ z_13)]) := by
          intro H locs ls hG hl
          refine lv_lstore (lv' := [(6, .long (jJ z_13)), (5, .int (iI v_3)), (4, .int (iI x_2)), (0, .ref (b + 80)), (1, .int (iI a1)), (2, .int (iI a2)), (3, .int (iI a3))]) hx hb dX12_countsRest_41 hl (by decide) rfl (fun ls hl => ?_)
          refine lv_iconst (v := iI 0) hx hb dX12_countsRest_43 (by decide) ?_
          refine lv_istore (lv' := [(8, .int (iI 0)), (6, .long (jJ z_13)), (5, .int (iI v_3)), (4, .int (iI x_2)), (0, .ref (b + 80)), (1, .int (iI a1)), (2, .int (iI a2)), (3, .int (iI a3))]) hx hb dX12_countsRest_44 hl (by decide) rfl (fun ls hl => ?_)
          obtain ⟨y_18, hc_19, hM⟩ := bd1_some hM
          have hK_20 : ∀ (H : Heap) (locs : List Loc) (ls : Array Slot), gW D cy b n s H locs (enc b cy X S_4) → lv_has ls 10 [(5, .int (iI v_3)), (4, .int (iI x_2)), (0, .ref (b + 80)), (1, .int (iI a1)), (2, .int (iI a2)), (3, .int (iI a3)), (6, .long (jJ y_18))] → W p l e (gRm 2 0 0) s m args below meth c H locs 0 0 (gQV D cy b s args below 0 0 (fun u => u = (n, enc b cy X o1))) (F0 m 132 ls []) := by
            intro H locs ls hG hl
            refine lv_aload_n hx hb dX12_countsRest_132 rfl (lv_at hl 2 rfl) ?_
            refine m_get S hG 80 83 15 rfl ec_83 cpX12 wm_1688 dX12_countsRest_133 rfl (Nat.lt_of_lt_of_le (Nat.le_of_ble_eq_true rfl) hn) (by decide) ?_
            refine lv_iload_n hx hb dX12_countsRest_136 rfl (lv_at hl 3 rfl) ?_
            refine lv_iload_n hx hb dX12_countsRest_137 rfl (lv_at hl 4 rfl) ?_
            refine lv_iload hx hb dX12_countsRest_138 (lv_at hl 0 rfl) ?_
            obtain ⟨r_22, hc_21, hM⟩ := bd1_some hM
            refine g_si (As := [.int (iI a1), .int (iI a2), .int (iI v_3)]) (rest := [.ref (b + 88)]) S hG hsz (vX12_place l hn a1 a2 v_3 hc_21) wS_12_276 dX12_countsRest_140 rfl hl.1 (ar := 3) (by decide +kernel) rfl ⟨Nat.le_of_ble_eq_true rfl, Nat.le_of_ble_eq_true rfl, Nat.le_of_ble_eq_true rfl, Nat.le_of_ble_eq_true rfl⟩ (Nat.le_of_ble_eq_true rfl) (fun rv uu H locs hp hG => ?_)
            obtain ⟨rfl, rfl⟩ := hp
            replace hG : gW D cy b n s H locs (enc b cy X S_4) := hG
            refine lv_lload hx hb dX12_countsRest_143 (lv_at hl 6 rfl) ?_
            obtain ⟨hg_23, hM⟩ := gd_some hM
            refine mj_ast S hG 88 91 rfl ec_91 (Nat.lt_of_lt_of_le (Nat.le_of_ble_eq_true rfl) hn) dX12_countsRest_145 hg_23 (by decide) (fun H locs S_24 eS_24 hG => ?_)
            replace hM := nx_at hM eS_24
            clear eS_24
            refine lv_iinc (v := iI (v_3 + 1)) (lv' := [(5, .int (iI (v_3 + 1))), (4, .int (iI x_2)), (0, .ref (b + 80)), (1, .int (iI a1)), (2, .int (iI a2)), (3, .int (iI a3)), (6, .long (jJ y_18))]) hx hb dX12_countsRest_146 hl (k := 0) rfl ((iI_add v_3 (1)).trans (congrArg iI (by omega))) (by decide) rfl (fun ls hl => ?_)
            refine lv_goto (tgt := 14) hx hb dX12_countsRest_149 (by decide) ?_
            exact ih_9 (v_3 + 1) S_24 H locs ls hM hG (lv_sub hl [0, 1, 2, 3, 4, 5] rfl)
          have loop_25 : ∀ (f : Nat) (v_16 : Int) (v_17 : Int) (H : Heap) (locs : List Loc) (ls : Array Slot), mX12_countsRest_46 S_4 v_3 x_2 a1 a2 a3 f v_16 v_17 = some y_18 → gW D cy b n s H locs (enc b cy X S_4) → lv_has ls 10 [(8, .int (iI v_16)), (6, .long (jJ v_17)), (5, .int (iI v_3)), (4, .int (iI x_2)), (0, .ref (b + 80)), (1, .int (iI a1)), (2, .int (iI a2)), (3, .int (iI a3))] → W p l e (gRm 2 0 0) s m args below meth c H locs 0 0 (gQV D cy b s args below 0 0 (fun u => u = (n, enc b cy X o1))) (F0 m 46 ls []) := by
            clear hM
            intro f
            induction f with
            | zero => intro v_16 v_17 H locs ls hM; rw [mX12_countsRest_46] at hM; cases hM
            | succ f_27 ih_26 =>
              intro v_16 v_17 H locs ls hM hG hl
              rw [mX12_countsRest_46] at hM
              refine lv_iload hx hb dX12_countsRest_46 (lv_at hl 0 rfl) ?_
              refine lv_iload_n hx hb dX12_countsRest_48 rfl (lv_at hl 6 rfl) ?_
              obtain ⟨hg_28, hM⟩ := gd_some hM
              refine gi_icmp_gt (tgt := 132) hx hb dX12_countsRest_49 (by decide) hg_28.1 hg_28.2 (fun c_29 => ?_) (fun c_29 => ?_)
              · replace hM := ifp hM c_29
                cases hM
                exact hK_20 H locs ls hG (lv_sub hl [2, 3, 4, 5, 6, 7, 1] rfl)
              · replace hM := ifn hM c_29
                refine lv_iload hx hb dX12_countsRest_52 (lv_at hl 3 rfl) ?_
                obtain ⟨hg_30, hM⟩ := gd_some hM
                refine gi_if_lt (tgt := 132) hx hb dX12_countsRest_54 (by decide) hg_30 (fun c_31 => ?_) (fun c_31 => ?_)
                · replace hM := ifp hM c_31
                  cases hM
                  exact hK_20 H locs ls hG (lv_sub hl [2, 3, 4, 5, 6, 7, 1] rfl)
                · replace hM := ifn hM c_31
                  refine lv_iconst (v := iI 0) hx hb dX12_countsRest_57 (by decide) ?_
                  refine lv_istore (lv' := [(9, .int (iI 0)), (8, .int (iI v_16)), (6, .long (jJ v_17)), (5, .int (iI v_3)), (4, .int (iI x_2)), (0, .ref (b + 80)), (1, .int (iI a1)), (2, .int (iI a2)), (3, .int (iI a3))]) hx hb dX12_countsRest_58 hl (by decide) rfl (fun ls hl => ?_)
                  obtain ⟨y_34, hc_35, hM⟩ := bd1_some hM
                  have hK_36 : ∀ (H : Heap) (locs : List Loc) (ls : Array Slot), gW D cy b n s H locs (enc b cy X S_4) → lv_has ls 10 [(8, .int (iI v_16)), (5, .int (iI v_3)), (4, .int (iI x_2)), (0, .ref (b + 80)), (1, .int (iI a1)), (2, .int (iI a2)), (3, .int (iI a3)), (6, .long (jJ y_34))] → W p l e (gRm 2 0 0) s m args below meth c H locs 0 0 (gQV D cy b s args below 0 0 (fun u => u = (n, enc b cy X o1))) (F0 m 126 ls []) := by
                    intro H locs ls hG hl
                    refine lv_iinc (v := iI (v_16 + 1)) (lv' := [(8, .int (iI (v_16 + 1))), (5, .int (iI v_3)), (4, .int (iI x_2)), (0, .ref (b + 80)), (1, .int (iI a1)), (2, .int (iI a2)), (3, .int (iI a3)), (6, .long (jJ y_34))]) hx hb dX12_countsRest_126 hl (k := 0) rfl ((iI_add v_16 (1)).trans (congrArg iI (by omega))) (by decide) rfl (fun ls hl => ?_)
                    refine lv_goto (tgt := 46) hx hb dX12_countsRest_129 (by decide) ?_
                    exact ih_26 (v_16 + 1) y_34 H locs ls hM hG (lv_sub hl [0, 7, 1, 2, 3, 4, 5, 6] rfl)
                  have loop_37 : ∀ (f : Nat) (v_32 : Int) (v_33 : Int) (H : Heap) (locs : List Loc) (ls : Array Slot), mX12_countsRest_60 S_4 v_16 v_3 x_2 a1 a2 a3 f v_32 v_33 = some y_34 → gW D cy b n s H locs (enc b cy X S_4) → lv_has ls 10 [(9, .int (iI v_32)), (8, .int (iI v_16)), (6, .long (jJ v_33)), (5, .int (iI v_3)), (4, .int (iI x_2)), (0, .ref (b + 80)), (1, .int (iI a1)), (2, .int (iI a2)), (3, .int (iI a3))] → W p l e (gRm 2 0 0) s m args below meth c H locs 0 0 (gQV D cy b s args below 0 0 (fun u => u = (n, enc b cy X o1))) (F0 m 60 ls []) := by
                    clear hM
                    intro f
                    induction f with
                    | zero => intro v_32 v_33 H locs ls hM; rw [mX12_countsRest_60] at hM; cases hM
                    | succ f_39 ih_38 =>
                      intro v_32 v_33 H locs ls hM hG hl
                      rw [mX12_countsRest_60] at hM
                      refine lv_iload hx hb dX12_countsRest_60 (lv_at hl 0 rfl) ?_
                      refine lv_iload hx hb dX12_countsRest_62 (lv_at hl 1 rfl) ?_
                      refine lv_iload hx hb dX12_countsRest_64 (lv_at hl 3 rfl) ?_
                      refine gi_min S wm_1854 wm_761 wm_190 wm_762 hl.1 dX12_countsRest_66 ⟨Nat.le_of_ble_eq_true rfl, Nat.le_of_ble_eq_true rfl, Nat.le_of_ble_eq_true rfl, Nat.le_of_ble_eq_true rfl⟩ hg_28.1 hg_11.1 ?_
                      obtain ⟨hg_40, hM⟩ := gd_some hM
                      refine gi_icmp_gt (tgt := 126) hx hb dX12_countsRest_69 (by decide) hg_40.1 hg_40.2 (fun c_41 => ?_) (fun c_41 => ?_)
                      · replace hM := ifp hM c_41
                        cases hM
                        exact hK_36 H locs ls hG (lv_sub hl [1, 3, 4, 5, 6, 7, 8, 2] rfl)
                      · replace hM := ifn hM c_41
                        refine lv_lload hx hb dX12_countsRest_72 (lv_at hl 2 rfl) ?_
                        refine lv_aload_n hx hb dX12_countsRest_74 rfl (lv_at hl 5 rfl) ?_
                        refine m_get S hG 80 83 14 rfl ec_83 cpX12 wm_1687 dX12_countsRest_75 rfl (Nat.lt_of_lt_of_le (Nat.le_of_ble_eq_true rfl) hn) (by decide) ?_
                        refine lv_iload_n hx hb dX12_countsRest_78 rfl (lv_at hl 6 rfl) ?_
                        refine lv_iload hx hb dX12_countsRest_79 (lv_at hl 1 rfl) ?_
                        refine lv_iload hx hb dX12_countsRest_81 (lv_at hl 0 rfl) ?_
                        obtain ⟨r_43, hc_42, hM⟩ := bd1_some hM
                        refine g_si (As := [.int (iI a1), .int (iI v_16), .int (iI v_32)]) (rest := [.ref (b + 87), .long (jJ v_33)]) S hG hsz (vX12_place l hn a1 v_16 v_32 hc_42) wS_12_276 dX12_countsRest_83 rfl hl.1 (ar := 3) (by decide +kernel) rfl ⟨Nat.le_of_ble_eq_true rfl, Nat.le_of_ble_eq_true rfl, Nat.le_of_ble_eq_true rfl, Nat.le_of_ble_eq_true rfl⟩ (Nat.le_of_ble_eq_true rfl) (fun rv uu H locs hp hG => ?_)
                        obtain ⟨rfl, rfl⟩ := hp
                        replace hG : gW D cy b n s H locs (enc b cy X S_4) := hG
                        obtain ⟨hg_44, hM⟩ := gd_some hM
                        refine mj_ald S hG 87 90 rfl ec_90 (Nat.lt_of_lt_of_le (Nat.le_of_ble_eq_true rfl) hn) dX12_countsRest_86 hg_44 (by decide) ?_
                        refine lv_aload_n hx hb dX12_countsRest_87 rfl (lv_at hl 5 rfl) ?_
                        refine m_get S hG 80 83 15 rfl ec_83 cpX12 wm_1688 dX12_countsRest_88 rfl (Nat.lt_of_lt_of_le (Nat.le_of_ble_eq_true rfl) hn) (by decide) ?_
                        refine lv_iload hx hb dX12_countsRest_91 (lv_at hl 4 rfl) ?_
                        refine lv_iload_n hx hb dX12_countsRest_93 rfl (lv_at hl 7 rfl) ?_
                        refine lv_iload hx hb dX12_countsRest_94 (lv_at hl 1 rfl) ?_
                        refine gi_sub hx hb dX12_countsRest_96 ?_
                        refine lv_iload hx hb dX12_countsRest_97 (lv_at hl 3 rfl) ?_
                        refine lv_iload hx hb dX12_countsRest_99 (lv_at hl 0 rfl) ?_
                        refine gi_sub hx hb dX12_countsRest_101 ?_
                        obtain ⟨r_46, hc_45, hM⟩ := bd1_some hM
                        refine g_si (As := [.int (iI x_2), .int (iI (a2 - v_16)), .int (iI (v_3 - v_32))]) (rest := [.ref (b + 88), .long (jJ (S_4 90 r_43)), .long (jJ v_33)]) S hG hsz (vX12_place l hn x_2 (a2 - v_16) (v_3 - v_32) hc_45) wS_12_276 dX12_countsRest_102 rfl hl.1 (ar := 3) (by decide +kernel) rfl ⟨Nat.le_of_ble_eq_true rfl, Nat.le_of_ble_eq_true rfl, Nat.le_of_ble_eq_true rfl, Nat.le_of_ble_eq_true rfl⟩ (Nat.le_of_ble_eq_true rfl) (fun rv uu H locs hp hG => ?_)
                        obtain ⟨rfl, rfl⟩ := hp
                        replace hG : gW D cy b n s H locs (enc b cy X S_4) := hG
                        obtain ⟨hg_47, hM⟩ := gd_some hM
                        refine mj_ald S hG 88 91 rfl ec_91 (Nat.lt_of_lt_of_le (Nat.le_of_ble_eq_true rfl) hn) dX12_countsRest_105 hg_47 (by decide) ?_
                        refine lv_ldc2 (v := 1000000000000) hx hb S.2.2.2.1 (S.2.2.2.2 _ wm_2044) dX12_countsRest_106 ?_
                        refine gj_as 1000000000000 (by decide) ?_
                        obtain ⟨r_49, hc_48, hM⟩ := bd1_some hM
                        refine g_sl (As := [.long (jJ (S_4 90 r_43)), .long (jJ (S_4 91 r_46)), .long (jJ 1000000000000)]) (rest := [.long (jJ v_33)]) S hG hsz (vX12_mul l hn (S_4 90 r_43) (S_4 91 r_46) 1000000000000 hc_48) wS_12_286 dX12_countsRest_109 rfl hl.1 (ar := 3) (by decide +kernel) rfl ⟨Nat.le_of_ble_eq_true rfl, Nat.le_of_ble_eq_true rfl, Nat.le_of_ble_eq_true rfl, Nat.le_of_ble_eq_true rfl⟩ (Nat.le_of_ble_eq_true rfl) (fun rv uu H locs hp hG => ?_)
                        obtain ⟨rfl, rfl⟩ := hp
                        replace hG : gW D cy b n s H locs (enc b cy X S_4) := hG
                        refine lv_ldc2 (v := 1000000000000) hx hb S.2.2.2.1 (S.2.2.2.2 _ wm_2044) dX12_countsRest_112 ?_
                        refine gj_as 1000000000000 (by decide) ?_
                        obtain ⟨r_51, hc_50, hM⟩ := bd1_some hM
                        refine g_sl (As := [.long (jJ v_33), .long (jJ r_49), .long (jJ 1000000000000)]) (rest := []) S hG hsz (vX12_add l hn v_33 r_49 1000000000000 hc_50) wS_12_282 dX12_countsRest_115 rfl hl.1 (ar := 3) (by decide +kernel) rfl ⟨Nat.le_of_ble_eq_true rfl, Nat.le_of_ble_eq_true rfl, Nat.le_of_ble_eq_true rfl, Nat.le_of_ble_eq_true rfl⟩ (Nat.le_of_ble_eq_true rfl) (fun rv uu H locs hp hG => ?_)
                        obtain ⟨rfl, rfl⟩ := hp
                        replace hG : gW D cy b n s H locs (enc b cy X S_4) := hG
                        refine lv_lstore (lv' := [(6, .long (jJ r_51)), (9, .int (iI v_32)), (8, .int (iI v_16)), (5, .int (iI v_3)), (4, .int (iI x_2)), (0, .ref (b + 80)), (1, .int (iI a1)), (2, .int (iI a2)), (3, .int (iI a3))]) hx hb dX12_countsRest_118 hl (by decide) rfl (fun ls hl => ?_)
                        refine lv_iinc (v := iI (v_32 + 1)) (lv' := [(9, .int (iI (v_32 + 1))), (6, .long (jJ r_51)), (8, .int (iI v_16)), (5, .int (iI v_3)), (4, .int (iI x_2)), (0, .ref (b + 80)), (1, .int (iI a1)), (2, .int (iI a2)), (3, .int (iI a3))]) hx hb dX12_countsRest_120 hl (k := 1) rfl ((iI_add v_32 (1)).trans (congrArg iI (by omega))) (by decide) rfl (fun ls hl => ?_)
                        refine lv_goto (tgt := 60) hx hb dX12_countsRest_123 (by decide) ?_
                        exact ih_38 (v_32 + 1) r_51 H locs ls hM hG (lv_sub hl [0, 2, 1, 3, 4, 5, 6, 7, 8] rfl)
                  exact loop_37 FU 0 v_17 H locs ls hc_35 hG (lv_sub hl [0, 1, 2, 3, 4, 5, 6, 7, 8] rfl)
          exact loop_25 FU 0 z_13 H locs ls hc_19 hG (lv_sub hl [0, 1, 2, 3, 4, 5, 6, 7] rfl)
        clear hM
        replace hM := hc_14
        obtain ⟨hg_52, hM⟩ := gd_some hM
        refine gi_if_ge (tgt := 40) hx hb dX12_countsRest_22 (by decide) hg_52 (fun c_53 => ?_) (fun c_53 => ?_)
        · replace hM := ifp hM c_53
          refine lv_lconst (v := jJ 0) hx hb dX12_countsRest_40 (by decide) ?_
          cases hM
          exact hK_15 H locs ls hG (lv_sub hl [0, 1, 2, 3, 4, 5] rfl)
        · replace hM := ifn hM c_53
          refine lv_aload_n hx hb dX12_countsRest_25 rfl (lv_at hl 2 rfl) ?_
          refine m_get S hG 80 83 14 rfl ec_83 cpX12 wm_1687 dX12_countsRest_26 rfl (Nat.lt_of_lt_of_le (Nat.le_of_ble_eq_true rfl) hn) (by decide) ?_
          refine lv_iload_n hx hb dX12_countsRest_29 rfl (lv_at hl 3 rfl) ?_
          refine lv_iload_n hx hb dX12_countsRest_30 rfl (lv_at hl 4 rfl) ?_
          refine lv_iload hx hb dX12_countsRest_31 (lv_at hl 0 rfl) ?_
          obtain ⟨r_55, hc_54, hM⟩ := bd1_some hM
          refine g_si (As := [.int (iI a1), .int (iI a2), .int (iI v_3)]) (rest := [.ref (b + 87)]) S hG hsz (vX12_place l hn a1 a2 v_3 hc_54) wS_12_276 dX12_countsRest_33 rfl hl.1 (ar := 3) (by decide +kernel) rfl ⟨Nat.le_of_ble_eq_true rfl, Nat.le_of_ble_eq_true rfl, Nat.le_of_ble_eq_true rfl, Nat.le_of_ble_eq_true rfl⟩ (Nat.le_of_ble_eq_true rfl) (fun rv uu H locs hp hG => ?_)
          obtain ⟨rfl, rfl⟩ := hp
          replace hG : gW D cy b n s H locs (enc b cy X S_4) := hG
          obtain ⟨hg_56, hM⟩ := gd_some hM
          refine mj_ald S hG 87 90 rfl ec_90 (Nat.lt_of_lt_of_le (Nat.le_of_ble_eq_true rfl) hn) dX12_countsRest_36 hg_56 (by decide) ?_
          refine lv_goto (tgt := 41) hx hb dX12_countsRest_37 (by decide) ?_
          cases hM
          exact hK_15 H locs ls hG (lv_sub hl [0, 1, 2, 3, 4, 5] rfl)
  exact loop_8 FU 0 S0 H locs ls hc_6 hG (lv_sub hl [0, 1, 2, 3, 4, 5] rfl)
theorem wS_12_303 : gWS "GrownKindsModel" 303 yX12_turnsOf cX12_turnsOf 1 (some .int) := ⟨wm_2070, wm_2071, wm_188, wm_2072, by decide +kernel, by decide +kernel⟩
def mX12_ringsMany_6 (S0 : St) (a1 : Int) (a2 : Int) (a3 : Int) : Nat → Int → Int → Option (Int)
  | 0, _, _ => none
  | f + 1, v_1, v_2 => gd ((inI v_1) ∧ (inI a1)) <| if a1 < v_1 then (some (v_2)) else (gd ((0 ≤ a1 ∧ a1 ≤ 2147483647) ∧ (0 < v_1 ∧ v_1 ≤ 2147483647)) <| gd (inI (a1 % v_1)) <| if (a1 % v_1) = 0 then (gd (0 ≤ a2 ∧ a2 ≤ 2147483647) <| gd (inI (a2 % v_1)) <| if (a2 % v_1) = 0 then (gd (0 ≤ a3 ∧ a3 ≤ 2147483647) <| gd (inI (a3 % v_1)) <| if (a3 % v_1) = 0 then (bd1 (mX12_turnsOf v_1) fun r_24 => gd (inI r_24) <| bd1 (mX12_place (a1 / v_1) (a2 / v_1) (a3 / v_1)) fun r_27 => gd (0 ≤ r_27 ∧ r_27 < 512) <| nx (v_2 + (r_24 * (S0 92 r_27))) fun x_29 => mX12_ringsMany_6 S0 a1 a2 a3 f (v_1 + 1) x_29) else (mX12_ringsMany_6 S0 a1 a2 a3 f (v_1 + 1) v_2)) else (mX12_ringsMany_6 S0 a1 a2 a3 f (v_1 + 1) v_2)) else (mX12_ringsMany_6 S0 a1 a2 a3 f (v_1 + 1) v_2))
def mX12_ringsMany (S0 : St) (a1 : Int) (a2 : Int) (a3 : Int) : Option (Int) := bd1 (mX12_ringsMany_6 S0 a1 a2 a3 FU 1 0) fun y_3 => gd (inI a1) <| gd ((0 ≤ y_3 ∧ y_3 ≤ 9223372036854775807) ∧ (0 < a1 ∧ a1 ≤ 9223372036854775807)) <| gd (inL (y_3 / a1)) <| some ((min 1000000000000 (y_3 / a1)))
set_option maxHeartbeats 4000000 in
set_option maxRecDepth 100000 in
theorem vX12_ringsMany (l : Launch) {D : va_G} {cy : Nat → ClassId} {b n : Nat} (hn : 102 ≤ n) {X : Nat → va_E} {S0 : St} (a1 : Int) (a2 : Int) (a3 : Int) {o1 : Int} (hM : mX12_ringsMany S0 a1 a2 a3 = some o1) : gL l yX12_ringsMany cX12_ringsMany 7 1 0 0 D cy b n (enc b cy X S0) [.ref (b + 80), .int (iI a1), .int (iI a2), .int (iI a3)] (fun r u => r = jJ o1 ∧ u = (n, enc b cy X S0)) := by
  refine gL_of (by decide) (Nat.le_of_ble_eq_true rfl) ?_
  intro p e s m args below meth c S hr hlk hin hsz ls hl hG
  have hx := S.1
  have hb := S.2.1
  have hl : lv_has ls 7 [(0, .ref (b + 80)), (1, .int (iI a1)), (2, .int (iI a2)), (3, .int (iI a3))] := hl
  replace hG : gW D cy b n s s.heap [] (enc b cy X S0) := hG
  obtain ⟨H, eH⟩ : ∃ H, H = s.heap := ⟨_, rfl⟩
  obtain ⟨locs, elocs⟩ : ∃ locs : List Loc, locs = [] := ⟨_, rfl⟩
  rw [← eH, ← elocs] at hG
  rw [← eH, ← elocs]
  clear eH elocs
  unfold mX12_ringsMany at hM
  refine lv_lconst (v := jJ 0) hx hb dX12_ringsMany_0 (by decide) ?_
  refine lv_lstore (lv' := [(4, .long (jJ 0)), (0, .ref (b + 80)), (1, .int (iI a1)), (2, .int (iI a2)), (3, .int (iI a3))]) hx hb dX12_ringsMany_1 hl (by decide) rfl (fun ls hl => ?_)
  refine lv_iconst (v := iI 1) hx hb dX12_ringsMany_3 (by decide) ?_
  refine lv_istore (lv' := [(6, .int (iI 1)), (4, .long (jJ 0)), (0, .ref (b + 80)), (1, .int (iI a1)), (2, .int (iI a2)), (3, .int (iI a3))]) hx hb dX12_ringsMany_4 hl (by decide) rfl (fun ls hl => ?_)
  obtain ⟨y_3, hc_4, hM⟩ := bd1_some hM
  have hK_5 : ∀ (H : Heap) (locs : List Loc) (ls : Array Slot), gW D cy b n s H locs (enc b cy X S0) → lv_has ls 7 [(1, .int (iI a1)), (4, .long (jJ y_3))] → W p l e (gRm 1 0 0) s m args below meth c H locs 0 0 (gQL D cy b s args below 0 0 (fun r u => r = jJ o1 ∧ u = (n, enc b cy X S0))) (F0 m 71 ls []) := by
    intro H locs ls hG hl
    refine lv_ldc2 (v := 1000000000000) hx hb S.2.2.2.1 (S.2.2.2.2 _ wm_2044) dX12_ringsMany_71 ?_
    refine gj_as 1000000000000 (by decide) ?_
    refine lv_lload hx hb dX12_ringsMany_74 (lv_at hl 1 rfl) ?_
    refine lv_iload_n hx hb dX12_ringsMany_76 rfl (lv_at hl 0 rfl) ?_
    obtain ⟨hg_6, hM⟩ := gd_some hM
    refine gi_i2l hx hb dX12_ringsMany_77 hg_6 ?_
    obtain ⟨hg_7, hM⟩ := gd_some hM
    refine gj_div hx hb dX12_ringsMany_78 hg_7.1 hg_7.2 ?_
    obtain ⟨hg_8, hM⟩ := gd_some hM
    refine gj_min S wm_2046 wm_1149 wm_190 wm_1150 hl.1 dX12_ringsMany_79 ⟨Nat.le_of_ble_eq_true rfl, Nat.le_of_ble_eq_true rfl, Nat.le_of_ble_eq_true rfl, Nat.le_of_ble_eq_true rfl⟩ (by decide) hg_8 ?_
    cases hM
    exact g_lret S hr hlk hG hsz dX12_ringsMany_82 ⟨Nat.le_of_ble_eq_true rfl, Nat.le_of_ble_eq_true rfl⟩ ⟨rfl, rfl⟩
  have loop_9 : ∀ (f : Nat) (v_1 : Int) (v_2 : Int) (H : Heap) (locs : List Loc) (ls : Array Slot), mX12_ringsMany_6 S0 a1 a2 a3 f v_1 v_2 = some y_3 → gW D cy b n s H locs (enc b cy X S0) → lv_has ls 7 [(6, .int (iI v_1)), (4, .long (jJ v_2)), (0, .ref (b + 80)), (1, .int (iI a1)), (2, .int (iI a2)), (3, .int (iI a3))] → W p l e (gRm 1 0 0) s m args below meth c H locs 0 0 (gQL D cy b s args below 0 0 (fun r u => r = jJ o1 ∧ u = (n, enc b cy X S0))) (F0 m 6 ls []) := by
    clear hM
    intro f
    induction f with
    | zero => intro v_1 v_2 H locs ls hM; rw [mX12_ringsMany_6] at hM; cases hM
    | succ f_11 ih_10 =>
      intro v_1 v_2 H locs ls hM hG hl
      rw [mX12_ringsMany_6] at hM
      refine lv_iload hx hb dX12_ringsMany_6 (lv_at hl 0 rfl) ?_
      refine lv_iload_n hx hb dX12_ringsMany_8 rfl (lv_at hl 3 rfl) ?_
      obtain ⟨hg_12, hM⟩ := gd_some hM
      refine gi_icmp_gt (tgt := 71) hx hb dX12_ringsMany_9 (by decide) hg_12.1 hg_12.2 (fun c_13 => ?_) (fun c_13 => ?_)
      · replace hM := ifp hM c_13
        cases hM
        exact hK_5 H locs ls hG (lv_sub hl [3, 1] rfl)
      · replace hM := ifn hM c_13
        refine lv_iload_n hx hb dX12_ringsMany_12 rfl (lv_at hl 3 rfl) ?_
        refine lv_iload hx hb dX12_ringsMany_13 (lv_at hl 0 rfl) ?_
        obtain ⟨hg_14, hM⟩ := gd_some hM
        refine gi_rem hx hb dX12_ringsMany_15 hg_14.1 hg_14.2 ?_
        obtain ⟨hg_15, hM⟩ := gd_some hM
        refine gi_if_ne (tgt := 65) hx hb dX12_ringsMany_16 (by decide) hg_15 (fun c_16 => ?_) (fun c_16 => ?_)
        · replace hM := ifn hM c_16
          refine lv_iinc (v := iI (v_1 + 1)) (lv' := [(6, .int (iI (v_1 + 1))), (4, .long (jJ v_2)), (0, .ref (b + 80)), (1, .int (iI a1)), (2, .int (iI a2)), (3, .int (iI a3))]) hx hb dX12_ringsMany_65 hl (k := 0) rfl ((iI_add v_1 (1)).trans (congrArg iI (by omega))) (by decide) rfl (fun ls hl => ?_)
          refine lv_goto (tgt := 6) hx hb dX12_ringsMany_68 (by decide) ?_
          exact ih_10 (v_1 + 1) v_2 H locs ls hM hG (lv_sub hl [0, 1, 2, 3, 4, 5] rfl)
        · replace hM := ifp hM c_16
          refine lv_iload_n hx hb dX12_ringsMany_19 rfl (lv_at hl 4 rfl) ?_
          refine lv_iload hx hb dX12_ringsMany_20 (lv_at hl 0 rfl) ?_
          obtain ⟨hg_17, hM⟩ := gd_some hM
          refine gi_rem hx hb dX12_ringsMany_22 hg_17 hg_14.2 ?_
          obtain ⟨hg_18, hM⟩ := gd_some hM
          refine gi_if_ne (tgt := 65) hx hb dX12_ringsMany_23 (by decide) hg_18 (fun c_19 => ?_) (fun c_19 => ?_)
          · replace hM := ifn hM c_19
            refine lv_iinc (v := iI (v_1 + 1)) (lv' := [(6, .int (iI (v_1 + 1))), (4, .long (jJ v_2)), (0, .ref (b + 80)), (1, .int (iI a1)), (2, .int (iI a2)), (3, .int (iI a3))]) hx hb dX12_ringsMany_65 hl (k := 0) rfl ((iI_add v_1 (1)).trans (congrArg iI (by omega))) (by decide) rfl (fun ls hl => ?_)
            refine lv_goto (tgt := 6) hx hb dX12_ringsMany_68 (by decide) ?_
            exact ih_10 (v_1 + 1) v_2 H locs ls hM hG (lv_sub hl [0, 1, 2, 3, 4, 5] rfl)
          · replace hM := ifp hM c_19
            refine lv_iload_n hx hb dX12_ringsMany_26 rfl (lv_at hl 5 rfl) ?_
            refine lv_iload hx hb dX12_ringsMany_27 (lv_at hl 0 rfl) ?_
            obtain ⟨hg_20, hM⟩ := gd_some hM
            refine gi_rem hx hb dX12_ringsMany_29 hg_20 hg_14.2 ?_
            obtain ⟨hg_21, hM⟩ := gd_some hM
            refine gi_if_ne (tgt := 65) hx hb dX12_ringsMany_30 (by decide) hg_21 (fun c_22 => ?_) (fun c_22 => ?_)
            · replace hM := ifn hM c_22
              refine lv_iinc (v := iI (v_1 + 1)) (lv' := [(6, .int (iI (v_1 + 1))), (4, .long (jJ v_2)), (0, .ref (b + 80)), (1, .int (iI a1)), (2, .int (iI a2)), (3, .int (iI a3))]) hx hb dX12_ringsMany_65 hl (k := 0) rfl ((iI_add v_1 (1)).trans (congrArg iI (by omega))) (by decide) rfl (fun ls hl => ?_)
              refine lv_goto (tgt := 6) hx hb dX12_ringsMany_68 (by decide) ?_
              exact ih_10 (v_1 + 1) v_2 H locs ls hM hG (lv_sub hl [0, 1, 2, 3, 4, 5] rfl)
            · replace hM := ifp hM c_22
              refine lv_lload hx hb dX12_ringsMany_33 (lv_at hl 1 rfl) ?_
              refine lv_iload hx hb dX12_ringsMany_35 (lv_at hl 0 rfl) ?_
              obtain ⟨r_24, hc_23, hM⟩ := bd1_some hM
              refine g_si (As := [.int (iI v_1)]) (rest := [.long (jJ v_2)]) S hG hsz (vX12_turnsOf l hn v_1 hc_23) wS_12_303 dX12_ringsMany_37 rfl hl.1 (ar := 1) (by decide +kernel) rfl ⟨Nat.le_of_ble_eq_true rfl, Nat.le_of_ble_eq_true rfl, Nat.le_of_ble_eq_true rfl, Nat.le_of_ble_eq_true rfl⟩ (Nat.le_of_ble_eq_true rfl) (fun rv uu H locs hp hG => ?_)
              obtain ⟨rfl, rfl⟩ := hp
              replace hG : gW D cy b n s H locs (enc b cy X S0) := hG
              obtain ⟨hg_25, hM⟩ := gd_some hM
              refine gi_i2l hx hb dX12_ringsMany_40 hg_25 ?_
              refine lv_aload_n hx hb dX12_ringsMany_41 rfl (lv_at hl 2 rfl) ?_
              refine m_get S hG 80 83 16 rfl ec_83 cpX12 wm_1689 dX12_ringsMany_42 rfl (Nat.lt_of_lt_of_le (Nat.le_of_ble_eq_true rfl) hn) (by decide) ?_
              refine lv_iload_n hx hb dX12_ringsMany_45 rfl (lv_at hl 3 rfl) ?_
              refine lv_iload hx hb dX12_ringsMany_46 (lv_at hl 0 rfl) ?_
              refine gi_div hx hb dX12_ringsMany_48 hg_14.1 hg_14.2 ?_
              refine lv_iload_n hx hb dX12_ringsMany_49 rfl (lv_at hl 4 rfl) ?_
              refine lv_iload hx hb dX12_ringsMany_50 (lv_at hl 0 rfl) ?_
              refine gi_div hx hb dX12_ringsMany_52 hg_17 hg_14.2 ?_
              refine lv_iload_n hx hb dX12_ringsMany_53 rfl (lv_at hl 5 rfl) ?_
              refine lv_iload hx hb dX12_ringsMany_54 (lv_at hl 0 rfl) ?_
              refine gi_div hx hb dX12_ringsMany_56 hg_20 hg_14.2 ?_
              obtain ⟨r_27, hc_26, hM⟩ := bd1_some hM
              refine g_si (As := [.int (iI (a1 / v_1)), .int (iI (a2 / v_1)), .int (iI (a3 / v_1))]) (rest := [.ref (b + 89), .long (jJ r_24), .long (jJ v_2)]) S hG hsz (vX12_place l hn (a1 / v_1) (a2 / v_1) (a3 / v_1) hc_26) wS_12_276 dX12_ringsMany_57 rfl hl.1 (ar := 3) (by decide +kernel) rfl ⟨Nat.le_of_ble_eq_true rfl, Nat.le_of_ble_eq_true rfl, Nat.le_of_ble_eq_true rfl, Nat.le_of_ble_eq_true rfl⟩ (Nat.le_of_ble_eq_true rfl) (fun rv uu H locs hp hG => ?_)
              obtain ⟨rfl, rfl⟩ := hp
              replace hG : gW D cy b n s H locs (enc b cy X S0) := hG
              obtain ⟨hg_28, hM⟩ := gd_some hM
              refine mj_ald S hG 89 92 rfl ec_92 (Nat.lt_of_lt_of_le (Nat.le_of_ble_eq_true rfl) hn) dX12_ringsMany_60 hg_28 (by decide) ?_
              refine gj_mul hx hb dX12_ringsMany_61 ?_
              refine gj_add hx hb dX12_ringsMany_62 ?_
              refine gj_nm (fun x_29 ex_29 => ?_)
              replace hM := nx_at hM ex_29
              clear ex_29
              refine lv_lstore (lv' := [(4, .long (jJ x_29)), (6, .int (iI v_1)), (0, .ref (b + 80)), (1, .int (iI a1)), (2, .int (iI a2)), (3, .int (iI a3))]) hx hb dX12_ringsMany_63 hl (by decide) rfl (fun ls hl => ?_)
              refine lv_iinc (v := iI (v_1 + 1)) (lv' := [(6, .int (iI (v_1 + 1))), (4, .long (jJ x_29)), (0, .ref (b + 80)), (1, .int (iI a1)), (2, .int (iI a2)), (3, .int (iI a3))]) hx hb dX12_ringsMany_65 hl (k := 1) rfl ((iI_add v_1 (1)).trans (congrArg iI (by omega))) (by decide) rfl (fun ls hl => ?_)
              refine lv_goto (tgt := 6) hx hb dX12_ringsMany_68 (by decide) ?_
              exact ih_10 (v_1 + 1) x_29 H locs ls hM hG (lv_sub hl [0, 1, 2, 3, 4, 5] rfl)
  exact loop_9 FU 1 0 H locs ls hc_4 hG (lv_sub hl [0, 1, 2, 3, 4, 5] rfl)
theorem wV_12_300 : gWV "GrownKindsModel" 300 yX12_ringsMany cX12_ringsMany 7 (some .long) := ⟨wm_2066, wm_2068, wm_123, wm_188, wm_2069, by decide +kernel, by decide +kernel⟩
def mX12_inMany_56 (S0 : St) (a1 : Int) (a3 : Int) (a4 : Int) : Nat → Int → Int → Option (Int)
  | 0, _, _ => none
  | f + 1, v_6, v_7 => gd ((inI v_6) ∧ (inI a3)) <| if a3 < v_6 then (some (v_7)) else (gd (inI a1) <| if a1 = 6 then (bd1 (mX12_ringsMany S0 v_6 a3 a4) fun r_25 => bd1 (mX12_add v_7 r_25 1000000000000) fun r_27 => mX12_inMany_56 S0 a1 a3 a4 f (v_6 + 1) r_27) else (bd1 (mX12_place v_6 a3 a4) fun r_19 => gd (0 ≤ r_19 ∧ r_19 < 512) <| gd (inL (S0 92 r_19)) <| bd1 (mX12_add v_7 (min 1000000000000 (S0 92 r_19)) 1000000000000) fun r_23 => mX12_inMany_56 S0 a1 a3 a4 f (v_6 + 1) r_23))
def mX12_inMany (S0 : St) (a1 : Int) (a2 : Int) (a3 : Int) (a4 : Int) : Option (Int) := gd (inI a2) <| if a2 ≤ 0 then (bd1 (gd (inI a1) <| if a1 = 6 then (some (1)) else (some (0))) fun z_3 => bd1 (mX12_inMany_56 S0 a1 a3 a4 FU z_3 0) fun y_8 => some (y_8)) else (gd (inI a1) <| if a1 = 6 then (bd1 (mX12_ringsMany S0 a2 a3 a4) fun r_37 => some (r_37)) else (bd1 (mX12_place a2 a3 a4) fun r_33 => gd (0 ≤ r_33 ∧ r_33 < 512) <| gd (inL (S0 92 r_33)) <| some ((min 1000000000000 (S0 92 r_33)))))
set_option maxHeartbeats 4000000 in
set_option maxRecDepth 100000 in
theorem vX12_inMany (l : Launch) {D : va_G} {cy : Nat → ClassId} {b n : Nat} (hn : 102 ≤ n) {X : Nat → va_E} {S0 : St} (a1 : Int) (a2 : Int) (a3 : Int) (a4 : Int) {o1 : Int} (hM : mX12_inMany S0 a1 a2 a3 a4 = some o1) : gL l yX12_inMany cX12_inMany 8 2 0 0 D cy b n (enc b cy X S0) [.ref (b + 80), .int (iI a1), .int (iI a2), .int (iI a3), .int (iI a4)] (fun r u => r = jJ o1 ∧ u = (n, enc b cy X S0)) := by
  refine gL_of (by decide) (Nat.le_of_ble_eq_true rfl) ?_
  intro p e s m args below meth c S hr hlk hin hsz ls hl hG
  have hx := S.1
  have hb := S.2.1
  have hl : lv_has ls 8 [(0, .ref (b + 80)), (1, .int (iI a1)), (2, .int (iI a2)), (3, .int (iI a3)), (4, .int (iI a4))] := hl
  replace hG : gW D cy b n s s.heap [] (enc b cy X S0) := hG
  obtain ⟨H, eH⟩ : ∃ H, H = s.heap := ⟨_, rfl⟩
  obtain ⟨locs, elocs⟩ : ∃ locs : List Loc, locs = [] := ⟨_, rfl⟩
  rw [← eH, ← elocs] at hG
  rw [← eH, ← elocs]
  clear eH elocs
  unfold mX12_inMany at hM
  refine lv_iload_n hx hb dX12_inMany_0 rfl (lv_at hl 2 rfl) ?_
  obtain ⟨hg_1, hM⟩ := gd_some hM
  refine gi_if_le (tgt := 40) hx hb dX12_inMany_1 (by decide) hg_1 (fun c_2 => ?_) (fun c_2 => ?_)
  · replace hM := ifp hM c_2
    refine lv_lconst (v := jJ 0) hx hb dX12_inMany_40 (by decide) ?_
    refine lv_lstore (lv' := [(5, .long (jJ 0)), (0, .ref (b + 80)), (1, .int (iI a1)), (2, .int (iI a2)), (3, .int (iI a3)), (4, .int (iI a4))]) hx hb dX12_inMany_41 hl (by decide) rfl (fun ls hl => ?_)
    refine lv_iload_n hx hb dX12_inMany_43 rfl (lv_at hl 2 rfl) ?_
    refine lv_bipush (v := iI 6) hx hb dX12_inMany_44 (by decide) ?_
    obtain ⟨z_3, hc_4, hM⟩ := bd1_some hM
    have hK_5 : ∀ (H : Heap) (locs : List Loc) (ls : Array Slot), gW D cy b n s H locs (enc b cy X S0) → lv_has ls 8 [(5, .long (jJ 0)), (0, .ref (b + 80)), (1, .int (iI a1)), (3, .int (iI a3)), (4, .int (iI a4))] → W p l e (gRm 2 0 0) s m args below meth c H locs 0 0 (gQL D cy b s args below 0 0 (fun r u => r = jJ o1 ∧ u = (n, enc b cy X S0))) (F0 m 54 ls [.int (iI z_3)]) := by
      intro H locs ls hG hl
      refine lv_istore (lv' := [(7, .int (iI z_3)), (5, .long (jJ 0)), (0, .ref (b + 80)), (1, .int (iI a1)), (3, .int (iI a3)), (4, .int (iI a4))]) hx hb dX12_inMany_54 hl (by decide) rfl (fun ls hl => ?_)
      obtain ⟨y_8, hc_9, hM⟩ := bd1_some hM
      have hK_10 : ∀ (H : Heap) (locs : List Loc) (ls : Array Slot), gW D cy b n s H locs (enc b cy X S0) → lv_has ls 8 [(5, .long (jJ y_8))] → W p l e (gRm 2 0 0) s m args below meth c H locs 0 0 (gQL D cy b s args below 0 0 (fun r u => r = jJ o1 ∧ u = (n, enc b cy X S0))) (F0 m 115 ls []) := by
        intro H locs ls hG hl
        refine lv_lload hx hb dX12_inMany_115 (lv_at hl 0 rfl) ?_
        cases hM
        exact g_lret S hr hlk hG hsz dX12_inMany_117 ⟨Nat.le_of_ble_eq_true rfl, Nat.le_of_ble_eq_true rfl⟩ ⟨rfl, rfl⟩
      have loop_11 : ∀ (f : Nat) (v_6 : Int) (v_7 : Int) (H : Heap) (locs : List Loc) (ls : Array Slot), mX12_inMany_56 S0 a1 a3 a4 f v_6 v_7 = some y_8 → gW D cy b n s H locs (enc b cy X S0) → lv_has ls 8 [(7, .int (iI v_6)), (5, .long (jJ v_7)), (0, .ref (b + 80)), (1, .int (iI a1)), (3, .int (iI a3)), (4, .int (iI a4))] → W p l e (gRm 2 0 0) s m args below meth c H locs 0 0 (gQL D cy b s args below 0 0 (fun r u => r = jJ o1 ∧ u = (n, enc b cy X S0))) (F0 m 56 ls []) := by
        clear hM
        intro f
        induction f with
        | zero => intro v_6 v_7 H locs ls hM; rw [mX12_inMany_56] at hM; cases hM
        | succ f_13 ih_12 =>
          intro v_6 v_7 H locs ls hM hG hl
          rw [mX12_inMany_56] at hM
          refine lv_iload hx hb dX12_inMany_56 (lv_at hl 0 rfl) ?_
          refine lv_iload_n hx hb dX12_inMany_58 rfl (lv_at hl 4 rfl) ?_
          obtain ⟨hg_14, hM⟩ := gd_some hM
          refine gi_icmp_gt (tgt := 115) hx hb dX12_inMany_59 (by decide) hg_14.1 hg_14.2 (fun c_15 => ?_) (fun c_15 => ?_)
          · replace hM := ifp hM c_15
            cases hM
            exact hK_10 H locs ls hG (lv_sub hl [1] rfl)
          · replace hM := ifn hM c_15
            refine lv_lload hx hb dX12_inMany_62 (lv_at hl 1 rfl) ?_
            refine lv_iload_n hx hb dX12_inMany_64 rfl (lv_at hl 3 rfl) ?_
            refine lv_bipush (v := iI 6) hx hb dX12_inMany_65 (by decide) ?_
            obtain ⟨hg_16, hM⟩ := gd_some hM
            refine gi_icmp_ne (tgt := 82) hx hb dX12_inMany_67 (by decide) hg_16 (by decide) (fun c_17 => ?_) (fun c_17 => ?_)
            · replace hM := ifn hM c_17
              refine lv_ldc2 (v := 1000000000000) hx hb S.2.2.2.1 (S.2.2.2.2 _ wm_2044) dX12_inMany_82 ?_
              refine gj_as 1000000000000 (by decide) ?_
              refine lv_aload_n hx hb dX12_inMany_85 rfl (lv_at hl 2 rfl) ?_
              refine m_get S hG 80 83 16 rfl ec_83 cpX12 wm_1689 dX12_inMany_86 rfl (Nat.lt_of_lt_of_le (Nat.le_of_ble_eq_true rfl) hn) (by decide) ?_
              refine lv_iload hx hb dX12_inMany_89 (lv_at hl 0 rfl) ?_
              refine lv_iload_n hx hb dX12_inMany_91 rfl (lv_at hl 4 rfl) ?_
              refine lv_iload hx hb dX12_inMany_92 (lv_at hl 5 rfl) ?_
              obtain ⟨r_19, hc_18, hM⟩ := bd1_some hM
              refine g_si (As := [.int (iI v_6), .int (iI a3), .int (iI a4)]) (rest := [.ref (b + 89), .long (jJ 1000000000000), .long (jJ v_7)]) S hG hsz (vX12_place l hn v_6 a3 a4 hc_18) wS_12_276 dX12_inMany_94 rfl hl.1 (ar := 3) (by decide +kernel) rfl ⟨Nat.le_of_ble_eq_true rfl, Nat.le_of_ble_eq_true rfl, Nat.le_of_ble_eq_true rfl, Nat.le_of_ble_eq_true rfl⟩ (Nat.le_of_ble_eq_true rfl) (fun rv uu H locs hp hG => ?_)
              obtain ⟨rfl, rfl⟩ := hp
              replace hG : gW D cy b n s H locs (enc b cy X S0) := hG
              obtain ⟨hg_20, hM⟩ := gd_some hM
              refine mj_ald S hG 89 92 rfl ec_92 (Nat.lt_of_lt_of_le (Nat.le_of_ble_eq_true rfl) hn) dX12_inMany_97 hg_20 (by decide) ?_
              obtain ⟨hg_21, hM⟩ := gd_some hM
              refine gj_min S wm_2046 wm_1149 wm_190 wm_1150 hl.1 dX12_inMany_98 ⟨Nat.le_of_ble_eq_true rfl, Nat.le_of_ble_eq_true rfl, Nat.le_of_ble_eq_true rfl, Nat.le_of_ble_eq_true rfl⟩ (by decide) hg_21 ?_
              refine lv_ldc2 (v := 1000000000000) hx hb S.2.2.2.1 (S.2.2.2.2 _ wm_2044) dX12_inMany_101 ?_
              refine gj_as 1000000000000 (by decide) ?_
              obtain ⟨r_23, hc_22, hM⟩ := bd1_some hM
              refine g_sl (As := [.long (jJ v_7), .long (jJ (min 1000000000000 (S0 92 r_19))), .long (jJ 1000000000000)]) (rest := []) S hG hsz (vX12_add l hn v_7 (min 1000000000000 (S0 92 r_19)) 1000000000000 hc_22) wS_12_282 dX12_inMany_104 rfl hl.1 (ar := 3) (by decide +kernel) rfl ⟨Nat.le_of_ble_eq_true rfl, Nat.le_of_ble_eq_true rfl, Nat.le_of_ble_eq_true rfl, Nat.le_of_ble_eq_true rfl⟩ (Nat.le_of_ble_eq_true rfl) (fun rv uu H locs hp hG => ?_)
              obtain ⟨rfl, rfl⟩ := hp
              replace hG : gW D cy b n s H locs (enc b cy X S0) := hG
              refine lv_lstore (lv' := [(5, .long (jJ r_23)), (7, .int (iI v_6)), (0, .ref (b + 80)), (1, .int (iI a1)), (3, .int (iI a3)), (4, .int (iI a4))]) hx hb dX12_inMany_107 hl (by decide) rfl (fun ls hl => ?_)
              refine lv_iinc (v := iI (v_6 + 1)) (lv' := [(7, .int (iI (v_6 + 1))), (5, .long (jJ r_23)), (0, .ref (b + 80)), (1, .int (iI a1)), (3, .int (iI a3)), (4, .int (iI a4))]) hx hb dX12_inMany_109 hl (k := 1) rfl ((iI_add v_6 (1)).trans (congrArg iI (by omega))) (by decide) rfl (fun ls hl => ?_)
              refine lv_goto (tgt := 56) hx hb dX12_inMany_112 (by decide) ?_
              exact ih_12 (v_6 + 1) r_23 H locs ls hM hG (lv_sub hl [0, 1, 2, 3, 4, 5] rfl)
            · replace hM := ifp hM c_17
              refine lv_aload_n hx hb dX12_inMany_70 rfl (lv_at hl 2 rfl) ?_
              refine lv_iload hx hb dX12_inMany_71 (lv_at hl 0 rfl) ?_
              refine lv_iload_n hx hb dX12_inMany_73 rfl (lv_at hl 4 rfl) ?_
              refine lv_iload hx hb dX12_inMany_74 (lv_at hl 5 rfl) ?_
              obtain ⟨r_25, hc_24, hM⟩ := bd1_some hM
              refine g_vl (As := [.int (iI v_6), .int (iI a3), .int (iI a4)]) (rest := [.long (jJ v_7)]) S hG hsz (vX12_ringsMany l hn v_6 a3 a4 hc_24) wV_12_300 (ec_83 _) cpX12 (Nat.lt_of_lt_of_le (Nat.le_of_ble_eq_true rfl) hn) dX12_inMany_76 rfl hl.1 (ar := 3) (by decide +kernel) rfl ⟨Nat.le_of_ble_eq_true rfl, Nat.le_of_ble_eq_true rfl, Nat.le_of_ble_eq_true rfl, Nat.le_of_ble_eq_true rfl⟩ (Nat.le_of_ble_eq_true rfl) (fun rv uu H locs hp hG => ?_)
              obtain ⟨rfl, rfl⟩ := hp
              replace hG : gW D cy b n s H locs (enc b cy X S0) := hG
              refine lv_goto (tgt := 101) hx hb dX12_inMany_79 (by decide) ?_
              refine lv_ldc2 (v := 1000000000000) hx hb S.2.2.2.1 (S.2.2.2.2 _ wm_2044) dX12_inMany_101 ?_
              refine gj_as 1000000000000 (by decide) ?_
              obtain ⟨r_27, hc_26, hM⟩ := bd1_some hM
              refine g_sl (As := [.long (jJ v_7), .long (jJ r_25), .long (jJ 1000000000000)]) (rest := []) S hG hsz (vX12_add l hn v_7 r_25 1000000000000 hc_26) wS_12_282 dX12_inMany_104 rfl hl.1 (ar := 3) (by decide +kernel) rfl ⟨Nat.le_of_ble_eq_true rfl, Nat.le_of_ble_eq_true rfl, Nat.le_of_ble_eq_true rfl, Nat.le_of_ble_eq_true rfl⟩ (Nat.le_of_ble_eq_true rfl) (fun rv uu H locs hp hG => ?_)
              obtain ⟨rfl, rfl⟩ := hp
              replace hG : gW D cy b n s H locs (enc b cy X S0) := hG
              refine lv_lstore (lv' := [(5, .long (jJ r_27)), (7, .int (iI v_6)), (0, .ref (b + 80)), (1, .int (iI a1)), (3, .int (iI a3)), (4, .int (iI a4))]) hx hb dX12_inMany_107 hl (by decide) rfl (fun ls hl => ?_)
              refine lv_iinc (v := iI (v_6 + 1)) (lv' := [(7, .int (iI (v_6 + 1))), (5, .long (jJ r_27)), (0, .ref (b + 80)), (1, .int (iI a1)), (3, .int (iI a3)), (4, .int (iI a4))]) hx hb dX12_inMany_109 hl (k := 1) rfl ((iI_add v_6 (1)).trans (congrArg iI (by omega))) (by decide) rfl (fun ls hl => ?_)
              refine lv_goto (tgt := 56) hx hb dX12_inMany_112 (by decide) ?_
              exact ih_12 (v_6 + 1) r_27 H locs ls hM hG (lv_sub hl [0, 1, 2, 3, 4, 5] rfl)
      exact loop_11 FU z_3 0 H locs ls hc_9 hG (lv_sub hl [0, 1, 2, 3, 4, 5] rfl)
    clear hM
    replace hM := hc_4
    obtain ⟨hg_28, hM⟩ := gd_some hM
    refine gi_icmp_ne (tgt := 53) hx hb dX12_inMany_46 (by decide) hg_28 (by decide) (fun c_29 => ?_) (fun c_29 => ?_)
    · replace hM := ifn hM c_29
      refine lv_iconst (v := iI 0) hx hb dX12_inMany_53 (by decide) ?_
      cases hM
      exact hK_5 H locs ls hG (lv_sub hl [0, 1, 2, 4, 5] rfl)
    · replace hM := ifp hM c_29
      refine lv_iconst (v := iI 1) hx hb dX12_inMany_49 (by decide) ?_
      refine lv_goto (tgt := 54) hx hb dX12_inMany_50 (by decide) ?_
      cases hM
      exact hK_5 H locs ls hG (lv_sub hl [0, 1, 2, 4, 5] rfl)
  · replace hM := ifn hM c_2
    refine lv_iload_n hx hb dX12_inMany_4 rfl (lv_at hl 1 rfl) ?_
    refine lv_bipush (v := iI 6) hx hb dX12_inMany_5 (by decide) ?_
    obtain ⟨hg_30, hM⟩ := gd_some hM
    refine gi_icmp_ne (tgt := 21) hx hb dX12_inMany_7 (by decide) hg_30 (by decide) (fun c_31 => ?_) (fun c_31 => ?_)
    · replace hM := ifn hM c_31
      refine lv_ldc2 (v := 1000000000000) hx hb S.2.2.2.1 (S.2.2.2.2 _ wm_2044) dX12_inMany_21 ?_
      refine gj_as 1000000000000 (by decide) ?_
      refine lv_aload_n hx hb dX12_inMany_24 rfl (lv_at hl 0 rfl) ?_
      refine m_get S hG 80 83 16 rfl ec_83 cpX12 wm_1689 dX12_inMany_25 rfl (Nat.lt_of_lt_of_le (Nat.le_of_ble_eq_true rfl) hn) (by decide) ?_
      refine lv_iload_n hx hb dX12_inMany_28 rfl (lv_at hl 2 rfl) ?_
      refine lv_iload_n hx hb dX12_inMany_29 rfl (lv_at hl 3 rfl) ?_
      refine lv_iload hx hb dX12_inMany_30 (lv_at hl 4 rfl) ?_
      obtain ⟨r_33, hc_32, hM⟩ := bd1_some hM
      refine g_si (As := [.int (iI a2), .int (iI a3), .int (iI a4)]) (rest := [.ref (b + 89), .long (jJ 1000000000000)]) S hG hsz (vX12_place l hn a2 a3 a4 hc_32) wS_12_276 dX12_inMany_32 rfl hl.1 (ar := 3) (by decide +kernel) rfl ⟨Nat.le_of_ble_eq_true rfl, Nat.le_of_ble_eq_true rfl, Nat.le_of_ble_eq_true rfl, Nat.le_of_ble_eq_true rfl⟩ (Nat.le_of_ble_eq_true rfl) (fun rv uu H locs hp hG => ?_)
      obtain ⟨rfl, rfl⟩ := hp
      replace hG : gW D cy b n s H locs (enc b cy X S0) := hG
      obtain ⟨hg_34, hM⟩ := gd_some hM
      refine mj_ald S hG 89 92 rfl ec_92 (Nat.lt_of_lt_of_le (Nat.le_of_ble_eq_true rfl) hn) dX12_inMany_35 hg_34 (by decide) ?_
      obtain ⟨hg_35, hM⟩ := gd_some hM
      refine gj_min S wm_2046 wm_1149 wm_190 wm_1150 hl.1 dX12_inMany_36 ⟨Nat.le_of_ble_eq_true rfl, Nat.le_of_ble_eq_true rfl, Nat.le_of_ble_eq_true rfl, Nat.le_of_ble_eq_true rfl⟩ (by decide) hg_35 ?_
      cases hM
      exact g_lret S hr hlk hG hsz dX12_inMany_39 ⟨Nat.le_of_ble_eq_true rfl, Nat.le_of_ble_eq_true rfl⟩ ⟨rfl, rfl⟩
    · replace hM := ifp hM c_31
      refine lv_aload_n hx hb dX12_inMany_10 rfl (lv_at hl 0 rfl) ?_
      refine lv_iload_n hx hb dX12_inMany_11 rfl (lv_at hl 2 rfl) ?_
      refine lv_iload_n hx hb dX12_inMany_12 rfl (lv_at hl 3 rfl) ?_
      refine lv_iload hx hb dX12_inMany_13 (lv_at hl 4 rfl) ?_
      obtain ⟨r_37, hc_36, hM⟩ := bd1_some hM
      refine g_vl (As := [.int (iI a2), .int (iI a3), .int (iI a4)]) (rest := []) S hG hsz (vX12_ringsMany l hn a2 a3 a4 hc_36) wV_12_300 (ec_83 _) cpX12 (Nat.lt_of_lt_of_le (Nat.le_of_ble_eq_true rfl) hn) dX12_inMany_15 rfl hl.1 (ar := 3) (by decide +kernel) rfl ⟨Nat.le_of_ble_eq_true rfl, Nat.le_of_ble_eq_true rfl, Nat.le_of_ble_eq_true rfl, Nat.le_of_ble_eq_true rfl⟩ (Nat.le_of_ble_eq_true rfl) (fun rv uu H locs hp hG => ?_)
      obtain ⟨rfl, rfl⟩ := hp
      replace hG : gW D cy b n s H locs (enc b cy X S0) := hG
      refine lv_goto (tgt := 39) hx hb dX12_inMany_18 (by decide) ?_
      cases hM
      exact g_lret S hr hlk hG hsz dX12_inMany_39 ⟨Nat.le_of_ble_eq_true rfl, Nat.le_of_ble_eq_true rfl⟩ ⟨rfl, rfl⟩
theorem wV_12_289 : gWV "GrownKindsModel" 289 yX12_laysBags cX12_laysBags 7 none := ⟨wm_2030, wm_2032, wm_118, wm_188, wm_2033, by decide +kernel, by decide +kernel⟩
theorem wV_12_293 : gWV "GrownKindsModel" 293 yX12_laysRows cX12_laysRows 11 none := ⟨wm_2053, wm_2055, wm_120, wm_188, wm_2056, by decide +kernel, by decide +kernel⟩
theorem wV_12_296 : gWV "GrownKindsModel" 296 yX12_inMany cX12_inMany 8 (some .long) := ⟨wm_2062, wm_2064, wm_122, wm_188, wm_2065, by decide +kernel, by decide +kernel⟩
theorem wV_12_272 : gWV "GrownKindsModel" 272 yX12_exprMany cX12_exprMany 8 (some .long) := ⟨wm_2058, wm_2060, wm_121, wm_188, wm_2061, by decide +kernel, by decide +kernel⟩
def mX12_countsPart_94 (x_2 : Int) (a1 : Int) (a2 : Int) (a3 : Int) (a4 : Int) : Nat → Int → St → Option (St)
  | 0, _, _ => none
  | f + 1, v_9, S_10 => gd ((inI v_9) ∧ (inI a3)) <| if a3 < v_9 then (some (S_10)) else (bd1 (if x_2 = 0 then (gd (inI a2) <| if a2 = 1 then (gd (0 ≤ (48 + a1) ∧ (48 + a1) < 228) <| gd ((inI a4) ∧ (inI (S_10 84 (48 + a1)))) <| if a4 = (S_10 84 (48 + a1)) then (if v_9 = 1 then (some (1)) else (some (0))) else (if v_9 = 0 then (some (1)) else (some (0)))) else (some (0))) else (if x_2 = 1 then (gd (inI a2) <| if a2 = 0 then (some (1)) else (some (0))) else (if x_2 = 2 then (gd (0 ≤ (48 + a1) ∧ (48 + a1) < 228) <| bd1 (mX12_place (24 + (S_10 84 (48 + a1))) a2 v_9) fun r_38 => gd (0 ≤ r_38 ∧ r_38 < 1920) <| nx (S_10 90 r_38) fun x_40 => some (x_40)) else (if x_2 = 3 then (gd (0 ≤ (48 + a1) ∧ (48 + a1) < 228) <| bd1 (mX12_inMany S_10 x_2 (S_10 84 (48 + a1)) a2 v_9) fun r_43 => some (r_43)) else (if x_2 = 4 then (gd (0 ≤ (48 + a1) ∧ (48 + a1) < 228) <| bd1 (mX12_inMany S_10 x_2 (S_10 84 (48 + a1)) a2 v_9) fun r_46 => some (r_46)) else (if x_2 = 5 then (gd (0 ≤ (48 + a1) ∧ (48 + a1) < 228) <| bd1 (mX12_inMany S_10 x_2 (S_10 84 (48 + a1)) a2 v_9) fun r_49 => some (r_49)) else (if x_2 = 6 then (gd (0 ≤ (48 + a1) ∧ (48 + a1) < 228) <| bd1 (mX12_inMany S_10 x_2 (S_10 84 (48 + a1)) a2 v_9) fun r_52 => some (r_52)) else (if x_2 = 7 then (gd (0 ≤ (48 + a1) ∧ (48 + a1) < 228) <| bd1 (mX12_exprMany S_10 (S_10 84 (48 + a1)) a2 v_9) fun r_55 => some (r_55)) else (gd (0 ≤ (48 + a1) ∧ (48 + a1) < 228) <| bd1 (mX12_inMany S_10 x_2 (S_10 84 (48 + a1)) a2 v_9) fun r_58 => some (r_58)))))))))) fun y_19 => bd1 (mX12_place a1 a2 v_9) fun r_23 => gd (0 ≤ r_23 ∧ r_23 < 1920) <| nx (up S_10 90 r_23 y_19) fun S_25 => mX12_countsPart_94 x_2 a1 a2 a3 a4 f (v_9 + 1) S_25)
def mX12_countsPart (S0 : St) (a1 : Int) (a2 : Int) (a3 : Int) (a4 : Int) : Option (St) := gd (0 ≤ (24 + a1) ∧ (24 + a1) < 228) <| nx (S0 84 (24 + a1)) fun x_2 => gd (inI x_2) <| bd1 (mX12_in x_2 3 6) fun r_5 => bd1 (bd1 (gd (inI r_5) <| if r_5 = 0 then (some (1)) else (if x_2 = 4 then (some (0)) else (if x_2 = 5 then (some (0)) else (some (1))))) fun t_59 => if t_59 = 0 then (gd (0 ≤ (72 + a1) ∧ (72 + a1) < 228) <| if x_2 = 5 then (bd1 (mX12_laysBags S0 (S0 84 (72 + a1)) a2 a3 1) fun S_67 => some (S_67)) else (bd1 (mX12_laysBags S0 (S0 84 (72 + a1)) a2 a3 0) fun S_65 => some (S_65))) else (gd (inI r_5) <| if r_5 = 0 then (some (S0)) else (gd (0 ≤ (72 + a1) ∧ (72 + a1) < 228) <| bd1 (mX12_laysRows S0 (S0 84 (72 + a1)) a2 a3) fun S_73 => some (S_73)))) fun S_6 => bd1 (mX12_countsPart_94 x_2 a1 a2 a3 a4 FU 0 S_6) fun S_11 => some (S_11)
set_option maxHeartbeats 4000000 in
set_option maxRecDepth 100000 in
theorem vX12_countsPart (l : Launch) {D : va_G} {cy : Nat → ClassId} {b n : Nat} (hn : 102 ≤ n) {X : Nat → va_E} {S0 : St} (a1 : Int) (a2 : Int) (a3 : Int) (a4 : Int) {o1 : St} (hM : mX12_countsPart S0 a1 a2 a3 a4 = some o1) : gV l yX12_countsPart cX12_countsPart 10 4 0 0 D cy b n (enc b cy X S0) [.ref (b + 80), .int (iI a1), .int (iI a2), .int (iI a3), .int (iI a4)] (fun u => u = (n, enc b cy X o1)) := by
  refine gV_of (by decide) (Nat.le_of_ble_eq_true rfl) ?_
  intro p e s m args below meth c S hr hlk hin hsz ls hl hG
  have hx := S.1
  have hb := S.2.1
  have hl : lv_has ls 10 [(0, .ref (b + 80)), (1, .int (iI a1)), (2, .int (iI a2)), (3, .int (iI a3)), (4, .int (iI a4))] := hl
  replace hG : gW D cy b n s s.heap [] (enc b cy X S0) := hG
  obtain ⟨H, eH⟩ : ∃ H, H = s.heap := ⟨_, rfl⟩
  obtain ⟨locs, elocs⟩ : ∃ locs : List Loc, locs = [] := ⟨_, rfl⟩
  rw [← eH, ← elocs] at hG
  rw [← eH, ← elocs]
  clear eH elocs
  unfold mX12_countsPart at hM
  refine lv_aload_n hx hb dX12_countsPart_0 rfl (lv_at hl 0 rfl) ?_
  refine m_get S hG 80 83 0 rfl ec_83 cpX12 wm_1673 dX12_countsPart_1 rfl (Nat.lt_of_lt_of_le (Nat.le_of_ble_eq_true rfl) hn) (by decide) ?_
  refine lv_bipush (v := iI 24) hx hb dX12_countsPart_4 (by decide) ?_
  refine lv_iload_n hx hb dX12_countsPart_6 rfl (lv_at hl 1 rfl) ?_
  refine gi_add hx hb dX12_countsPart_7 ?_
  obtain ⟨hg_1, hM⟩ := gd_some hM
  refine mi_ald S hG 81 84 rfl ec_84 (Nat.lt_of_lt_of_le (Nat.le_of_ble_eq_true rfl) hn) dX12_countsPart_8 hg_1 (by decide) ?_
  refine gi_nm (fun x_2 ex_2 => ?_)
  replace hM := nx_at hM ex_2
  clear ex_2
  refine lv_istore (lv' := [(5, .int (iI x_2)), (0, .ref (b + 80)), (1, .int (iI a1)), (2, .int (iI a2)), (3, .int (iI a3)), (4, .int (iI a4))]) hx hb dX12_countsPart_9 hl (by decide) rfl (fun ls hl => ?_)
  refine lv_iload hx hb dX12_countsPart_11 (lv_at hl 0 rfl) ?_
  obtain ⟨hg_3, hM⟩ := gd_some hM
  refine gi_i2l hx hb dX12_countsPart_13 hg_3 ?_
  refine lv_ldc2 (v := 3) hx hb S.2.2.2.1 (S.2.2.2.2 _ wm_1964) dX12_countsPart_14 ?_
  refine gj_as 3 (by decide) ?_
  refine lv_ldc2 (v := 6) hx hb S.2.2.2.1 (S.2.2.2.2 _ wm_1965) dX12_countsPart_17 ?_
  refine gj_as 6 (by decide) ?_
  obtain ⟨r_5, hc_4, hM⟩ := bd1_some hM
  refine g_si (As := [.long (jJ x_2), .long (jJ 3), .long (jJ 6)]) (rest := []) S hG hsz (vX12_in l hn x_2 3 6 hc_4) wS_12_97 dX12_countsPart_20 rfl hl.1 (ar := 3) (by decide +kernel) rfl ⟨Nat.le_of_ble_eq_true rfl, Nat.le_of_ble_eq_true rfl, Nat.le_of_ble_eq_true rfl, Nat.le_of_ble_eq_true rfl⟩ (Nat.le_of_ble_eq_true rfl) (fun rv uu H locs hp hG => ?_)
  obtain ⟨rfl, rfl⟩ := hp
  replace hG : gW D cy b n s H locs (enc b cy X S0) := hG
  refine lv_istore (lv' := [(6, .int (iI r_5)), (5, .int (iI x_2)), (0, .ref (b + 80)), (1, .int (iI a1)), (2, .int (iI a2)), (3, .int (iI a3)), (4, .int (iI a4))]) hx hb dX12_countsPart_23 hl (by decide) rfl (fun ls hl => ?_)
  refine lv_iload hx hb dX12_countsPart_25 (lv_at hl 0 rfl) ?_
  obtain ⟨S_6, hc_7, hM⟩ := bd1_some hM
  have hK_8 : ∀ (H : Heap) (locs : List Loc) (ls : Array Slot), gW D cy b n s H locs (enc b cy X S_6) → lv_has ls 10 [(5, .int (iI x_2)), (0, .ref (b + 80)), (1, .int (iI a1)), (2, .int (iI a2)), (3, .int (iI a3)), (4, .int (iI a4))] → W p l e (gRm 4 0 0) s m args below meth c H locs 0 0 (gQV D cy b s args below 0 0 (fun u => u = (n, enc b cy X o1))) (F0 m 91 ls []) := by
    intro H locs ls hG hl
    refine lv_iconst (v := iI 0) hx hb dX12_countsPart_91 (by decide) ?_
    refine lv_istore (lv' := [(7, .int (iI 0)), (5, .int (iI x_2)), (0, .ref (b + 80)), (1, .int (iI a1)), (2, .int (iI a2)), (3, .int (iI a3)), (4, .int (iI a4))]) hx hb dX12_countsPart_92 hl (by decide) rfl (fun ls hl => ?_)
    obtain ⟨S_11, hc_12, hM⟩ := bd1_some hM
    have hK_13 : ∀ (H : Heap) (locs : List Loc) (ls : Array Slot), gW D cy b n s H locs (enc b cy X S_11) → lv_has ls 10 [] → W p l e (gRm 4 0 0) s m args below meth c H locs 0 0 (gQV D cy b s args below 0 0 (fun u => u = (n, enc b cy X o1))) (F0 m 290 ls []) := by
      intro H locs ls hG hl
      cases hM
      exact g_vret S hr hlk hG hsz dX12_countsPart_290 ⟨Nat.le_of_ble_eq_true rfl, Nat.le_of_ble_eq_true rfl⟩ rfl
    have loop_14 : ∀ (f : Nat) (v_9 : Int) (S_10 : St) (H : Heap) (locs : List Loc) (ls : Array Slot), mX12_countsPart_94 x_2 a1 a2 a3 a4 f v_9 S_10 = some S_11 → gW D cy b n s H locs (enc b cy X S_10) → lv_has ls 10 [(7, .int (iI v_9)), (5, .int (iI x_2)), (0, .ref (b + 80)), (1, .int (iI a1)), (2, .int (iI a2)), (3, .int (iI a3)), (4, .int (iI a4))] → W p l e (gRm 4 0 0) s m args below meth c H locs 0 0 (gQV D cy b s args below 0 0 (fun u => u = (n, enc b cy X o1))) (F0 m 94 ls []) := by
      clear hM
      intro f
      induction f with
      | zero => intro v_9 S_10 H locs ls hM; rw [mX12_countsPart_94] at hM; cases hM
      | succ f_16 ih_15 =>
        intro v_9 S_10 H locs ls hM hG hl
        rw [mX12_countsPart_94] at hM
        refine lv_iload hx hb dX12_countsPart_94 (lv_at hl 0 rfl) ?_
        refine lv_iload_n hx hb dX12_countsPart_96 rfl (lv_at hl 5 rfl) ?_
        obtain ⟨hg_17, hM⟩ := gd_some hM
        refine gi_icmp_gt (tgt := 290) hx hb dX12_countsPart_97 (by decide) hg_17.1 hg_17.2 (fun c_18 => ?_) (fun c_18 => ?_)
        · replace hM := ifp hM c_18
          cases hM
          exact hK_13 H locs ls hG (lv_sub hl [] rfl)
        · replace hM := ifn hM c_18
          refine lv_iload hx hb dX12_countsPart_100 (lv_at hl 1 rfl) ?_
          obtain ⟨y_19, hc_20, hM⟩ := bd1_some hM
          have hK_21 : ∀ (H : Heap) (locs : List Loc) (ls : Array Slot), gW D cy b n s H locs (enc b cy X S_10) → lv_has ls 10 [(7, .int (iI v_9)), (5, .int (iI x_2)), (0, .ref (b + 80)), (1, .int (iI a1)), (2, .int (iI a2)), (3, .int (iI a3)), (4, .int (iI a4)), (8, .long (jJ y_19))] → W p l e (gRm 4 0 0) s m args below meth c H locs 0 0 (gQV D cy b s args below 0 0 (fun u => u = (n, enc b cy X o1))) (F0 m 270 ls []) := by
            intro H locs ls hG hl
            refine lv_aload_n hx hb dX12_countsPart_270 rfl (lv_at hl 2 rfl) ?_
            refine m_get S hG 80 83 14 rfl ec_83 cpX12 wm_1687 dX12_countsPart_271 rfl (Nat.lt_of_lt_of_le (Nat.le_of_ble_eq_true rfl) hn) (by decide) ?_
            refine lv_iload_n hx hb dX12_countsPart_274 rfl (lv_at hl 3 rfl) ?_
            refine lv_iload_n hx hb dX12_countsPart_275 rfl (lv_at hl 4 rfl) ?_
            refine lv_iload hx hb dX12_countsPart_276 (lv_at hl 0 rfl) ?_
            obtain ⟨r_23, hc_22, hM⟩ := bd1_some hM
            refine g_si (As := [.int (iI a1), .int (iI a2), .int (iI v_9)]) (rest := [.ref (b + 87)]) S hG hsz (vX12_place l hn a1 a2 v_9 hc_22) wS_12_276 dX12_countsPart_278 rfl hl.1 (ar := 3) (by decide +kernel) rfl ⟨Nat.le_of_ble_eq_true rfl, Nat.le_of_ble_eq_true rfl, Nat.le_of_ble_eq_true rfl, Nat.le_of_ble_eq_true rfl⟩ (Nat.le_of_ble_eq_true rfl) (fun rv uu H locs hp hG => ?_)
            obtain ⟨rfl, rfl⟩ := hp
            replace hG : gW D cy b n s H locs (enc b cy X S_10) := hG
            refine lv_lload hx hb dX12_countsPart_281 (lv_at hl 7 rfl) ?_
            obtain ⟨hg_24, hM⟩ := gd_some hM
            refine mj_ast S hG 87 90 rfl ec_90 (Nat.lt_of_lt_of_le (Nat.le_of_ble_eq_true rfl) hn) dX12_countsPart_283 hg_24 (by decide) (fun H locs S_25 eS_25 hG => ?_)
            replace hM := nx_at hM eS_25
            clear eS_25
            refine lv_iinc (v := iI (v_9 + 1)) (lv' := [(7, .int (iI (v_9 + 1))), (5, .int (iI x_2)), (0, .ref (b + 80)), (1, .int (iI a1)), (2, .int (iI a2)), (3, .int (iI a3)), (4, .int (iI a4)), (8, .long (jJ y_19))]) hx hb dX12_countsPart_284 hl (k := 0) rfl ((iI_add v_9 (1)).trans (congrArg iI (by omega))) (by decide) rfl (fun ls hl => ?_)
            refine lv_goto (tgt := 94) hx hb dX12_countsPart_287 (by decide) ?_
            exact ih_15 (v_9 + 1) S_25 H locs ls hM hG (lv_sub hl [0, 1, 2, 3, 4, 5, 6] rfl)
          clear hM
          replace hM := hc_20
          rcases (show x_2 = 0 ∨ x_2 = 1 ∨ x_2 = 2 ∨ x_2 = 3 ∨ x_2 = 4 ∨ x_2 = 5 ∨ x_2 = 6 ∨ x_2 = 7 ∨ (x_2 < 0 ∨ 7 < x_2) by omega) with hs_26 | hs_26 | hs_26 | hs_26 | hs_26 | hs_26 | hs_26 | hs_26 | hs_26
          · replace hM := ifp hM hs_26
            refine gi_tsI (off := 46) (tgt := 148) hx hb 0 dX12_countsPart_102 hg_3 (by omega) (by omega) (by rfl) (by decide) ?_
            refine lv_iload_n hx hb dX12_countsPart_148 rfl (lv_at hl 4 rfl) ?_
            refine lv_iconst (v := iI 1) hx hb dX12_countsPart_149 (by decide) ?_
            obtain ⟨hg_27, hM⟩ := gd_some hM
            refine gi_icmp_ne (tgt := 181) hx hb dX12_countsPart_150 (by decide) hg_27 (by decide) (fun c_28 => ?_) (fun c_28 => ?_)
            · replace hM := ifn hM c_28
              refine lv_lconst (v := jJ 0) hx hb dX12_countsPart_181 (by decide) ?_
              refine lv_lstore (lv' := [(8, .long (jJ 0)), (7, .int (iI v_9)), (5, .int (iI x_2)), (0, .ref (b + 80)), (1, .int (iI a1)), (2, .int (iI a2)), (3, .int (iI a3)), (4, .int (iI a4))]) hx hb dX12_countsPart_182 hl (by decide) rfl (fun ls hl => ?_)
              refine lv_goto (tgt := 270) hx hb dX12_countsPart_184 (by decide) ?_
              cases hM
              exact hK_21 H locs ls hG (lv_sub hl [1, 2, 3, 4, 5, 6, 7, 0] rfl)
            · replace hM := ifp hM c_28
              refine lv_iload hx hb dX12_countsPart_153 (lv_at hl 0 rfl) ?_
              refine lv_iload hx hb dX12_countsPart_155 (lv_at hl 6 rfl) ?_
              refine lv_aload_n hx hb dX12_countsPart_157 rfl (lv_at hl 2 rfl) ?_
              refine m_get S hG 80 83 0 rfl ec_83 cpX12 wm_1673 dX12_countsPart_158 rfl (Nat.lt_of_lt_of_le (Nat.le_of_ble_eq_true rfl) hn) (by decide) ?_
              refine lv_bipush (v := iI 48) hx hb dX12_countsPart_161 (by decide) ?_
              refine lv_iload_n hx hb dX12_countsPart_163 rfl (lv_at hl 3 rfl) ?_
              refine gi_add hx hb dX12_countsPart_164 ?_
              obtain ⟨hg_29, hM⟩ := gd_some hM
              refine mi_ald S hG 81 84 rfl ec_84 (Nat.lt_of_lt_of_le (Nat.le_of_ble_eq_true rfl) hn) dX12_countsPart_165 hg_29 (by decide) ?_
              obtain ⟨hg_30, hM⟩ := gd_some hM
              refine gi_icmp_ne (tgt := 173) hx hb dX12_countsPart_166 (by decide) hg_30.1 hg_30.2 (fun c_31 => ?_) (fun c_31 => ?_)
              · replace hM := ifn hM c_31
                refine lv_iconst (v := iI 0) hx hb dX12_countsPart_173 (by decide) ?_
                refine gi_icmp_ne (tgt := 181) hx hb dX12_countsPart_174 (by decide) hg_17.1 (by decide) (fun c_32 => ?_) (fun c_32 => ?_)
                · replace hM := ifn hM c_32
                  refine lv_lconst (v := jJ 0) hx hb dX12_countsPart_181 (by decide) ?_
                  refine lv_lstore (lv' := [(8, .long (jJ 0)), (7, .int (iI v_9)), (5, .int (iI x_2)), (0, .ref (b + 80)), (1, .int (iI a1)), (2, .int (iI a2)), (3, .int (iI a3)), (4, .int (iI a4))]) hx hb dX12_countsPart_182 hl (by decide) rfl (fun ls hl => ?_)
                  refine lv_goto (tgt := 270) hx hb dX12_countsPart_184 (by decide) ?_
                  cases hM
                  exact hK_21 H locs ls hG (lv_sub hl [1, 2, 3, 4, 5, 6, 7, 0] rfl)
                · replace hM := ifp hM c_32
                  refine lv_lconst (v := jJ 1) hx hb dX12_countsPart_177 (by decide) ?_
                  refine lv_goto (tgt := 182) hx hb dX12_countsPart_178 (by decide) ?_
                  refine lv_lstore (lv' := [(8, .long (jJ 1)), (7, .int (iI v_9)), (5, .int (iI x_2)), (0, .ref (b + 80)), (1, .int (iI a1)), (2, .int (iI a2)), (3, .int (iI a3)), (4, .int (iI a4))]) hx hb dX12_countsPart_182 hl (by decide) rfl (fun ls hl => ?_)
                  refine lv_goto (tgt := 270) hx hb dX12_countsPart_184 (by decide) ?_
                  cases hM
                  exact hK_21 H locs ls hG (lv_sub hl [1, 2, 3, 4, 5, 6, 7, 0] rfl)
              · replace hM := ifp hM c_31
                refine lv_iconst (v := iI 1) hx hb dX12_countsPart_169 (by decide) ?_
                refine lv_goto (tgt := 174) hx hb dX12_countsPart_170 (by decide) ?_
                refine gi_icmp_ne (tgt := 181) hx hb dX12_countsPart_174 (by decide) hg_17.1 (by decide) (fun c_33 => ?_) (fun c_33 => ?_)
                · replace hM := ifn hM c_33
                  refine lv_lconst (v := jJ 0) hx hb dX12_countsPart_181 (by decide) ?_
                  refine lv_lstore (lv' := [(8, .long (jJ 0)), (7, .int (iI v_9)), (5, .int (iI x_2)), (0, .ref (b + 80)), (1, .int (iI a1)), (2, .int (iI a2)), (3, .int (iI a3)), (4, .int (iI a4))]) hx hb dX12_countsPart_182 hl (by decide) rfl (fun ls hl => ?_)
                  refine lv_goto (tgt := 270) hx hb dX12_countsPart_184 (by decide) ?_
                  cases hM
                  exact hK_21 H locs ls hG (lv_sub hl [1, 2, 3, 4, 5, 6, 7, 0] rfl)
                · replace hM := ifp hM c_33
                  refine lv_lconst (v := jJ 1) hx hb dX12_countsPart_177 (by decide) ?_
                  refine lv_goto (tgt := 182) hx hb dX12_countsPart_178 (by decide) ?_
                  refine lv_lstore (lv' := [(8, .long (jJ 1)), (7, .int (iI v_9)), (5, .int (iI x_2)), (0, .ref (b + 80)), (1, .int (iI a1)), (2, .int (iI a2)), (3, .int (iI a3)), (4, .int (iI a4))]) hx hb dX12_countsPart_182 hl (by decide) rfl (fun ls hl => ?_)
                  refine lv_goto (tgt := 270) hx hb dX12_countsPart_184 (by decide) ?_
                  cases hM
                  exact hK_21 H locs ls hG (lv_sub hl [1, 2, 3, 4, 5, 6, 7, 0] rfl)
          · replace hM := ifn hM (by omega)
            replace hM := ifp hM hs_26
            refine gi_tsI (off := 85) (tgt := 187) hx hb 1 dX12_countsPart_102 hg_3 (by omega) (by omega) (by rfl) (by decide) ?_
            refine lv_iload_n hx hb dX12_countsPart_187 rfl (lv_at hl 4 rfl) ?_
            obtain ⟨hg_34, hM⟩ := gd_some hM
            refine gi_if_ne (tgt := 195) hx hb dX12_countsPart_188 (by decide) hg_34 (fun c_35 => ?_) (fun c_35 => ?_)
            · replace hM := ifn hM c_35
              refine lv_lconst (v := jJ 0) hx hb dX12_countsPart_195 (by decide) ?_
              refine lv_lstore (lv' := [(8, .long (jJ 0)), (7, .int (iI v_9)), (5, .int (iI x_2)), (0, .ref (b + 80)), (1, .int (iI a1)), (2, .int (iI a2)), (3, .int (iI a3)), (4, .int (iI a4))]) hx hb dX12_countsPart_196 hl (by decide) rfl (fun ls hl => ?_)
              refine lv_goto (tgt := 270) hx hb dX12_countsPart_198 (by decide) ?_
              cases hM
              exact hK_21 H locs ls hG (lv_sub hl [1, 2, 3, 4, 5, 6, 7, 0] rfl)
            · replace hM := ifp hM c_35
              refine lv_lconst (v := jJ 1) hx hb dX12_countsPart_191 (by decide) ?_
              refine lv_goto (tgt := 196) hx hb dX12_countsPart_192 (by decide) ?_
              refine lv_lstore (lv' := [(8, .long (jJ 1)), (7, .int (iI v_9)), (5, .int (iI x_2)), (0, .ref (b + 80)), (1, .int (iI a1)), (2, .int (iI a2)), (3, .int (iI a3)), (4, .int (iI a4))]) hx hb dX12_countsPart_196 hl (by decide) rfl (fun ls hl => ?_)
              refine lv_goto (tgt := 270) hx hb dX12_countsPart_198 (by decide) ?_
              cases hM
              exact hK_21 H locs ls hG (lv_sub hl [1, 2, 3, 4, 5, 6, 7, 0] rfl)
          · replace hM := ifn hM (by omega)
            replace hM := ifn hM (by omega)
            replace hM := ifp hM hs_26
            refine gi_tsI (off := 99) (tgt := 201) hx hb 2 dX12_countsPart_102 hg_3 (by omega) (by omega) (by rfl) (by decide) ?_
            refine lv_aload_n hx hb dX12_countsPart_201 rfl (lv_at hl 2 rfl) ?_
            refine m_get S hG 80 83 14 rfl ec_83 cpX12 wm_1687 dX12_countsPart_202 rfl (Nat.lt_of_lt_of_le (Nat.le_of_ble_eq_true rfl) hn) (by decide) ?_
            refine lv_bipush (v := iI 24) hx hb dX12_countsPart_205 (by decide) ?_
            refine lv_aload_n hx hb dX12_countsPart_207 rfl (lv_at hl 2 rfl) ?_
            refine m_get S hG 80 83 0 rfl ec_83 cpX12 wm_1673 dX12_countsPart_208 rfl (Nat.lt_of_lt_of_le (Nat.le_of_ble_eq_true rfl) hn) (by decide) ?_
            refine lv_bipush (v := iI 48) hx hb dX12_countsPart_211 (by decide) ?_
            refine lv_iload_n hx hb dX12_countsPart_213 rfl (lv_at hl 3 rfl) ?_
            refine gi_add hx hb dX12_countsPart_214 ?_
            obtain ⟨hg_36, hM⟩ := gd_some hM
            refine mi_ald S hG 81 84 rfl ec_84 (Nat.lt_of_lt_of_le (Nat.le_of_ble_eq_true rfl) hn) dX12_countsPart_215 hg_36 (by decide) ?_
            refine gi_add hx hb dX12_countsPart_216 ?_
            refine lv_iload_n hx hb dX12_countsPart_217 rfl (lv_at hl 4 rfl) ?_
            refine lv_iload hx hb dX12_countsPart_218 (lv_at hl 0 rfl) ?_
            obtain ⟨r_38, hc_37, hM⟩ := bd1_some hM
            refine g_si (As := [.int (iI (24 + (S_10 84 (48 + a1)))), .int (iI a2), .int (iI v_9)]) (rest := [.ref (b + 87)]) S hG hsz (vX12_place l hn (24 + (S_10 84 (48 + a1))) a2 v_9 hc_37) wS_12_276 dX12_countsPart_220 rfl hl.1 (ar := 3) (by decide +kernel) rfl ⟨Nat.le_of_ble_eq_true rfl, Nat.le_of_ble_eq_true rfl, Nat.le_of_ble_eq_true rfl, Nat.le_of_ble_eq_true rfl⟩ (Nat.le_of_ble_eq_true rfl) (fun rv uu H locs hp hG => ?_)
            obtain ⟨rfl, rfl⟩ := hp
            replace hG : gW D cy b n s H locs (enc b cy X S_10) := hG
            obtain ⟨hg_39, hM⟩ := gd_some hM
            refine mj_ald S hG 87 90 rfl ec_90 (Nat.lt_of_lt_of_le (Nat.le_of_ble_eq_true rfl) hn) dX12_countsPart_223 hg_39 (by decide) ?_
            refine gj_nm (fun x_40 ex_40 => ?_)
            replace hM := nx_at hM ex_40
            clear ex_40
            refine lv_lstore (lv' := [(8, .long (jJ x_40)), (7, .int (iI v_9)), (5, .int (iI x_2)), (0, .ref (b + 80)), (1, .int (iI a1)), (2, .int (iI a2)), (3, .int (iI a3)), (4, .int (iI a4))]) hx hb dX12_countsPart_224 hl (by decide) rfl (fun ls hl => ?_)
            refine lv_goto (tgt := 270) hx hb dX12_countsPart_226 (by decide) ?_
            cases hM
            exact hK_21 H locs ls hG (lv_sub hl [1, 2, 3, 4, 5, 6, 7, 0] rfl)
          · replace hM := ifn hM (by omega)
            replace hM := ifn hM (by omega)
            replace hM := ifn hM (by omega)
            replace hM := ifp hM hs_26
            refine gi_tsI (off := 148) (tgt := 250) hx hb 3 dX12_countsPart_102 hg_3 (by omega) (by omega) (by rfl) (by decide) ?_
            refine lv_aload_n hx hb dX12_countsPart_250 rfl (lv_at hl 2 rfl) ?_
            refine lv_iload hx hb dX12_countsPart_251 (lv_at hl 1 rfl) ?_
            refine lv_aload_n hx hb dX12_countsPart_253 rfl (lv_at hl 2 rfl) ?_
            refine m_get S hG 80 83 0 rfl ec_83 cpX12 wm_1673 dX12_countsPart_254 rfl (Nat.lt_of_lt_of_le (Nat.le_of_ble_eq_true rfl) hn) (by decide) ?_
            refine lv_bipush (v := iI 48) hx hb dX12_countsPart_257 (by decide) ?_
            refine lv_iload_n hx hb dX12_countsPart_259 rfl (lv_at hl 3 rfl) ?_
            refine gi_add hx hb dX12_countsPart_260 ?_
            obtain ⟨hg_41, hM⟩ := gd_some hM
            refine mi_ald S hG 81 84 rfl ec_84 (Nat.lt_of_lt_of_le (Nat.le_of_ble_eq_true rfl) hn) dX12_countsPart_261 hg_41 (by decide) ?_
            refine lv_iload_n hx hb dX12_countsPart_262 rfl (lv_at hl 4 rfl) ?_
            refine lv_iload hx hb dX12_countsPart_263 (lv_at hl 0 rfl) ?_
            obtain ⟨r_43, hc_42, hM⟩ := bd1_some hM
            refine g_vl (As := [.int (iI x_2), .int (iI (S_10 84 (48 + a1))), .int (iI a2), .int (iI v_9)]) (rest := []) S hG hsz (vX12_inMany l hn x_2 (S_10 84 (48 + a1)) a2 v_9 hc_42) wV_12_296 (ec_83 _) cpX12 (Nat.lt_of_lt_of_le (Nat.le_of_ble_eq_true rfl) hn) dX12_countsPart_265 rfl hl.1 (ar := 4) (by decide +kernel) rfl ⟨Nat.le_of_ble_eq_true rfl, Nat.le_of_ble_eq_true rfl, Nat.le_of_ble_eq_true rfl, Nat.le_of_ble_eq_true rfl⟩ (Nat.le_of_ble_eq_true rfl) (fun rv uu H locs hp hG => ?_)
            obtain ⟨rfl, rfl⟩ := hp
            replace hG : gW D cy b n s H locs (enc b cy X S_10) := hG
            refine lv_lstore (lv' := [(8, .long (jJ r_43)), (7, .int (iI v_9)), (5, .int (iI x_2)), (0, .ref (b + 80)), (1, .int (iI a1)), (2, .int (iI a2)), (3, .int (iI a3)), (4, .int (iI a4))]) hx hb dX12_countsPart_268 hl (by decide) rfl (fun ls hl => ?_)
            cases hM
            exact hK_21 H locs ls hG (lv_sub hl [1, 2, 3, 4, 5, 6, 7, 0] rfl)
          · replace hM := ifn hM (by omega)
            replace hM := ifn hM (by omega)
            replace hM := ifn hM (by omega)
            replace hM := ifn hM (by omega)
            replace hM := ifp hM hs_26
            refine gi_tsI (off := 148) (tgt := 250) hx hb 4 dX12_countsPart_102 hg_3 (by omega) (by omega) (by rfl) (by decide) ?_
            refine lv_aload_n hx hb dX12_countsPart_250 rfl (lv_at hl 2 rfl) ?_
            refine lv_iload hx hb dX12_countsPart_251 (lv_at hl 1 rfl) ?_
            refine lv_aload_n hx hb dX12_countsPart_253 rfl (lv_at hl 2 rfl) ?_
            refine m_get S hG 80 83 0 rfl ec_83 cpX12 wm_1673 dX12_countsPart_254 rfl (Nat.lt_of_lt_of_le (Nat.le_of_ble_eq_true rfl) hn) (by decide) ?_
            refine lv_bipush (v := iI 48) hx hb dX12_countsPart_257 (by decide) ?_
            refine lv_iload_n hx hb dX12_countsPart_259 rfl (lv_at hl 3 rfl) ?_
            refine gi_add hx hb dX12_countsPart_260 ?_
            obtain ⟨hg_44, hM⟩ := gd_some hM
            refine mi_ald S hG 81 84 rfl ec_84 (Nat.lt_of_lt_of_le (Nat.le_of_ble_eq_true rfl) hn) dX12_countsPart_261 hg_44 (by decide) ?_
            refine lv_iload_n hx hb dX12_countsPart_262 rfl (lv_at hl 4 rfl) ?_
            refine lv_iload hx hb dX12_countsPart_263 (lv_at hl 0 rfl) ?_
            obtain ⟨r_46, hc_45, hM⟩ := bd1_some hM
            refine g_vl (As := [.int (iI x_2), .int (iI (S_10 84 (48 + a1))), .int (iI a2), .int (iI v_9)]) (rest := []) S hG hsz (vX12_inMany l hn x_2 (S_10 84 (48 + a1)) a2 v_9 hc_45) wV_12_296 (ec_83 _) cpX12 (Nat.lt_of_lt_of_le (Nat.le_of_ble_eq_true rfl) hn) dX12_countsPart_265 rfl hl.1 (ar := 4) (by decide +kernel) rfl ⟨Nat.le_of_ble_eq_true rfl, Nat.le_of_ble_eq_true rfl, Nat.le_of_ble_eq_true rfl, Nat.le_of_ble_eq_true rfl⟩ (Nat.le_of_ble_eq_true rfl) (fun rv uu H locs hp hG => ?_)
            obtain ⟨rfl, rfl⟩ := hp
            replace hG : gW D cy b n s H locs (enc b cy X S_10) := hG
            refine lv_lstore (lv' := [(8, .long (jJ r_46)), (7, .int (iI v_9)), (5, .int (iI x_2)), (0, .ref (b + 80)), (1, .int (iI a1)), (2, .int (iI a2)), (3, .int (iI a3)), (4, .int (iI a4))]) hx hb dX12_countsPart_268 hl (by decide) rfl (fun ls hl => ?_)
            cases hM
            exact hK_21 H locs ls hG (lv_sub hl [1, 2, 3, 4, 5, 6, 7, 0] rfl)
          · replace hM := ifn hM (by omega)
            replace hM := ifn hM (by omega)
            replace hM := ifn hM (by omega)
            replace hM := ifn hM (by omega)
            replace hM := ifn hM (by omega)
            replace hM := ifp hM hs_26
            refine gi_tsI (off := 148) (tgt := 250) hx hb 5 dX12_countsPart_102 hg_3 (by omega) (by omega) (by rfl) (by decide) ?_
            refine lv_aload_n hx hb dX12_countsPart_250 rfl (lv_at hl 2 rfl) ?_
            refine lv_iload hx hb dX12_countsPart_251 (lv_at hl 1 rfl) ?_
            refine lv_aload_n hx hb dX12_countsPart_253 rfl (lv_at hl 2 rfl) ?_
            refine m_get S hG 80 83 0 rfl ec_83 cpX12 wm_1673 dX12_countsPart_254 rfl (Nat.lt_of_lt_of_le (Nat.le_of_ble_eq_true rfl) hn) (by decide) ?_
            refine lv_bipush (v := iI 48) hx hb dX12_countsPart_257 (by decide) ?_
            refine lv_iload_n hx hb dX12_countsPart_259 rfl (lv_at hl 3 rfl) ?_
            refine gi_add hx hb dX12_countsPart_260 ?_
            obtain ⟨hg_47, hM⟩ := gd_some hM
            refine mi_ald S hG 81 84 rfl ec_84 (Nat.lt_of_lt_of_le (Nat.le_of_ble_eq_true rfl) hn) dX12_countsPart_261 hg_47 (by decide) ?_
            refine lv_iload_n hx hb dX12_countsPart_262 rfl (lv_at hl 4 rfl) ?_
            refine lv_iload hx hb dX12_countsPart_263 (lv_at hl 0 rfl) ?_
            obtain ⟨r_49, hc_48, hM⟩ := bd1_some hM
            refine g_vl (As := [.int (iI x_2), .int (iI (S_10 84 (48 + a1))), .int (iI a2), .int (iI v_9)]) (rest := []) S hG hsz (vX12_inMany l hn x_2 (S_10 84 (48 + a1)) a2 v_9 hc_48) wV_12_296 (ec_83 _) cpX12 (Nat.lt_of_lt_of_le (Nat.le_of_ble_eq_true rfl) hn) dX12_countsPart_265 rfl hl.1 (ar := 4) (by decide +kernel) rfl ⟨Nat.le_of_ble_eq_true rfl, Nat.le_of_ble_eq_true rfl, Nat.le_of_ble_eq_true rfl, Nat.le_of_ble_eq_true rfl⟩ (Nat.le_of_ble_eq_true rfl) (fun rv uu H locs hp hG => ?_)
            obtain ⟨rfl, rfl⟩ := hp
            replace hG : gW D cy b n s H locs (enc b cy X S_10) := hG
            refine lv_lstore (lv' := [(8, .long (jJ r_49)), (7, .int (iI v_9)), (5, .int (iI x_2)), (0, .ref (b + 80)), (1, .int (iI a1)), (2, .int (iI a2)), (3, .int (iI a3)), (4, .int (iI a4))]) hx hb dX12_countsPart_268 hl (by decide) rfl (fun ls hl => ?_)
            cases hM
            exact hK_21 H locs ls hG (lv_sub hl [1, 2, 3, 4, 5, 6, 7, 0] rfl)
          · replace hM := ifn hM (by omega)
            replace hM := ifn hM (by omega)
            replace hM := ifn hM (by omega)
            replace hM := ifn hM (by omega)
            replace hM := ifn hM (by omega)
            replace hM := ifn hM (by omega)
            replace hM := ifp hM hs_26
            refine gi_tsI (off := 148) (tgt := 250) hx hb 6 dX12_countsPart_102 hg_3 (by omega) (by omega) (by rfl) (by decide) ?_
            refine lv_aload_n hx hb dX12_countsPart_250 rfl (lv_at hl 2 rfl) ?_
            refine lv_iload hx hb dX12_countsPart_251 (lv_at hl 1 rfl) ?_
            refine lv_aload_n hx hb dX12_countsPart_253 rfl (lv_at hl 2 rfl) ?_
            refine m_get S hG 80 83 0 rfl ec_83 cpX12 wm_1673 dX12_countsPart_254 rfl (Nat.lt_of_lt_of_le (Nat.le_of_ble_eq_true rfl) hn) (by decide) ?_
            refine lv_bipush (v := iI 48) hx hb dX12_countsPart_257 (by decide) ?_
            refine lv_iload_n hx hb dX12_countsPart_259 rfl (lv_at hl 3 rfl) ?_
            refine gi_add hx hb dX12_countsPart_260 ?_
            obtain ⟨hg_50, hM⟩ := gd_some hM
            refine mi_ald S hG 81 84 rfl ec_84 (Nat.lt_of_lt_of_le (Nat.le_of_ble_eq_true rfl) hn) dX12_countsPart_261 hg_50 (by decide) ?_
            refine lv_iload_n hx hb dX12_countsPart_262 rfl (lv_at hl 4 rfl) ?_
            refine lv_iload hx hb dX12_countsPart_263 (lv_at hl 0 rfl) ?_
            obtain ⟨r_52, hc_51, hM⟩ := bd1_some hM
            refine g_vl (As := [.int (iI x_2), .int (iI (S_10 84 (48 + a1))), .int (iI a2), .int (iI v_9)]) (rest := []) S hG hsz (vX12_inMany l hn x_2 (S_10 84 (48 + a1)) a2 v_9 hc_51) wV_12_296 (ec_83 _) cpX12 (Nat.lt_of_lt_of_le (Nat.le_of_ble_eq_true rfl) hn) dX12_countsPart_265 rfl hl.1 (ar := 4) (by decide +kernel) rfl ⟨Nat.le_of_ble_eq_true rfl, Nat.le_of_ble_eq_true rfl, Nat.le_of_ble_eq_true rfl, Nat.le_of_ble_eq_true rfl⟩ (Nat.le_of_ble_eq_true rfl) (fun rv uu H locs hp hG => ?_)
            obtain ⟨rfl, rfl⟩ := hp
            replace hG : gW D cy b n s H locs (enc b cy X S_10) := hG
            refine lv_lstore (lv' := [(8, .long (jJ r_52)), (7, .int (iI v_9)), (5, .int (iI x_2)), (0, .ref (b + 80)), (1, .int (iI a1)), (2, .int (iI a2)), (3, .int (iI a3)), (4, .int (iI a4))]) hx hb dX12_countsPart_268 hl (by decide) rfl (fun ls hl => ?_)
            cases hM
            exact hK_21 H locs ls hG (lv_sub hl [1, 2, 3, 4, 5, 6, 7, 0] rfl)
          · replace hM := ifn hM (by omega)
            replace hM := ifn hM (by omega)
            replace hM := ifn hM (by omega)
            replace hM := ifn hM (by omega)
            replace hM := ifn hM (by omega)
            replace hM := ifn hM (by omega)
            replace hM := ifn hM (by omega)
            replace hM := ifp hM hs_26
            refine gi_tsI (off := 127) (tgt := 229) hx hb 7 dX12_countsPart_102 hg_3 (by omega) (by omega) (by rfl) (by decide) ?_
            refine lv_aload_n hx hb dX12_countsPart_229 rfl (lv_at hl 2 rfl) ?_
            refine lv_aload_n hx hb dX12_countsPart_230 rfl (lv_at hl 2 rfl) ?_
            refine m_get S hG 80 83 0 rfl ec_83 cpX12 wm_1673 dX12_countsPart_231 rfl (Nat.lt_of_lt_of_le (Nat.le_of_ble_eq_true rfl) hn) (by decide) ?_
            refine lv_bipush (v := iI 48) hx hb dX12_countsPart_234 (by decide) ?_
            refine lv_iload_n hx hb dX12_countsPart_236 rfl (lv_at hl 3 rfl) ?_
            refine gi_add hx hb dX12_countsPart_237 ?_
            obtain ⟨hg_53, hM⟩ := gd_some hM
            refine mi_ald S hG 81 84 rfl ec_84 (Nat.lt_of_lt_of_le (Nat.le_of_ble_eq_true rfl) hn) dX12_countsPart_238 hg_53 (by decide) ?_
            refine lv_iload_n hx hb dX12_countsPart_239 rfl (lv_at hl 4 rfl) ?_
            refine lv_iload hx hb dX12_countsPart_240 (lv_at hl 0 rfl) ?_
            obtain ⟨r_55, hc_54, hM⟩ := bd1_some hM
            refine g_vl (As := [.int (iI (S_10 84 (48 + a1))), .int (iI a2), .int (iI v_9)]) (rest := []) S hG hsz (vX12_exprMany l hn (S_10 84 (48 + a1)) a2 v_9 hc_54) wV_12_272 (ec_83 _) cpX12 (Nat.lt_of_lt_of_le (Nat.le_of_ble_eq_true rfl) hn) dX12_countsPart_242 rfl hl.1 (ar := 3) (by decide +kernel) rfl ⟨Nat.le_of_ble_eq_true rfl, Nat.le_of_ble_eq_true rfl, Nat.le_of_ble_eq_true rfl, Nat.le_of_ble_eq_true rfl⟩ (Nat.le_of_ble_eq_true rfl) (fun rv uu H locs hp hG => ?_)
            obtain ⟨rfl, rfl⟩ := hp
            replace hG : gW D cy b n s H locs (enc b cy X S_10) := hG
            refine lv_lstore (lv' := [(8, .long (jJ r_55)), (7, .int (iI v_9)), (5, .int (iI x_2)), (0, .ref (b + 80)), (1, .int (iI a1)), (2, .int (iI a2)), (3, .int (iI a3)), (4, .int (iI a4))]) hx hb dX12_countsPart_245 hl (by decide) rfl (fun ls hl => ?_)
            refine lv_goto (tgt := 270) hx hb dX12_countsPart_247 (by decide) ?_
            cases hM
            exact hK_21 H locs ls hG (lv_sub hl [1, 2, 3, 4, 5, 6, 7, 0] rfl)
          · replace hM := ifn hM (by omega)
            replace hM := ifn hM (by omega)
            replace hM := ifn hM (by omega)
            replace hM := ifn hM (by omega)
            replace hM := ifn hM (by omega)
            replace hM := ifn hM (by omega)
            replace hM := ifn hM (by omega)
            replace hM := ifn hM (by omega)
            refine gi_tsO (tgt := 250) hx hb dX12_countsPart_102 hg_3 hs_26 (by decide) ?_
            refine lv_aload_n hx hb dX12_countsPart_250 rfl (lv_at hl 2 rfl) ?_
            refine lv_iload hx hb dX12_countsPart_251 (lv_at hl 1 rfl) ?_
            refine lv_aload_n hx hb dX12_countsPart_253 rfl (lv_at hl 2 rfl) ?_
            refine m_get S hG 80 83 0 rfl ec_83 cpX12 wm_1673 dX12_countsPart_254 rfl (Nat.lt_of_lt_of_le (Nat.le_of_ble_eq_true rfl) hn) (by decide) ?_
            refine lv_bipush (v := iI 48) hx hb dX12_countsPart_257 (by decide) ?_
            refine lv_iload_n hx hb dX12_countsPart_259 rfl (lv_at hl 3 rfl) ?_
            refine gi_add hx hb dX12_countsPart_260 ?_
            obtain ⟨hg_56, hM⟩ := gd_some hM
            refine mi_ald S hG 81 84 rfl ec_84 (Nat.lt_of_lt_of_le (Nat.le_of_ble_eq_true rfl) hn) dX12_countsPart_261 hg_56 (by decide) ?_
            refine lv_iload_n hx hb dX12_countsPart_262 rfl (lv_at hl 4 rfl) ?_
            refine lv_iload hx hb dX12_countsPart_263 (lv_at hl 0 rfl) ?_
            obtain ⟨r_58, hc_57, hM⟩ := bd1_some hM
            refine g_vl (As := [.int (iI x_2), .int (iI (S_10 84 (48 + a1))), .int (iI a2), .int (iI v_9)]) (rest := []) S hG hsz (vX12_inMany l hn x_2 (S_10 84 (48 + a1)) a2 v_9 hc_57) wV_12_296 (ec_83 _) cpX12 (Nat.lt_of_lt_of_le (Nat.le_of_ble_eq_true rfl) hn) dX12_countsPart_265 rfl hl.1 (ar := 4) (by decide +kernel) rfl ⟨Nat.le_of_ble_eq_true rfl, Nat.le_of_ble_eq_true rfl, Nat.le_of_ble_eq_true rfl, Nat.le_of_ble_eq_true rfl⟩ (Nat.le_of_ble_eq_true rfl) (fun rv uu H locs hp hG => ?_)
            obtain ⟨rfl, rfl⟩ := hp
            replace hG : gW D cy b n s H locs (enc b cy X S_10) := hG
            refine lv_lstore (lv' := [(8, .long (jJ r_58)), (7, .int (iI v_9)), (5, .int (iI x_2)), (0, .ref (b + 80)), (1, .int (iI a1)), (2, .int (iI a2)), (3, .int (iI a3)), (4, .int (iI a4))]) hx hb dX12_countsPart_268 hl (by decide) rfl (fun ls hl => ?_)
            cases hM
            exact hK_21 H locs ls hG (lv_sub hl [1, 2, 3, 4, 5, 6, 7, 0] rfl)
    exact loop_14 FU 0 S_6 H locs ls hc_12 hG (lv_sub hl [0, 1, 2, 3, 4, 5, 6] rfl)
  clear hM
  replace hM := hc_7
  obtain ⟨t_59, hc_60, hM⟩ := bd1_some hM
  have hK_61 : ∀ (H : Heap) (locs : List Loc) (ls : Array Slot), t_59 = 0 → gW D cy b n s H locs (enc b cy X S0) → lv_has ls 10 [(5, .int (iI x_2)), (0, .ref (b + 80)), (1, .int (iI a1)), (2, .int (iI a2)), (3, .int (iI a3)), (4, .int (iI a4))] → W p l e (gRm 4 0 0) s m args below meth c H locs 0 0 (gQV D cy b s args below 0 0 (fun u => u = (n, enc b cy X o1))) (F0 m 42 ls []) := by
    intro H locs ls ht hG hl
    subst ht
    replace hM := ifp hM rfl
    refine lv_aload_n hx hb dX12_countsPart_42 rfl (lv_at hl 1 rfl) ?_
    refine lv_aload_n hx hb dX12_countsPart_43 rfl (lv_at hl 1 rfl) ?_
    refine m_get S hG 80 83 0 rfl ec_83 cpX12 wm_1673 dX12_countsPart_44 rfl (Nat.lt_of_lt_of_le (Nat.le_of_ble_eq_true rfl) hn) (by decide) ?_
    refine lv_bipush (v := iI 72) hx hb dX12_countsPart_47 (by decide) ?_
    refine lv_iload_n hx hb dX12_countsPart_49 rfl (lv_at hl 2 rfl) ?_
    refine gi_add hx hb dX12_countsPart_50 ?_
    obtain ⟨hg_62, hM⟩ := gd_some hM
    refine mi_ald S hG 81 84 rfl ec_84 (Nat.lt_of_lt_of_le (Nat.le_of_ble_eq_true rfl) hn) dX12_countsPart_51 hg_62 (by decide) ?_
    refine lv_iload_n hx hb dX12_countsPart_52 rfl (lv_at hl 3 rfl) ?_
    refine lv_iload_n hx hb dX12_countsPart_53 rfl (lv_at hl 4 rfl) ?_
    refine lv_iload hx hb dX12_countsPart_54 (lv_at hl 0 rfl) ?_
    refine lv_iconst (v := iI 5) hx hb dX12_countsPart_56 (by decide) ?_
    refine gi_icmp_ne (tgt := 64) hx hb dX12_countsPart_57 (by decide) hg_3 (by decide) (fun c_63 => ?_) (fun c_63 => ?_)
    · replace hM := ifn hM c_63
      refine lv_iconst (v := iI 0) hx hb dX12_countsPart_64 (by decide) ?_
      obtain ⟨S_65, hc_64, hM⟩ := bd1_some hM
      refine g_vv (As := [.int (iI (S0 84 (72 + a1))), .int (iI a2), .int (iI a3), .int (iI 0)]) (rest := []) S hG hsz (vX12_laysBags l hn (S0 84 (72 + a1)) a2 a3 0 hc_64) wV_12_289 (ec_83 _) cpX12 (Nat.lt_of_lt_of_le (Nat.le_of_ble_eq_true rfl) hn) dX12_countsPart_65 rfl hl.1 (ar := 4) (by decide +kernel) rfl ⟨Nat.le_of_ble_eq_true rfl, Nat.le_of_ble_eq_true rfl, Nat.le_of_ble_eq_true rfl, Nat.le_of_ble_eq_true rfl⟩ (Nat.le_of_ble_eq_true rfl) (fun uu H locs hp hG => ?_)
      obtain rfl := hp
      replace hG : gW D cy b n s H locs (enc b cy X S_65) := hG
      refine lv_goto (tgt := 91) hx hb dX12_countsPart_68 (by decide) ?_
      cases hM
      exact hK_8 H locs ls hG (lv_sub hl [0, 1, 2, 3, 4, 5] rfl)
    · replace hM := ifp hM c_63
      refine lv_iconst (v := iI 1) hx hb dX12_countsPart_60 (by decide) ?_
      refine lv_goto (tgt := 65) hx hb dX12_countsPart_61 (by decide) ?_
      obtain ⟨S_67, hc_66, hM⟩ := bd1_some hM
      refine g_vv (As := [.int (iI (S0 84 (72 + a1))), .int (iI a2), .int (iI a3), .int (iI 1)]) (rest := []) S hG hsz (vX12_laysBags l hn (S0 84 (72 + a1)) a2 a3 1 hc_66) wV_12_289 (ec_83 _) cpX12 (Nat.lt_of_lt_of_le (Nat.le_of_ble_eq_true rfl) hn) dX12_countsPart_65 rfl hl.1 (ar := 4) (by decide +kernel) rfl ⟨Nat.le_of_ble_eq_true rfl, Nat.le_of_ble_eq_true rfl, Nat.le_of_ble_eq_true rfl, Nat.le_of_ble_eq_true rfl⟩ (Nat.le_of_ble_eq_true rfl) (fun uu H locs hp hG => ?_)
      obtain rfl := hp
      replace hG : gW D cy b n s H locs (enc b cy X S_67) := hG
      refine lv_goto (tgt := 91) hx hb dX12_countsPart_68 (by decide) ?_
      cases hM
      exact hK_8 H locs ls hG (lv_sub hl [0, 1, 2, 3, 4, 5] rfl)
  have hK_68 : ∀ (H : Heap) (locs : List Loc) (ls : Array Slot), t_59 = 1 → gW D cy b n s H locs (enc b cy X S0) → lv_has ls 10 [(6, .int (iI r_5)), (5, .int (iI x_2)), (0, .ref (b + 80)), (1, .int (iI a1)), (2, .int (iI a2)), (3, .int (iI a3)), (4, .int (iI a4))] → W p l e (gRm 4 0 0) s m args below meth c H locs 0 0 (gQV D cy b s args below 0 0 (fun u => u = (n, enc b cy X o1))) (F0 m 71 ls []) := by
    intro H locs ls ht hG hl
    subst ht
    replace hM := ifn hM (by decide)
    refine lv_iload hx hb dX12_countsPart_71 (lv_at hl 0 rfl) ?_
    obtain ⟨hg_69, hM⟩ := gd_some hM
    refine gi_if_eq (tgt := 91) hx hb dX12_countsPart_73 (by decide) hg_69 (fun c_70 => ?_) (fun c_70 => ?_)
    · replace hM := ifp hM c_70
      cases hM
      exact hK_8 H locs ls hG (lv_sub hl [1, 2, 3, 4, 5, 6] rfl)
    · replace hM := ifn hM c_70
      refine lv_aload_n hx hb dX12_countsPart_76 rfl (lv_at hl 2 rfl) ?_
      refine lv_aload_n hx hb dX12_countsPart_77 rfl (lv_at hl 2 rfl) ?_
      refine m_get S hG 80 83 0 rfl ec_83 cpX12 wm_1673 dX12_countsPart_78 rfl (Nat.lt_of_lt_of_le (Nat.le_of_ble_eq_true rfl) hn) (by decide) ?_
      refine lv_bipush (v := iI 72) hx hb dX12_countsPart_81 (by decide) ?_
      refine lv_iload_n hx hb dX12_countsPart_83 rfl (lv_at hl 3 rfl) ?_
      refine gi_add hx hb dX12_countsPart_84 ?_
      obtain ⟨hg_71, hM⟩ := gd_some hM
      refine mi_ald S hG 81 84 rfl ec_84 (Nat.lt_of_lt_of_le (Nat.le_of_ble_eq_true rfl) hn) dX12_countsPart_85 hg_71 (by decide) ?_
      refine lv_iload_n hx hb dX12_countsPart_86 rfl (lv_at hl 4 rfl) ?_
      refine lv_iload_n hx hb dX12_countsPart_87 rfl (lv_at hl 5 rfl) ?_
      obtain ⟨S_73, hc_72, hM⟩ := bd1_some hM
      refine g_vv (As := [.int (iI (S0 84 (72 + a1))), .int (iI a2), .int (iI a3)]) (rest := []) S hG hsz (vX12_laysRows l hn (S0 84 (72 + a1)) a2 a3 hc_72) wV_12_293 (ec_83 _) cpX12 (Nat.lt_of_lt_of_le (Nat.le_of_ble_eq_true rfl) hn) dX12_countsPart_88 rfl hl.1 (ar := 3) (by decide +kernel) rfl ⟨Nat.le_of_ble_eq_true rfl, Nat.le_of_ble_eq_true rfl, Nat.le_of_ble_eq_true rfl, Nat.le_of_ble_eq_true rfl⟩ (Nat.le_of_ble_eq_true rfl) (fun uu H locs hp hG => ?_)
      obtain rfl := hp
      replace hG : gW D cy b n s H locs (enc b cy X S_73) := hG
      cases hM
      exact hK_8 H locs ls hG (lv_sub hl [1, 2, 3, 4, 5, 6] rfl)
  clear hM
  replace hM := hc_60
  obtain ⟨hg_74, hM⟩ := gd_some hM
  refine gi_if_eq (tgt := 71) hx hb dX12_countsPart_27 (by decide) hg_74 (fun c_75 => ?_) (fun c_75 => ?_)
  · replace hM := ifp hM c_75
    cases hM
    exact hK_68 H locs ls rfl hG (lv_sub hl [0, 1, 2, 3, 4, 5, 6] rfl)
  · replace hM := ifn hM c_75
    refine lv_iload hx hb dX12_countsPart_30 (lv_at hl 1 rfl) ?_
    refine lv_iconst (v := iI 4) hx hb dX12_countsPart_32 (by decide) ?_
    refine gi_icmp_eq (tgt := 42) hx hb dX12_countsPart_33 (by decide) hg_3 (by decide) (fun c_76 => ?_) (fun c_76 => ?_)
    · replace hM := ifp hM c_76
      cases hM
      exact hK_61 H locs ls rfl hG (lv_sub hl [1, 2, 3, 4, 5, 6] rfl)
    · replace hM := ifn hM c_76
      refine lv_iload hx hb dX12_countsPart_36 (lv_at hl 1 rfl) ?_
      refine lv_iconst (v := iI 5) hx hb dX12_countsPart_38 (by decide) ?_
      refine gi_icmp_ne (tgt := 71) hx hb dX12_countsPart_39 (by decide) hg_3 (by decide) (fun c_77 => ?_) (fun c_77 => ?_)
      · replace hM := ifn hM c_77
        cases hM
        exact hK_68 H locs ls rfl hG (lv_sub hl [0, 1, 2, 3, 4, 5, 6] rfl)
      · replace hM := ifp hM c_77
        cases hM
        exact hK_61 H locs ls rfl hG (lv_sub hl [1, 2, 3, 4, 5, 6] rfl)
theorem wV_12_265 : gWV "GrownKindsModel" 265 yX12_countsPart cX12_countsPart 10 none := ⟨wm_2026, wm_2028, wm_117, wm_188, wm_2029, by decide +kernel, by decide +kernel⟩
theorem wV_12_269 : gWV "GrownKindsModel" 269 yX12_countsRest cX12_countsRest 10 none := ⟨wm_2073, wm_2075, wm_124, wm_188, wm_2076, by decide +kernel, by decide +kernel⟩
def mX12_counts_132 (v_40 : Int) (z_31 : Int) (v_11 : Int) (a1 : Int) : Nat → Int → Int → St → Option (Int × St)
  | 0, _, _, _ => none
  | f + 1, v_52, v_53, S_54 => gd ((inI v_52) ∧ (inI z_31)) <| if z_31 < v_52 then (some (v_53, S_54)) else (bd1 (mX12_exprMany S_54 v_40 v_11 v_52) fun r_65 => bd1 (gd (inI v_53) <| if v_53 = 0 then (bd1 (mX12_place (24 + v_40) v_11 v_52) fun r_76 => gd (0 ≤ r_76 ∧ r_76 < 1920) <| gd ((inL r_65) ∧ (inL (S_54 90 r_76))) <| if r_65 = (S_54 90 r_76) then (some (0)) else (some (1))) else (some (1))) fun z_66 => bd1 (mX12_place (24 + v_40) v_11 v_52) fun r_70 => gd (0 ≤ r_70 ∧ r_70 < 1920) <| nx (up S_54 90 r_70 r_65) fun S_72 => mX12_counts_132 v_40 z_31 v_11 a1 f (v_52 + 1) z_66 S_72)
def mX12_counts_118 (z_31 : Int) (v_11 : Int) (a1 : Int) : Nat → Int → Int → St → Option (Int × St)
  | 0, _, _, _ => none
  | f + 1, v_40, v_41, S_42 => gd ((inI v_40) ∧ (inI (S_42 84 0))) <| if (S_42 84 0) ≤ v_40 then (some (v_41, S_42)) else (bd2 (mX12_counts_132 v_40 z_31 v_11 a1 FU 0 v_41 S_42) fun y_55 S_56 => mX12_counts_118 z_31 v_11 a1 f (v_40 + 1) y_55 S_56)
def mX12_counts_85 (z_31 : Int) (v_11 : Int) (a1 : Int) : Nat → Int → St → Option (St)
  | 0, _, _ => none
  | f + 1, v_35, S_36 => gd (inI v_35) <| if v_35 < 0 then (some (S_36)) else (bd1 (mX12_countsPart S_36 v_35 v_11 z_31 a1) fun S_86 => bd1 (mX12_countsRest S_86 v_35 v_11 z_31) fun S_88 => mX12_counts_85 z_31 v_11 a1 f (v_35 - 1) S_88)
def mX12_counts_58 (v_11 : Int) (a1 : Int) : Nat → Int → St → Option (St)
  | 0, _, _ => none
  | f + 1, v_21, S_22 => gd (inI v_21) <| if v_21 = 0 then (some (S_22)) else (bd1 (gd (inI a1) <| if 0 ≤ a1 then (some (v_11)) else (some (0))) fun z_31 => nx ((S_22 84 2) - 1) fun x_34 => bd1 (mX12_counts_85 z_31 v_11 a1 FU x_34 S_22) fun S_37 => bd2 (mX12_counts_118 z_31 v_11 a1 FU 0 0 S_37) fun y_43 S_44 => mX12_counts_58 v_11 a1 f y_43 S_44)
def mX12_counts_50 (a1 : Int) : Nat → Int → St → Option (St)
  | 0, _, _ => none
  | f + 1, v_11, S_12 => gd (inI v_11) <| if 8 ≤ v_11 then (some (S_12)) else (bd1 (mX12_counts_58 v_11 a1 FU 1 S_12) fun S_23 => mX12_counts_50 a1 f (v_11 + 1) S_23)
def mX12_counts_26 (a1 : Int) : Nat → Int → St → Option (St)
  | 0, _, _ => none
  | f + 1, v_6, S_7 => gd (inI v_6) <| if 1536 ≤ v_6 then (some (S_7)) else (gd (0 ≤ v_6 ∧ v_6 < 1536) <| nx (up S_7 91 v_6 0) fun S_97 => mX12_counts_26 a1 f (v_6 + 1) S_97)
def mX12_counts_2 (a1 : Int) : Nat → Int → St → Option (St)
  | 0, _, _ => none
  | f + 1, v_1, S_2 => gd (inI v_1) <| if 1920 ≤ v_1 then (some (S_2)) else (gd (0 ≤ v_1 ∧ v_1 < 1920) <| nx (up S_2 90 v_1 0) fun S_104 => mX12_counts_2 a1 f (v_1 + 1) S_104)
def mX12_counts (S0 : St) (a1 : Int) : Option (St) := bd1 (mX12_counts_2 a1 FU 0 S0) fun S_3 => bd1 (mX12_counts_26 a1 FU 0 S_3) fun S_8 => bd1 (mX12_counts_50 a1 FU 0 S_8) fun S_13 => some (S_13)
set_option maxHeartbeats 4000000 in
set_option maxRecDepth 100000 in
theorem vX12_counts (l : Launch) {D : va_G} {cy : Nat → ClassId} {b n : Nat} (hn : 102 ≤ n) {X : Nat → va_E} {S0 : St} (a1 : Int) {o1 : St} (hM : mX12_counts S0 a1 = some o1) : gV l yX12_counts cX12_counts 9 5 0 0 D cy b n (enc b cy X S0) [.ref (b + 80), .int (iI a1)] (fun u => u = (n, enc b cy X o1)) := by
  refine gV_of (by decide) (Nat.le_of_ble_eq_true rfl) ?_
  intro p e s m args below meth c S hr hlk hin hsz ls hl hG
  have hx := S.1
  have hb := S.2.1
  have hl : lv_has ls 9 [(0, .ref (b + 80)), (1, .int (iI a1))] := hl
  replace hG : gW D cy b n s s.heap [] (enc b cy X S0) := hG
  obtain ⟨H, eH⟩ : ∃ H, H = s.heap := ⟨_, rfl⟩
  obtain ⟨locs, elocs⟩ : ∃ locs : List Loc, locs = [] := ⟨_, rfl⟩
  rw [← eH, ← elocs] at hG
  rw [← eH, ← elocs]
  clear eH elocs
  unfold mX12_counts at hM
  refine lv_iconst (v := iI 0) hx hb dX12_counts_0 (by decide) ?_
  refine lv_istore_n (lv' := [(2, .int (iI 0)), (0, .ref (b + 80)), (1, .int (iI a1))]) hx hb dX12_counts_1 rfl hl (by decide) rfl (fun ls hl => ?_)
  obtain ⟨S_3, hc_4, hM⟩ := bd1_some hM
  have hK_5 : ∀ (H : Heap) (locs : List Loc) (ls : Array Slot), gW D cy b n s H locs (enc b cy X S_3) → lv_has ls 9 [(0, .ref (b + 80)), (1, .int (iI a1))] → W p l e (gRm 5 0 0) s m args below meth c H locs 0 0 (gQV D cy b s args below 0 0 (fun u => u = (n, enc b cy X o1))) (F0 m 24 ls []) := by
    intro H locs ls hG hl
    refine lv_iconst (v := iI 0) hx hb dX12_counts_24 (by decide) ?_
    refine lv_istore_n (lv' := [(2, .int (iI 0)), (0, .ref (b + 80)), (1, .int (iI a1))]) hx hb dX12_counts_25 rfl hl (by decide) rfl (fun ls hl => ?_)
    obtain ⟨S_8, hc_9, hM⟩ := bd1_some hM
    have hK_10 : ∀ (H : Heap) (locs : List Loc) (ls : Array Slot), gW D cy b n s H locs (enc b cy X S_8) → lv_has ls 9 [(0, .ref (b + 80)), (1, .int (iI a1))] → W p l e (gRm 5 0 0) s m args below meth c H locs 0 0 (gQV D cy b s args below 0 0 (fun u => u = (n, enc b cy X o1))) (F0 m 48 ls []) := by
      intro H locs ls hG hl
      refine lv_iconst (v := iI 0) hx hb dX12_counts_48 (by decide) ?_
      refine lv_istore_n (lv' := [(2, .int (iI 0)), (0, .ref (b + 80)), (1, .int (iI a1))]) hx hb dX12_counts_49 rfl hl (by decide) rfl (fun ls hl => ?_)
      obtain ⟨S_13, hc_14, hM⟩ := bd1_some hM
      have hK_15 : ∀ (H : Heap) (locs : List Loc) (ls : Array Slot), gW D cy b n s H locs (enc b cy X S_13) → lv_has ls 9 [] → W p l e (gRm 5 0 0) s m args below meth c H locs 0 0 (gQV D cy b s args below 0 0 (fun u => u = (n, enc b cy X o1))) (F0 m 221 ls []) := by
        intro H locs ls hG hl
        cases hM
        exact g_vret S hr hlk hG hsz dX12_counts_221 ⟨Nat.le_of_ble_eq_true rfl, Nat.le_of_ble_eq_true rfl⟩ rfl
      have loop_16 : ∀ (f : Nat) (v_11 : Int) (S_12 : St) (H : Heap) (locs : List Loc) (ls : Array Slot), mX12_counts_50 a1 f v_11 S_12 = some S_13 → gW D cy b n s H locs (enc b cy X S_12) → lv_has ls 9 [(2, .int (iI v_11)), (0, .ref (b + 80)), (1, .int (iI a1))] → W p l e (gRm 5 0 0) s m args below meth c H locs 0 0 (gQV D cy b s args below 0 0 (fun u => u = (n, enc b cy X o1))) (F0 m 50 ls []) := by
        clear hM
        intro f
        induction f with
        | zero => intro v_11 S_12 H locs ls hM; rw [mX12_counts_50] at hM; cases hM
        | succ f_18 ih_17 =>
          intro v_11 S_12 H locs ls hM hG hl
          rw [mX12_counts_50] at hM
          refine lv_iload_n hx hb dX12_counts_50 rfl (lv_at hl 0 rfl) ?_
          refine lv_bipush (v := iI 8) hx hb dX12_counts_51 (by decide) ?_
          obtain ⟨hg_19, hM⟩ := gd_some hM
          refine gi_icmp_ge (tgt := 221) hx hb dX12_counts_53 (by decide) hg_19 (by decide) (fun c_20 => ?_) (fun c_20 => ?_)
          · replace hM := ifp hM c_20
            cases hM
            exact hK_15 H locs ls hG (lv_sub hl [] rfl)
          · replace hM := ifn hM c_20
            refine lv_iconst (v := iI 1) hx hb dX12_counts_56 (by decide) ?_
            refine lv_istore_n (lv' := [(3, .int (iI 1)), (2, .int (iI v_11)), (0, .ref (b + 80)), (1, .int (iI a1))]) hx hb dX12_counts_57 rfl hl (by decide) rfl (fun ls hl => ?_)
            obtain ⟨S_23, hc_24, hM⟩ := bd1_some hM
            have hK_25 : ∀ (H : Heap) (locs : List Loc) (ls : Array Slot), gW D cy b n s H locs (enc b cy X S_23) → lv_has ls 9 [(2, .int (iI v_11)), (0, .ref (b + 80)), (1, .int (iI a1))] → W p l e (gRm 5 0 0) s m args below meth c H locs 0 0 (gQV D cy b s args below 0 0 (fun u => u = (n, enc b cy X o1))) (F0 m 215 ls []) := by
              intro H locs ls hG hl
              refine lv_iinc (v := iI (v_11 + 1)) (lv' := [(2, .int (iI (v_11 + 1))), (0, .ref (b + 80)), (1, .int (iI a1))]) hx hb dX12_counts_215 hl (k := 0) rfl ((iI_add v_11 (1)).trans (congrArg iI (by omega))) (by decide) rfl (fun ls hl => ?_)
              refine lv_goto (tgt := 50) hx hb dX12_counts_218 (by decide) ?_
              exact ih_17 (v_11 + 1) S_23 H locs ls hM hG (lv_sub hl [0, 1, 2] rfl)
            have loop_26 : ∀ (f : Nat) (v_21 : Int) (S_22 : St) (H : Heap) (locs : List Loc) (ls : Array Slot), mX12_counts_58 v_11 a1 f v_21 S_22 = some S_23 → gW D cy b n s H locs (enc b cy X S_22) → lv_has ls 9 [(3, .int (iI v_21)), (2, .int (iI v_11)), (0, .ref (b + 80)), (1, .int (iI a1))] → W p l e (gRm 5 0 0) s m args below meth c H locs 0 0 (gQV D cy b s args below 0 0 (fun u => u = (n, enc b cy X o1))) (F0 m 58 ls []) := by
              clear hM
              intro f
              induction f with
              | zero => intro v_21 S_22 H locs ls hM; rw [mX12_counts_58] at hM; cases hM
              | succ f_28 ih_27 =>
                intro v_21 S_22 H locs ls hM hG hl
                rw [mX12_counts_58] at hM
                refine lv_iload_n hx hb dX12_counts_58 rfl (lv_at hl 0 rfl) ?_
                obtain ⟨hg_29, hM⟩ := gd_some hM
                refine gi_if_eq (tgt := 215) hx hb dX12_counts_59 (by decide) hg_29 (fun c_30 => ?_) (fun c_30 => ?_)
                · replace hM := ifp hM c_30
                  cases hM
                  exact hK_25 H locs ls hG (lv_sub hl [1, 2, 3] rfl)
                · replace hM := ifn hM c_30
                  refine lv_iconst (v := iI 0) hx hb dX12_counts_62 (by decide) ?_
                  refine lv_istore_n (lv' := [(3, .int (iI 0)), (2, .int (iI v_11)), (0, .ref (b + 80)), (1, .int (iI a1))]) hx hb dX12_counts_63 rfl hl (by decide) rfl (fun ls hl => ?_)
                  refine lv_iload_n hx hb dX12_counts_64 rfl (lv_at hl 3 rfl) ?_
                  obtain ⟨z_31, hc_32, hM⟩ := bd1_some hM
                  have hK_33 : ∀ (H : Heap) (locs : List Loc) (ls : Array Slot), gW D cy b n s H locs (enc b cy X S_22) → lv_has ls 9 [(3, .int (iI 0)), (2, .int (iI v_11)), (0, .ref (b + 80)), (1, .int (iI a1))] → W p l e (gRm 5 0 0) s m args below meth c H locs 0 0 (gQV D cy b s args below 0 0 (fun u => u = (n, enc b cy X o1))) (F0 m 73 ls [.int (iI z_31)]) := by
                    intro H locs ls hG hl
                    refine lv_istore (lv' := [(4, .int (iI z_31)), (3, .int (iI 0)), (2, .int (iI v_11)), (0, .ref (b + 80)), (1, .int (iI a1))]) hx hb dX12_counts_73 hl (by decide) rfl (fun ls hl => ?_)
                    refine lv_aload_n hx hb dX12_counts_75 rfl (lv_at hl 3 rfl) ?_
                    refine m_get S hG 80 83 0 rfl ec_83 cpX12 wm_1673 dX12_counts_76 rfl (Nat.lt_of_lt_of_le (Nat.le_of_ble_eq_true rfl) hn) (by decide) ?_
                    refine lv_iconst (v := iI 2) hx hb dX12_counts_79 (by decide) ?_
                    refine mi_ald S hG 81 84 rfl ec_84 (Nat.lt_of_lt_of_le (Nat.le_of_ble_eq_true rfl) hn) dX12_counts_80 (by decide) (by decide) ?_
                    refine lv_iconst (v := iI 1) hx hb dX12_counts_81 (by decide) ?_
                    refine gi_sub hx hb dX12_counts_82 ?_
                    refine gi_nm (fun x_34 ex_34 => ?_)
                    replace hM := nx_at hM ex_34
                    clear ex_34
                    refine lv_istore (lv' := [(5, .int (iI x_34)), (4, .int (iI z_31)), (3, .int (iI 0)), (2, .int (iI v_11)), (0, .ref (b + 80)), (1, .int (iI a1))]) hx hb dX12_counts_83 hl (by decide) rfl (fun ls hl => ?_)
                    obtain ⟨S_37, hc_38, hM⟩ := bd1_some hM
                    have hK_39 : ∀ (H : Heap) (locs : List Loc) (ls : Array Slot), gW D cy b n s H locs (enc b cy X S_37) → lv_has ls 9 [(4, .int (iI z_31)), (3, .int (iI 0)), (2, .int (iI v_11)), (0, .ref (b + 80)), (1, .int (iI a1))] → W p l e (gRm 5 0 0) s m args below meth c H locs 0 0 (gQV D cy b s args below 0 0 (fun u => u = (n, enc b cy X o1))) (F0 m 115 ls []) := by
                      intro H locs ls hG hl
                      refine lv_iconst (v := iI 0) hx hb dX12_counts_115 (by decide) ?_
                      refine lv_istore (lv' := [(5, .int (iI 0)), (4, .int (iI z_31)), (3, .int (iI 0)), (2, .int (iI v_11)), (0, .ref (b + 80)), (1, .int (iI a1))]) hx hb dX12_counts_116 hl (by decide) rfl (fun ls hl => ?_)
                      obtain ⟨y_43, S_44, hc_45, hM⟩ := bd2_some hM
                      have hK_46 : ∀ (H : Heap) (locs : List Loc) (ls : Array Slot), gW D cy b n s H locs (enc b cy X S_44) → lv_has ls 9 [(2, .int (iI v_11)), (0, .ref (b + 80)), (1, .int (iI a1)), (3, .int (iI y_43))] → W p l e (gRm 5 0 0) s m args below meth c H locs 0 0 (gQV D cy b s args below 0 0 (fun u => u = (n, enc b cy X o1))) (F0 m 212 ls []) := by
                        intro H locs ls hG hl
                        refine lv_goto (tgt := 58) hx hb dX12_counts_212 (by decide) ?_
                        exact ih_27 y_43 S_44 H locs ls hM hG (lv_sub hl [3, 0, 1, 2] rfl)
                      have loop_47 : ∀ (f : Nat) (v_40 : Int) (v_41 : Int) (S_42 : St) (H : Heap) (locs : List Loc) (ls : Array Slot), mX12_counts_118 z_31 v_11 a1 f v_40 v_41 S_42 = some (y_43, S_44) → gW D cy b n s H locs (enc b cy X S_42) → lv_has ls 9 [(5, .int (iI v_40)), (4, .int (iI z_31)), (3, .int (iI v_41)), (2, .int (iI v_11)), (0, .ref (b + 80)), (1, .int (iI a1))] → W p l e (gRm 5 0 0) s m args below meth c H locs 0 0 (gQV D cy b s args below 0 0 (fun u => u = (n, enc b cy X o1))) (F0 m 118 ls []) := by
                        clear hM
                        intro f
                        induction f with
                        | zero => intro v_40 v_41 S_42 H locs ls hM; rw [mX12_counts_118] at hM; cases hM
                        | succ f_49 ih_48 =>
                          intro v_40 v_41 S_42 H locs ls hM hG hl
                          rw [mX12_counts_118] at hM
                          refine lv_iload hx hb dX12_counts_118 (lv_at hl 0 rfl) ?_
                          refine lv_aload_n hx hb dX12_counts_120 rfl (lv_at hl 4 rfl) ?_
                          refine m_get S hG 80 83 0 rfl ec_83 cpX12 wm_1673 dX12_counts_121 rfl (Nat.lt_of_lt_of_le (Nat.le_of_ble_eq_true rfl) hn) (by decide) ?_
                          refine lv_iconst (v := iI 0) hx hb dX12_counts_124 (by decide) ?_
                          refine mi_ald S hG 81 84 rfl ec_84 (Nat.lt_of_lt_of_le (Nat.le_of_ble_eq_true rfl) hn) dX12_counts_125 (by decide) (by decide) ?_
                          obtain ⟨hg_50, hM⟩ := gd_some hM
                          refine gi_icmp_ge (tgt := 212) hx hb dX12_counts_126 (by decide) hg_50.1 hg_50.2 (fun c_51 => ?_) (fun c_51 => ?_)
                          · replace hM := ifp hM c_51
                            cases hM
                            exact hK_46 H locs ls hG (lv_sub hl [3, 4, 5, 2] rfl)
                          · replace hM := ifn hM c_51
                            refine lv_iconst (v := iI 0) hx hb dX12_counts_129 (by decide) ?_
                            refine lv_istore (lv' := [(6, .int (iI 0)), (5, .int (iI v_40)), (4, .int (iI z_31)), (3, .int (iI v_41)), (2, .int (iI v_11)), (0, .ref (b + 80)), (1, .int (iI a1))]) hx hb dX12_counts_130 hl (by decide) rfl (fun ls hl => ?_)
                            obtain ⟨y_55, S_56, hc_57, hM⟩ := bd2_some hM
                            have hK_58 : ∀ (H : Heap) (locs : List Loc) (ls : Array Slot), gW D cy b n s H locs (enc b cy X S_56) → lv_has ls 9 [(5, .int (iI v_40)), (4, .int (iI z_31)), (2, .int (iI v_11)), (0, .ref (b + 80)), (1, .int (iI a1)), (3, .int (iI y_55))] → W p l e (gRm 5 0 0) s m args below meth c H locs 0 0 (gQV D cy b s args below 0 0 (fun u => u = (n, enc b cy X o1))) (F0 m 206 ls []) := by
                              intro H locs ls hG hl
                              refine lv_iinc (v := iI (v_40 + 1)) (lv' := [(5, .int (iI (v_40 + 1))), (4, .int (iI z_31)), (2, .int (iI v_11)), (0, .ref (b + 80)), (1, .int (iI a1)), (3, .int (iI y_55))]) hx hb dX12_counts_206 hl (k := 0) rfl ((iI_add v_40 (1)).trans (congrArg iI (by omega))) (by decide) rfl (fun ls hl => ?_)
                              refine lv_goto (tgt := 118) hx hb dX12_counts_209 (by decide) ?_
                              exact ih_48 (v_40 + 1) y_55 S_56 H locs ls hM hG (lv_sub hl [0, 1, 5, 2, 3, 4] rfl)
                            have loop_59 : ∀ (f : Nat) (v_52 : Int) (v_53 : Int) (S_54 : St) (H : Heap) (locs : List Loc) (ls : Array Slot), mX12_counts_132 v_40 z_31 v_11 a1 f v_52 v_53 S_54 = some (y_55, S_56) → gW D cy b n s H locs (enc b cy X S_54) → lv_has ls 9 [(6, .int (iI v_52)), (5, .int (iI v_40)), (4, .int (iI z_31)), (3, .int (iI v_53)), (2, .int (iI v_11)), (0, .ref (b + 80)), (1, .int (iI a1))] → W p l e (gRm 5 0 0) s m args below meth c H locs 0 0 (gQV D cy b s args below 0 0 (fun u => u = (n, enc b cy X o1))) (F0 m 132 ls []) := by
                              clear hM
                              intro f
                              induction f with
                              | zero => intro v_52 v_53 S_54 H locs ls hM; rw [mX12_counts_132] at hM; cases hM
                              | succ f_61 ih_60 =>
                                intro v_52 v_53 S_54 H locs ls hM hG hl
                                rw [mX12_counts_132] at hM
                                refine lv_iload hx hb dX12_counts_132 (lv_at hl 0 rfl) ?_
                                refine lv_iload hx hb dX12_counts_134 (lv_at hl 2 rfl) ?_
                                obtain ⟨hg_62, hM⟩ := gd_some hM
                                refine gi_icmp_gt (tgt := 206) hx hb dX12_counts_136 (by decide) hg_62.1 hg_62.2 (fun c_63 => ?_) (fun c_63 => ?_)
                                · replace hM := ifp hM c_63
                                  cases hM
                                  exact hK_58 H locs ls hG (lv_sub hl [1, 2, 4, 5, 6, 3] rfl)
                                · replace hM := ifn hM c_63
                                  refine lv_aload_n hx hb dX12_counts_139 rfl (lv_at hl 5 rfl) ?_
                                  refine lv_iload hx hb dX12_counts_140 (lv_at hl 1 rfl) ?_
                                  refine lv_iload_n hx hb dX12_counts_142 rfl (lv_at hl 4 rfl) ?_
                                  refine lv_iload hx hb dX12_counts_143 (lv_at hl 0 rfl) ?_
                                  obtain ⟨r_65, hc_64, hM⟩ := bd1_some hM
                                  refine g_vl (As := [.int (iI v_40), .int (iI v_11), .int (iI v_52)]) (rest := []) S hG hsz (vX12_exprMany l hn v_40 v_11 v_52 hc_64) wV_12_272 (ec_83 _) cpX12 (Nat.lt_of_lt_of_le (Nat.le_of_ble_eq_true rfl) hn) dX12_counts_145 rfl hl.1 (ar := 3) (by decide +kernel) rfl ⟨Nat.le_of_ble_eq_true rfl, Nat.le_of_ble_eq_true rfl, Nat.le_of_ble_eq_true rfl, Nat.le_of_ble_eq_true rfl⟩ (Nat.le_of_ble_eq_true rfl) (fun rv uu H locs hp hG => ?_)
                                  obtain ⟨rfl, rfl⟩ := hp
                                  replace hG : gW D cy b n s H locs (enc b cy X S_54) := hG
                                  refine lv_lstore (lv' := [(7, .long (jJ r_65)), (6, .int (iI v_52)), (5, .int (iI v_40)), (4, .int (iI z_31)), (3, .int (iI v_53)), (2, .int (iI v_11)), (0, .ref (b + 80)), (1, .int (iI a1))]) hx hb dX12_counts_148 hl (by decide) rfl (fun ls hl => ?_)
                                  refine lv_iload_n hx hb dX12_counts_150 rfl (lv_at hl 4 rfl) ?_
                                  obtain ⟨z_66, hc_67, hM⟩ := bd1_some hM
                                  have hK_68 : ∀ (H : Heap) (locs : List Loc) (ls : Array Slot), gW D cy b n s H locs (enc b cy X S_54) → lv_has ls 9 [(7, .long (jJ r_65)), (6, .int (iI v_52)), (5, .int (iI v_40)), (4, .int (iI z_31)), (2, .int (iI v_11)), (0, .ref (b + 80)), (1, .int (iI a1))] → W p l e (gRm 5 0 0) s m args below meth c H locs 0 0 (gQV D cy b s args below 0 0 (fun u => u = (n, enc b cy X o1))) (F0 m 181 ls [.int (iI z_66)]) := by
                                    intro H locs ls hG hl
                                    refine lv_istore_n (lv' := [(3, .int (iI z_66)), (7, .long (jJ r_65)), (6, .int (iI v_52)), (5, .int (iI v_40)), (4, .int (iI z_31)), (2, .int (iI v_11)), (0, .ref (b + 80)), (1, .int (iI a1))]) hx hb dX12_counts_181 rfl hl (by decide) rfl (fun ls hl => ?_)
                                    refine lv_aload_n hx hb dX12_counts_182 rfl (lv_at hl 6 rfl) ?_
                                    refine m_get S hG 80 83 14 rfl ec_83 cpX12 wm_1687 dX12_counts_183 rfl (Nat.lt_of_lt_of_le (Nat.le_of_ble_eq_true rfl) hn) (by decide) ?_
                                    refine lv_bipush (v := iI 24) hx hb dX12_counts_186 (by decide) ?_
                                    refine lv_iload hx hb dX12_counts_188 (lv_at hl 3 rfl) ?_
                                    refine gi_add hx hb dX12_counts_190 ?_
                                    refine lv_iload_n hx hb dX12_counts_191 rfl (lv_at hl 5 rfl) ?_
                                    refine lv_iload hx hb dX12_counts_192 (lv_at hl 2 rfl) ?_
                                    obtain ⟨r_70, hc_69, hM⟩ := bd1_some hM
                                    refine g_si (As := [.int (iI (24 + v_40)), .int (iI v_11), .int (iI v_52)]) (rest := [.ref (b + 87)]) S hG hsz (vX12_place l hn (24 + v_40) v_11 v_52 hc_69) wS_12_276 dX12_counts_194 rfl hl.1 (ar := 3) (by decide +kernel) rfl ⟨Nat.le_of_ble_eq_true rfl, Nat.le_of_ble_eq_true rfl, Nat.le_of_ble_eq_true rfl, Nat.le_of_ble_eq_true rfl⟩ (Nat.le_of_ble_eq_true rfl) (fun rv uu H locs hp hG => ?_)
                                    obtain ⟨rfl, rfl⟩ := hp
                                    replace hG : gW D cy b n s H locs (enc b cy X S_54) := hG
                                    refine lv_lload hx hb dX12_counts_197 (lv_at hl 1 rfl) ?_
                                    obtain ⟨hg_71, hM⟩ := gd_some hM
                                    refine mj_ast S hG 87 90 rfl ec_90 (Nat.lt_of_lt_of_le (Nat.le_of_ble_eq_true rfl) hn) dX12_counts_199 hg_71 (by decide) (fun H locs S_72 eS_72 hG => ?_)
                                    replace hM := nx_at hM eS_72
                                    clear eS_72
                                    refine lv_iinc (v := iI (v_52 + 1)) (lv' := [(6, .int (iI (v_52 + 1))), (3, .int (iI z_66)), (7, .long (jJ r_65)), (5, .int (iI v_40)), (4, .int (iI z_31)), (2, .int (iI v_11)), (0, .ref (b + 80)), (1, .int (iI a1))]) hx hb dX12_counts_200 hl (k := 2) rfl ((iI_add v_52 (1)).trans (congrArg iI (by omega))) (by decide) rfl (fun ls hl => ?_)
                                    refine lv_goto (tgt := 132) hx hb dX12_counts_203 (by decide) ?_
                                    exact ih_60 (v_52 + 1) z_66 S_72 H locs ls hM hG (lv_sub hl [0, 3, 4, 1, 5, 6, 7] rfl)
                                  clear hM
                                  replace hM := hc_67
                                  obtain ⟨hg_73, hM⟩ := gd_some hM
                                  refine gi_if_ne (tgt := 176) hx hb dX12_counts_151 (by decide) hg_73 (fun c_74 => ?_) (fun c_74 => ?_)
                                  · replace hM := ifn hM c_74
                                    refine lv_iconst (v := iI 1) hx hb dX12_counts_176 (by decide) ?_
                                    refine lv_goto (tgt := 181) hx hb dX12_counts_177 (by decide) ?_
                                    cases hM
                                    exact hK_68 H locs ls hG (lv_sub hl [0, 1, 2, 3, 5, 6, 7] rfl)
                                  · replace hM := ifp hM c_74
                                    refine lv_lload hx hb dX12_counts_154 (lv_at hl 0 rfl) ?_
                                    refine lv_aload_n hx hb dX12_counts_156 rfl (lv_at hl 6 rfl) ?_
                                    refine m_get S hG 80 83 14 rfl ec_83 cpX12 wm_1687 dX12_counts_157 rfl (Nat.lt_of_lt_of_le (Nat.le_of_ble_eq_true rfl) hn) (by decide) ?_
                                    refine lv_bipush (v := iI 24) hx hb dX12_counts_160 (by decide) ?_
                                    refine lv_iload hx hb dX12_counts_162 (lv_at hl 2 rfl) ?_
                                    refine gi_add hx hb dX12_counts_164 ?_
                                    refine lv_iload_n hx hb dX12_counts_165 rfl (lv_at hl 5 rfl) ?_
                                    refine lv_iload hx hb dX12_counts_166 (lv_at hl 1 rfl) ?_
                                    obtain ⟨r_76, hc_75, hM⟩ := bd1_some hM
                                    refine g_si (As := [.int (iI (24 + v_40)), .int (iI v_11), .int (iI v_52)]) (rest := [.ref (b + 87), .long (jJ r_65)]) S hG hsz (vX12_place l hn (24 + v_40) v_11 v_52 hc_75) wS_12_276 dX12_counts_168 rfl hl.1 (ar := 3) (by decide +kernel) rfl ⟨Nat.le_of_ble_eq_true rfl, Nat.le_of_ble_eq_true rfl, Nat.le_of_ble_eq_true rfl, Nat.le_of_ble_eq_true rfl⟩ (Nat.le_of_ble_eq_true rfl) (fun rv uu H locs hp hG => ?_)
                                    obtain ⟨rfl, rfl⟩ := hp
                                    replace hG : gW D cy b n s H locs (enc b cy X S_54) := hG
                                    obtain ⟨hg_77, hM⟩ := gd_some hM
                                    refine mj_ald S hG 87 90 rfl ec_90 (Nat.lt_of_lt_of_le (Nat.le_of_ble_eq_true rfl) hn) dX12_counts_171 hg_77 (by decide) ?_
                                    obtain ⟨hg_78, hM⟩ := gd_some hM
                                    refine gj_cmp_eq (tgt := 180) hx hb dX12_counts_172 dX12_counts_173 (by decide) hg_78.1 hg_78.2 (fun c_79 => ?_) (fun c_79 => ?_)
                                    · replace hM := ifp hM c_79
                                      refine lv_iconst (v := iI 0) hx hb dX12_counts_180 (by decide) ?_
                                      cases hM
                                      exact hK_68 H locs ls hG (lv_sub hl [0, 1, 2, 3, 5, 6, 7] rfl)
                                    · replace hM := ifn hM c_79
                                      refine lv_iconst (v := iI 1) hx hb dX12_counts_176 (by decide) ?_
                                      refine lv_goto (tgt := 181) hx hb dX12_counts_177 (by decide) ?_
                                      cases hM
                                      exact hK_68 H locs ls hG (lv_sub hl [0, 1, 2, 3, 5, 6, 7] rfl)
                            exact loop_59 FU 0 v_41 S_42 H locs ls hc_57 hG (lv_sub hl [0, 1, 2, 3, 4, 5, 6] rfl)
                      exact loop_47 FU 0 0 S_37 H locs ls hc_45 hG (lv_sub hl [0, 1, 2, 3, 4, 5] rfl)
                    have loop_80 : ∀ (f : Nat) (v_35 : Int) (S_36 : St) (H : Heap) (locs : List Loc) (ls : Array Slot), mX12_counts_85 z_31 v_11 a1 f v_35 S_36 = some S_37 → gW D cy b n s H locs (enc b cy X S_36) → lv_has ls 9 [(5, .int (iI v_35)), (4, .int (iI z_31)), (3, .int (iI 0)), (2, .int (iI v_11)), (0, .ref (b + 80)), (1, .int (iI a1))] → W p l e (gRm 5 0 0) s m args below meth c H locs 0 0 (gQV D cy b s args below 0 0 (fun u => u = (n, enc b cy X o1))) (F0 m 85 ls []) := by
                      clear hM
                      intro f
                      induction f with
                      | zero => intro v_35 S_36 H locs ls hM; rw [mX12_counts_85] at hM; cases hM
                      | succ f_82 ih_81 =>
                        intro v_35 S_36 H locs ls hM hG hl
                        rw [mX12_counts_85] at hM
                        refine lv_iload hx hb dX12_counts_85 (lv_at hl 0 rfl) ?_
                        obtain ⟨hg_83, hM⟩ := gd_some hM
                        refine gi_if_lt (tgt := 115) hx hb dX12_counts_87 (by decide) hg_83 (fun c_84 => ?_) (fun c_84 => ?_)
                        · replace hM := ifp hM c_84
                          cases hM
                          exact hK_39 H locs ls hG (lv_sub hl [1, 2, 3, 4, 5] rfl)
                        · replace hM := ifn hM c_84
                          refine lv_aload_n hx hb dX12_counts_90 rfl (lv_at hl 4 rfl) ?_
                          refine lv_iload hx hb dX12_counts_91 (lv_at hl 0 rfl) ?_
                          refine lv_iload_n hx hb dX12_counts_93 rfl (lv_at hl 3 rfl) ?_
                          refine lv_iload hx hb dX12_counts_94 (lv_at hl 1 rfl) ?_
                          refine lv_iload_n hx hb dX12_counts_96 rfl (lv_at hl 5 rfl) ?_
                          obtain ⟨S_86, hc_85, hM⟩ := bd1_some hM
                          refine g_vv (As := [.int (iI v_35), .int (iI v_11), .int (iI z_31), .int (iI a1)]) (rest := []) S hG hsz (vX12_countsPart l hn v_35 v_11 z_31 a1 hc_85) wV_12_265 (ec_83 _) cpX12 (Nat.lt_of_lt_of_le (Nat.le_of_ble_eq_true rfl) hn) dX12_counts_97 rfl hl.1 (ar := 4) (by decide +kernel) rfl ⟨Nat.le_of_ble_eq_true rfl, Nat.le_of_ble_eq_true rfl, Nat.le_of_ble_eq_true rfl, Nat.le_of_ble_eq_true rfl⟩ (Nat.le_of_ble_eq_true rfl) (fun uu H locs hp hG => ?_)
                          obtain rfl := hp
                          replace hG : gW D cy b n s H locs (enc b cy X S_86) := hG
                          refine lv_aload_n hx hb dX12_counts_100 rfl (lv_at hl 4 rfl) ?_
                          refine lv_iload hx hb dX12_counts_101 (lv_at hl 0 rfl) ?_
                          refine lv_iload_n hx hb dX12_counts_103 rfl (lv_at hl 3 rfl) ?_
                          refine lv_iload hx hb dX12_counts_104 (lv_at hl 1 rfl) ?_
                          obtain ⟨S_88, hc_87, hM⟩ := bd1_some hM
                          refine g_vv (As := [.int (iI v_35), .int (iI v_11), .int (iI z_31)]) (rest := []) S hG hsz (vX12_countsRest l hn v_35 v_11 z_31 hc_87) wV_12_269 (ec_83 _) cpX12 (Nat.lt_of_lt_of_le (Nat.le_of_ble_eq_true rfl) hn) dX12_counts_106 rfl hl.1 (ar := 3) (by decide +kernel) rfl ⟨Nat.le_of_ble_eq_true rfl, Nat.le_of_ble_eq_true rfl, Nat.le_of_ble_eq_true rfl, Nat.le_of_ble_eq_true rfl⟩ (Nat.le_of_ble_eq_true rfl) (fun uu H locs hp hG => ?_)
                          obtain rfl := hp
                          replace hG : gW D cy b n s H locs (enc b cy X S_88) := hG
                          refine lv_iinc (v := iI (v_35 - 1)) (lv' := [(5, .int (iI (v_35 - 1))), (4, .int (iI z_31)), (3, .int (iI 0)), (2, .int (iI v_11)), (0, .ref (b + 80)), (1, .int (iI a1))]) hx hb dX12_counts_109 hl (k := 0) rfl ((iI_add v_35 (-1)).trans (congrArg iI (by omega))) (by decide) rfl (fun ls hl => ?_)
                          refine lv_goto (tgt := 85) hx hb dX12_counts_112 (by decide) ?_
                          exact ih_81 (v_35 - 1) S_88 H locs ls hM hG (lv_sub hl [0, 1, 2, 3, 4, 5] rfl)
                    exact loop_80 FU x_34 S_22 H locs ls hc_38 hG (lv_sub hl [0, 1, 2, 3, 4, 5] rfl)
                  clear hM
                  replace hM := hc_32
                  obtain ⟨hg_89, hM⟩ := gd_some hM
                  refine gi_if_ge (tgt := 72) hx hb dX12_counts_65 (by decide) hg_89 (fun c_90 => ?_) (fun c_90 => ?_)
                  · replace hM := ifp hM c_90
                    refine lv_iload_n hx hb dX12_counts_72 rfl (lv_at hl 1 rfl) ?_
                    cases hM
                    exact hK_33 H locs ls hG (lv_sub hl [0, 1, 2, 3] rfl)
                  · replace hM := ifn hM c_90
                    refine lv_iconst (v := iI 0) hx hb dX12_counts_68 (by decide) ?_
                    refine lv_goto (tgt := 73) hx hb dX12_counts_69 (by decide) ?_
                    cases hM
                    exact hK_33 H locs ls hG (lv_sub hl [0, 1, 2, 3] rfl)
            exact loop_26 FU 1 S_12 H locs ls hc_24 hG (lv_sub hl [0, 1, 2, 3] rfl)
      exact loop_16 FU 0 S_8 H locs ls hc_14 hG (lv_sub hl [0, 1, 2] rfl)
    have loop_91 : ∀ (f : Nat) (v_6 : Int) (S_7 : St) (H : Heap) (locs : List Loc) (ls : Array Slot), mX12_counts_26 a1 f v_6 S_7 = some S_8 → gW D cy b n s H locs (enc b cy X S_7) → lv_has ls 9 [(2, .int (iI v_6)), (0, .ref (b + 80)), (1, .int (iI a1))] → W p l e (gRm 5 0 0) s m args below meth c H locs 0 0 (gQV D cy b s args below 0 0 (fun u => u = (n, enc b cy X o1))) (F0 m 26 ls []) := by
      clear hM
      intro f
      induction f with
      | zero => intro v_6 S_7 H locs ls hM; rw [mX12_counts_26] at hM; cases hM
      | succ f_93 ih_92 =>
        intro v_6 S_7 H locs ls hM hG hl
        rw [mX12_counts_26] at hM
        refine lv_iload_n hx hb dX12_counts_26 rfl (lv_at hl 0 rfl) ?_
        refine lv_aload_n hx hb dX12_counts_27 rfl (lv_at hl 1 rfl) ?_
        refine m_get S hG 80 83 15 rfl ec_83 cpX12 wm_1688 dX12_counts_28 rfl (Nat.lt_of_lt_of_le (Nat.le_of_ble_eq_true rfl) hn) (by decide) ?_
        refine m_alen S hG 88 2 ec_91 rfl (Nat.lt_of_lt_of_le (Nat.le_of_ble_eq_true rfl) hn) dX12_counts_31 (N := 1536) (show Int32.ofNat 1536 = iI 1536 by decide) ?_
        obtain ⟨hg_94, hM⟩ := gd_some hM
        refine gi_icmp_ge (tgt := 48) hx hb dX12_counts_32 (by decide) hg_94 (by decide) (fun c_95 => ?_) (fun c_95 => ?_)
        · replace hM := ifp hM c_95
          cases hM
          exact hK_10 H locs ls hG (lv_sub hl [1, 2] rfl)
        · replace hM := ifn hM c_95
          refine lv_aload_n hx hb dX12_counts_35 rfl (lv_at hl 1 rfl) ?_
          refine m_get S hG 80 83 15 rfl ec_83 cpX12 wm_1688 dX12_counts_36 rfl (Nat.lt_of_lt_of_le (Nat.le_of_ble_eq_true rfl) hn) (by decide) ?_
          refine lv_iload_n hx hb dX12_counts_39 rfl (lv_at hl 0 rfl) ?_
          refine lv_lconst (v := jJ 0) hx hb dX12_counts_40 (by decide) ?_
          obtain ⟨hg_96, hM⟩ := gd_some hM
          refine mj_ast S hG 88 91 rfl ec_91 (Nat.lt_of_lt_of_le (Nat.le_of_ble_eq_true rfl) hn) dX12_counts_41 hg_96 (by decide) (fun H locs S_97 eS_97 hG => ?_)
          replace hM := nx_at hM eS_97
          clear eS_97
          refine lv_iinc (v := iI (v_6 + 1)) (lv' := [(2, .int (iI (v_6 + 1))), (0, .ref (b + 80)), (1, .int (iI a1))]) hx hb dX12_counts_42 hl (k := 0) rfl ((iI_add v_6 (1)).trans (congrArg iI (by omega))) (by decide) rfl (fun ls hl => ?_)
          refine lv_goto (tgt := 26) hx hb dX12_counts_45 (by decide) ?_
          exact ih_92 (v_6 + 1) S_97 H locs ls hM hG (lv_sub hl [0, 1, 2] rfl)
    exact loop_91 FU 0 S_3 H locs ls hc_9 hG (lv_sub hl [0, 1, 2] rfl)
  have loop_98 : ∀ (f : Nat) (v_1 : Int) (S_2 : St) (H : Heap) (locs : List Loc) (ls : Array Slot), mX12_counts_2 a1 f v_1 S_2 = some S_3 → gW D cy b n s H locs (enc b cy X S_2) → lv_has ls 9 [(2, .int (iI v_1)), (0, .ref (b + 80)), (1, .int (iI a1))] → W p l e (gRm 5 0 0) s m args below meth c H locs 0 0 (gQV D cy b s args below 0 0 (fun u => u = (n, enc b cy X o1))) (F0 m 2 ls []) := by
    clear hM
    intro f
    induction f with
    | zero => intro v_1 S_2 H locs ls hM; rw [mX12_counts_2] at hM; cases hM
    | succ f_100 ih_99 =>
      intro v_1 S_2 H locs ls hM hG hl
      rw [mX12_counts_2] at hM
      refine lv_iload_n hx hb dX12_counts_2 rfl (lv_at hl 0 rfl) ?_
      refine lv_aload_n hx hb dX12_counts_3 rfl (lv_at hl 1 rfl) ?_
      refine m_get S hG 80 83 14 rfl ec_83 cpX12 wm_1687 dX12_counts_4 rfl (Nat.lt_of_lt_of_le (Nat.le_of_ble_eq_true rfl) hn) (by decide) ?_
      refine m_alen S hG 87 2 ec_90 rfl (Nat.lt_of_lt_of_le (Nat.le_of_ble_eq_true rfl) hn) dX12_counts_7 (N := 1920) (show Int32.ofNat 1920 = iI 1920 by decide) ?_
      obtain ⟨hg_101, hM⟩ := gd_some hM
      refine gi_icmp_ge (tgt := 24) hx hb dX12_counts_8 (by decide) hg_101 (by decide) (fun c_102 => ?_) (fun c_102 => ?_)
      · replace hM := ifp hM c_102
        cases hM
        exact hK_5 H locs ls hG (lv_sub hl [1, 2] rfl)
      · replace hM := ifn hM c_102
        refine lv_aload_n hx hb dX12_counts_11 rfl (lv_at hl 1 rfl) ?_
        refine m_get S hG 80 83 14 rfl ec_83 cpX12 wm_1687 dX12_counts_12 rfl (Nat.lt_of_lt_of_le (Nat.le_of_ble_eq_true rfl) hn) (by decide) ?_
        refine lv_iload_n hx hb dX12_counts_15 rfl (lv_at hl 0 rfl) ?_
        refine lv_lconst (v := jJ 0) hx hb dX12_counts_16 (by decide) ?_
        obtain ⟨hg_103, hM⟩ := gd_some hM
        refine mj_ast S hG 87 90 rfl ec_90 (Nat.lt_of_lt_of_le (Nat.le_of_ble_eq_true rfl) hn) dX12_counts_17 hg_103 (by decide) (fun H locs S_104 eS_104 hG => ?_)
        replace hM := nx_at hM eS_104
        clear eS_104
        refine lv_iinc (v := iI (v_1 + 1)) (lv' := [(2, .int (iI (v_1 + 1))), (0, .ref (b + 80)), (1, .int (iI a1))]) hx hb dX12_counts_18 hl (k := 0) rfl ((iI_add v_1 (1)).trans (congrArg iI (by omega))) (by decide) rfl (fun ls hl => ?_)
        refine lv_goto (tgt := 2) hx hb dX12_counts_21 (by decide) ?_
        exact ih_99 (v_1 + 1) S_104 H locs ls hM hG (lv_sub hl [0, 1, 2] rfl)
  exact loop_98 FU 0 S0 H locs ls hc_4 hG (lv_sub hl [0, 1, 2] rfl)
theorem wV_12_324 : gWV "GrownKindsModel" 324 yX12_counts cX12_counts 9 none := ⟨wm_2022, wm_2024, wm_116, wm_188, wm_2025, by decide +kernel, by decide +kernel⟩
theorem wV_12_327 : gWV "GrownKindsModel" 327 yX12_upTo cX12_upTo 7 (some .long) := ⟨wm_2077, wm_2079, wm_125, wm_188, wm_2080, by decide +kernel, by decide +kernel⟩
def mX12_blank_21 (S_4 : St)  : Nat → Int → Int → Option (Int)
  | 0, _, _ => none
  | f + 1, v_5, v_6 => gd ((inI v_5) ∧ (inI (S_4 84 0))) <| if (S_4 84 0) ≤ v_5 then (some (v_6)) else (bd1 (mX12_upTo S_4 v_5 0 (S_4 84 1)) fun r_16 => gd (inL r_16) <| if r_16 = 0 then (nx (orr v_6 (shl 1 v_5)) fun x_20 => mX12_blank_21 S_4 f (v_5 + 1) x_20) else (nx (orr v_6 0) fun x_19 => mX12_blank_21 S_4 f (v_5 + 1) x_19))
def mX12_blank (S0 : St)  : Option (Int × St) := gd (inI (S0 84 3)) <| if (S0 84 3) = 0 then (some ((-2), S0)) else (bd1 (mX12_counts S0 (-1)) fun S_4 => bd1 (mX12_blank_21 S_4 FU 0 0) fun y_7 => some (y_7, S_4))
set_option maxHeartbeats 4000000 in
set_option maxRecDepth 100000 in
theorem vX12_blank (l : Launch) {D : va_G} {cy : Nat → ClassId} {b n : Nat} (hn : 102 ≤ n) {X : Nat → va_E} {S0 : St}  {o1 : Int} {o2 : St} (hM : mX12_blank S0  = some (o1, o2)) : gI l yX12_blank cX12_blank 3 (some .int) 6 0 0 D cy b n (enc b cy X S0) [.ref (b + 80)] (fun r u => r = iI o1 ∧ u = (n, enc b cy X o2)) := by
  refine gI_of (by decide) (Nat.le_of_ble_eq_true rfl) ?_
  intro p e s m args below meth c S hr hlk hin hsz ls hl hG
  have hx := S.1
  have hb := S.2.1
  have hl : lv_has ls 3 [(0, .ref (b + 80))] := hl
  replace hG : gW D cy b n s s.heap [] (enc b cy X S0) := hG
  obtain ⟨H, eH⟩ : ∃ H, H = s.heap := ⟨_, rfl⟩
  obtain ⟨locs, elocs⟩ : ∃ locs : List Loc, locs = [] := ⟨_, rfl⟩
  rw [← eH, ← elocs] at hG
  rw [← eH, ← elocs]
  clear eH elocs
  unfold mX12_blank at hM
  refine lv_aload_n hx hb dX12_blank_0 rfl (lv_at hl 0 rfl) ?_
  refine m_get S hG 80 83 0 rfl ec_83 cpX12 wm_1673 dX12_blank_1 rfl (Nat.lt_of_lt_of_le (Nat.le_of_ble_eq_true rfl) hn) (by decide) ?_
  refine lv_iconst (v := iI 3) hx hb dX12_blank_4 (by decide) ?_
  refine mi_ald S hG 81 84 rfl ec_84 (Nat.lt_of_lt_of_le (Nat.le_of_ble_eq_true rfl) hn) dX12_blank_5 (by decide) (by decide) ?_
  obtain ⟨hg_1, hM⟩ := gd_some hM
  refine gi_if_ne (tgt := 12) hx hb dX12_blank_6 (by decide) hg_1 (fun c_2 => ?_) (fun c_2 => ?_)
  · replace hM := ifn hM c_2
    refine lv_aload_n hx hb dX12_blank_12 rfl (lv_at hl 0 rfl) ?_
    refine lv_iconst (v := iI (-1)) hx hb dX12_blank_13 (by decide) ?_
    obtain ⟨S_4, hc_3, hM⟩ := bd1_some hM
    refine g_vv (As := [.int (iI (-1))]) (rest := []) S hG hsz (vX12_counts l hn (-1) hc_3) wV_12_324 (ec_83 _) cpX12 (Nat.lt_of_lt_of_le (Nat.le_of_ble_eq_true rfl) hn) dX12_blank_14 rfl hl.1 (ar := 1) (by decide +kernel) rfl ⟨Nat.le_of_ble_eq_true rfl, Nat.le_of_ble_eq_true rfl, Nat.le_of_ble_eq_true rfl, Nat.le_of_ble_eq_true rfl⟩ (Nat.le_of_ble_eq_true rfl) (fun uu H locs hp hG => ?_)
    obtain rfl := hp
    replace hG : gW D cy b n s H locs (enc b cy X S_4) := hG
    refine lv_iconst (v := iI 0) hx hb dX12_blank_17 (by decide) ?_
    refine lv_istore_n (lv' := [(1, .int (iI 0)), (0, .ref (b + 80))]) hx hb dX12_blank_18 rfl hl (by decide) rfl (fun ls hl => ?_)
    refine lv_iconst (v := iI 0) hx hb dX12_blank_19 (by decide) ?_
    refine lv_istore_n (lv' := [(2, .int (iI 0)), (1, .int (iI 0)), (0, .ref (b + 80))]) hx hb dX12_blank_20 rfl hl (by decide) rfl (fun ls hl => ?_)
    obtain ⟨y_7, hc_8, hM⟩ := bd1_some hM
    have hK_9 : ∀ (H : Heap) (locs : List Loc) (ls : Array Slot), gW D cy b n s H locs (enc b cy X S_4) → lv_has ls 3 [(1, .int (iI y_7))] → W p l e (gRm 6 0 0) s m args below meth c H locs 0 0 (gQI D cy b s args below 0 0 (fun r u => r = iI o1 ∧ u = (n, enc b cy X o2))) (F0 m 64 ls []) := by
      intro H locs ls hG hl
      refine lv_iload_n hx hb dX12_blank_64 rfl (lv_at hl 0 rfl) ?_
      cases hM
      exact g_iret S hr hlk hG hsz dX12_blank_65 ⟨Nat.le_of_ble_eq_true rfl, Nat.le_of_ble_eq_true rfl⟩ ⟨rfl, rfl⟩
    have loop_10 : ∀ (f : Nat) (v_5 : Int) (v_6 : Int) (H : Heap) (locs : List Loc) (ls : Array Slot), mX12_blank_21 S_4 f v_5 v_6 = some y_7 → gW D cy b n s H locs (enc b cy X S_4) → lv_has ls 3 [(2, .int (iI v_5)), (1, .int (iI v_6)), (0, .ref (b + 80))] → W p l e (gRm 6 0 0) s m args below meth c H locs 0 0 (gQI D cy b s args below 0 0 (fun r u => r = iI o1 ∧ u = (n, enc b cy X o2))) (F0 m 21 ls []) := by
      clear hM
      intro f
      induction f with
      | zero => intro v_5 v_6 H locs ls hM; rw [mX12_blank_21] at hM; cases hM
      | succ f_12 ih_11 =>
        intro v_5 v_6 H locs ls hM hG hl
        rw [mX12_blank_21] at hM
        refine lv_iload_n hx hb dX12_blank_21 rfl (lv_at hl 0 rfl) ?_
        refine lv_aload_n hx hb dX12_blank_22 rfl (lv_at hl 2 rfl) ?_
        refine m_get S hG 80 83 0 rfl ec_83 cpX12 wm_1673 dX12_blank_23 rfl (Nat.lt_of_lt_of_le (Nat.le_of_ble_eq_true rfl) hn) (by decide) ?_
        refine lv_iconst (v := iI 0) hx hb dX12_blank_26 (by decide) ?_
        refine mi_ald S hG 81 84 rfl ec_84 (Nat.lt_of_lt_of_le (Nat.le_of_ble_eq_true rfl) hn) dX12_blank_27 (by decide) (by decide) ?_
        obtain ⟨hg_13, hM⟩ := gd_some hM
        refine gi_icmp_ge (tgt := 64) hx hb dX12_blank_28 (by decide) hg_13.1 hg_13.2 (fun c_14 => ?_) (fun c_14 => ?_)
        · replace hM := ifp hM c_14
          cases hM
          exact hK_9 H locs ls hG (lv_sub hl [1] rfl)
        · replace hM := ifn hM c_14
          refine lv_iload_n hx hb dX12_blank_31 rfl (lv_at hl 1 rfl) ?_
          refine lv_aload_n hx hb dX12_blank_32 rfl (lv_at hl 2 rfl) ?_
          refine lv_iload_n hx hb dX12_blank_33 rfl (lv_at hl 0 rfl) ?_
          refine lv_iconst (v := iI 0) hx hb dX12_blank_34 (by decide) ?_
          refine lv_aload_n hx hb dX12_blank_35 rfl (lv_at hl 2 rfl) ?_
          refine m_get S hG 80 83 0 rfl ec_83 cpX12 wm_1673 dX12_blank_36 rfl (Nat.lt_of_lt_of_le (Nat.le_of_ble_eq_true rfl) hn) (by decide) ?_
          refine lv_iconst (v := iI 1) hx hb dX12_blank_39 (by decide) ?_
          refine mi_ald S hG 81 84 rfl ec_84 (Nat.lt_of_lt_of_le (Nat.le_of_ble_eq_true rfl) hn) dX12_blank_40 (by decide) (by decide) ?_
          obtain ⟨r_16, hc_15, hM⟩ := bd1_some hM
          refine g_vl (As := [.int (iI v_5), .int (iI 0), .int (iI (S_4 84 1))]) (rest := [.int (iI v_6)]) S hG hsz (vX12_upTo l hn v_5 0 (S_4 84 1) hc_15) wV_12_327 (ec_83 _) cpX12 (Nat.lt_of_lt_of_le (Nat.le_of_ble_eq_true rfl) hn) dX12_blank_41 rfl hl.1 (ar := 3) (by decide +kernel) rfl ⟨Nat.le_of_ble_eq_true rfl, Nat.le_of_ble_eq_true rfl, Nat.le_of_ble_eq_true rfl, Nat.le_of_ble_eq_true rfl⟩ (Nat.le_of_ble_eq_true rfl) (fun rv uu H locs hp hG => ?_)
          obtain ⟨rfl, rfl⟩ := hp
          replace hG : gW D cy b n s H locs (enc b cy X S_4) := hG
          refine lv_lconst (v := jJ 0) hx hb dX12_blank_44 (by decide) ?_
          obtain ⟨hg_17, hM⟩ := gd_some hM
          refine gj_cmp_ne (tgt := 55) hx hb dX12_blank_45 dX12_blank_46 (by decide) hg_17 (by decide) (fun c_18 => ?_) (fun c_18 => ?_)
          · replace hM := ifn hM c_18
            refine lv_iconst (v := iI 0) hx hb dX12_blank_55 (by decide) ?_
            refine gi_or hx hb dX12_blank_56 ?_
            refine gi_nm (fun x_19 ex_19 => ?_)
            replace hM := nx_at hM ex_19
            clear ex_19
            refine lv_istore_n (lv' := [(1, .int (iI x_19)), (2, .int (iI v_5)), (0, .ref (b + 80))]) hx hb dX12_blank_57 rfl hl (by decide) rfl (fun ls hl => ?_)
            refine lv_iinc (v := iI (v_5 + 1)) (lv' := [(2, .int (iI (v_5 + 1))), (1, .int (iI x_19)), (0, .ref (b + 80))]) hx hb dX12_blank_58 hl (k := 1) rfl ((iI_add v_5 (1)).trans (congrArg iI (by omega))) (by decide) rfl (fun ls hl => ?_)
            refine lv_goto (tgt := 21) hx hb dX12_blank_61 (by decide) ?_
            exact ih_11 (v_5 + 1) x_19 H locs ls hM hG (lv_sub hl [0, 1, 2] rfl)
          · replace hM := ifp hM c_18
            refine lv_iconst (v := iI 1) hx hb dX12_blank_49 (by decide) ?_
            refine lv_iload_n hx hb dX12_blank_50 rfl (lv_at hl 0 rfl) ?_
            refine gi_shl hx hb dX12_blank_51 ?_
            refine lv_goto (tgt := 56) hx hb dX12_blank_52 (by decide) ?_
            refine gi_or hx hb dX12_blank_56 ?_
            refine gi_nm (fun x_20 ex_20 => ?_)
            replace hM := nx_at hM ex_20
            clear ex_20
            refine lv_istore_n (lv' := [(1, .int (iI x_20)), (2, .int (iI v_5)), (0, .ref (b + 80))]) hx hb dX12_blank_57 rfl hl (by decide) rfl (fun ls hl => ?_)
            refine lv_iinc (v := iI (v_5 + 1)) (lv' := [(2, .int (iI (v_5 + 1))), (1, .int (iI x_20)), (0, .ref (b + 80))]) hx hb dX12_blank_58 hl (k := 1) rfl ((iI_add v_5 (1)).trans (congrArg iI (by omega))) (by decide) rfl (fun ls hl => ?_)
            refine lv_goto (tgt := 21) hx hb dX12_blank_61 (by decide) ?_
            exact ih_11 (v_5 + 1) x_20 H locs ls hM hG (lv_sub hl [0, 1, 2] rfl)
    exact loop_10 FU 0 0 H locs ls hc_8 hG (lv_sub hl [0, 1, 2] rfl)
  · replace hM := ifp hM c_2
    refine lv_bipush (v := iI (-2)) hx hb dX12_blank_9 (by decide) ?_
    cases hM
    exact g_iret S hr hlk hG hsz dX12_blank_11 ⟨Nat.le_of_ble_eq_true rfl, Nat.le_of_ble_eq_true rfl⟩ ⟨rfl, rfl⟩
def mX12_things (S0 : St) (a1 : Int) (a2 : Int) : Option (Int × St) := bd1 (mX12_isKind S0 a1) fun r_2 => gd (inI r_2) <| if r_2 = 0 then (some ((-2), S0)) else (bd1 (mX12_isSize S0 a2) fun r_6 => gd (inI r_6) <| if r_6 = 0 then (some ((-2), S0)) else (bd1 (mX12_counts S0 (-1)) fun S_10 => bd1 (mX12_kindMany S_10 a1 a2) fun r_12 => some (r_12, S_10)))
set_option maxHeartbeats 4000000 in
set_option maxRecDepth 100000 in
theorem vX12_things (l : Launch) {D : va_G} {cy : Nat → ClassId} {b n : Nat} (hn : 102 ≤ n) {X : Nat → va_E} {S0 : St} (a1 : Int) (a2 : Int) {o1 : Int} {o2 : St} (hM : mX12_things S0 a1 a2 = some (o1, o2)) : gL l yX12_things cX12_things 3 6 0 0 D cy b n (enc b cy X S0) [.ref (b + 80), .int (iI a1), .int (iI a2)] (fun r u => r = jJ o1 ∧ u = (n, enc b cy X o2)) := by
  refine gL_of (by decide) (Nat.le_of_ble_eq_true rfl) ?_
  intro p e s m args below meth c S hr hlk hin hsz ls hl hG
  have hx := S.1
  have hb := S.2.1
  have hl : lv_has ls 3 [(0, .ref (b + 80)), (1, .int (iI a1)), (2, .int (iI a2))] := hl
  replace hG : gW D cy b n s s.heap [] (enc b cy X S0) := hG
  obtain ⟨H, eH⟩ : ∃ H, H = s.heap := ⟨_, rfl⟩
  obtain ⟨locs, elocs⟩ : ∃ locs : List Loc, locs = [] := ⟨_, rfl⟩
  rw [← eH, ← elocs] at hG
  rw [← eH, ← elocs]
  clear eH elocs
  unfold mX12_things at hM
  refine lv_aload_n hx hb dX12_things_0 rfl (lv_at hl 0 rfl) ?_
  refine lv_iload_n hx hb dX12_things_1 rfl (lv_at hl 1 rfl) ?_
  obtain ⟨r_2, hc_1, hM⟩ := bd1_some hM
  refine g_vi (As := [.int (iI a1)]) (rest := []) S hG hsz (vX12_isKind l hn a1 hc_1) wV_12_225 (ec_83 _) cpX12 (Nat.lt_of_lt_of_le (Nat.le_of_ble_eq_true rfl) hn) dX12_things_2 rfl hl.1 (ar := 1) (by decide +kernel) rfl ⟨Nat.le_of_ble_eq_true rfl, Nat.le_of_ble_eq_true rfl, Nat.le_of_ble_eq_true rfl, Nat.le_of_ble_eq_true rfl⟩ (Nat.le_of_ble_eq_true rfl) (fun rv uu H locs hp hG => ?_)
  obtain ⟨rfl, rfl⟩ := hp
  replace hG : gW D cy b n s H locs (enc b cy X S0) := hG
  obtain ⟨hg_3, hM⟩ := gd_some hM
  refine gi_if_eq (tgt := 16) hx hb dX12_things_5 (by decide) hg_3 (fun c_4 => ?_) (fun c_4 => ?_)
  · replace hM := ifp hM c_4
    refine lv_ldc2 (v := -2) hx hb S.2.2.2.1 (S.2.2.2.2 _ wm_2101) dX12_things_16 ?_
    refine gj_as (-2) (by decide) ?_
    cases hM
    exact g_lret S hr hlk hG hsz dX12_things_19 ⟨Nat.le_of_ble_eq_true rfl, Nat.le_of_ble_eq_true rfl⟩ ⟨rfl, rfl⟩
  · replace hM := ifn hM c_4
    refine lv_aload_n hx hb dX12_things_8 rfl (lv_at hl 0 rfl) ?_
    refine lv_iload_n hx hb dX12_things_9 rfl (lv_at hl 2 rfl) ?_
    obtain ⟨r_6, hc_5, hM⟩ := bd1_some hM
    refine g_vi (As := [.int (iI a2)]) (rest := []) S hG hsz (vX12_isSize l hn a2 hc_5) wV_12_334 (ec_83 _) cpX12 (Nat.lt_of_lt_of_le (Nat.le_of_ble_eq_true rfl) hn) dX12_things_10 rfl hl.1 (ar := 1) (by decide +kernel) rfl ⟨Nat.le_of_ble_eq_true rfl, Nat.le_of_ble_eq_true rfl, Nat.le_of_ble_eq_true rfl, Nat.le_of_ble_eq_true rfl⟩ (Nat.le_of_ble_eq_true rfl) (fun rv uu H locs hp hG => ?_)
    obtain ⟨rfl, rfl⟩ := hp
    replace hG : gW D cy b n s H locs (enc b cy X S0) := hG
    obtain ⟨hg_7, hM⟩ := gd_some hM
    refine gi_if_ne (tgt := 20) hx hb dX12_things_13 (by decide) hg_7 (fun c_8 => ?_) (fun c_8 => ?_)
    · replace hM := ifn hM c_8
      refine lv_aload_n hx hb dX12_things_20 rfl (lv_at hl 0 rfl) ?_
      refine lv_iconst (v := iI (-1)) hx hb dX12_things_21 (by decide) ?_
      obtain ⟨S_10, hc_9, hM⟩ := bd1_some hM
      refine g_vv (As := [.int (iI (-1))]) (rest := []) S hG hsz (vX12_counts l hn (-1) hc_9) wV_12_324 (ec_83 _) cpX12 (Nat.lt_of_lt_of_le (Nat.le_of_ble_eq_true rfl) hn) dX12_things_22 rfl hl.1 (ar := 1) (by decide +kernel) rfl ⟨Nat.le_of_ble_eq_true rfl, Nat.le_of_ble_eq_true rfl, Nat.le_of_ble_eq_true rfl, Nat.le_of_ble_eq_true rfl⟩ (Nat.le_of_ble_eq_true rfl) (fun uu H locs hp hG => ?_)
      obtain rfl := hp
      replace hG : gW D cy b n s H locs (enc b cy X S_10) := hG
      refine lv_aload_n hx hb dX12_things_25 rfl (lv_at hl 0 rfl) ?_
      refine lv_iload_n hx hb dX12_things_26 rfl (lv_at hl 1 rfl) ?_
      refine lv_iload_n hx hb dX12_things_27 rfl (lv_at hl 2 rfl) ?_
      obtain ⟨r_12, hc_11, hM⟩ := bd1_some hM
      refine g_vl (As := [.int (iI a1), .int (iI a2)]) (rest := []) S hG hsz (vX12_kindMany l hn a1 a2 hc_11) wV_12_320 (ec_83 _) cpX12 (Nat.lt_of_lt_of_le (Nat.le_of_ble_eq_true rfl) hn) dX12_things_28 rfl hl.1 (ar := 2) (by decide +kernel) rfl ⟨Nat.le_of_ble_eq_true rfl, Nat.le_of_ble_eq_true rfl, Nat.le_of_ble_eq_true rfl, Nat.le_of_ble_eq_true rfl⟩ (Nat.le_of_ble_eq_true rfl) (fun rv uu H locs hp hG => ?_)
      obtain ⟨rfl, rfl⟩ := hp
      replace hG : gW D cy b n s H locs (enc b cy X S_10) := hG
      cases hM
      exact g_lret S hr hlk hG hsz dX12_things_31 ⟨Nat.le_of_ble_eq_true rfl, Nat.le_of_ble_eq_true rfl⟩ ⟨rfl, rfl⟩
    · replace hM := ifp hM c_8
      refine lv_ldc2 (v := -2) hx hb S.2.2.2.1 (S.2.2.2.2 _ wm_2101) dX12_things_16 ?_
      refine gj_as (-2) (by decide) ?_
      cases hM
      exact g_lret S hr hlk hG hsz dX12_things_19 ⟨Nat.le_of_ble_eq_true rfl, Nat.le_of_ble_eq_true rfl⟩ ⟨rfl, rfl⟩
def mX12_upto (S0 : St) (a1 : Int) (a2 : Int) : Option (Int × St) := bd1 (mX12_isKind S0 a1) fun r_2 => gd (inI r_2) <| if r_2 = 0 then (some ((-2), S0)) else (bd1 (mX12_isSize S0 a2) fun r_6 => gd (inI r_6) <| if r_6 = 0 then (some ((-2), S0)) else (bd1 (mX12_counts S0 (-1)) fun S_10 => bd1 (mX12_upTo S_10 a1 0 a2) fun r_12 => some (r_12, S_10)))
set_option maxHeartbeats 4000000 in
set_option maxRecDepth 100000 in
theorem vX12_upto (l : Launch) {D : va_G} {cy : Nat → ClassId} {b n : Nat} (hn : 102 ≤ n) {X : Nat → va_E} {S0 : St} (a1 : Int) (a2 : Int) {o1 : Int} {o2 : St} (hM : mX12_upto S0 a1 a2 = some (o1, o2)) : gL l yX12_upto cX12_upto 3 6 0 0 D cy b n (enc b cy X S0) [.ref (b + 80), .int (iI a1), .int (iI a2)] (fun r u => r = jJ o1 ∧ u = (n, enc b cy X o2)) := by
  refine gL_of (by decide) (Nat.le_of_ble_eq_true rfl) ?_
  intro p e s m args below meth c S hr hlk hin hsz ls hl hG
  have hx := S.1
  have hb := S.2.1
  have hl : lv_has ls 3 [(0, .ref (b + 80)), (1, .int (iI a1)), (2, .int (iI a2))] := hl
  replace hG : gW D cy b n s s.heap [] (enc b cy X S0) := hG
  obtain ⟨H, eH⟩ : ∃ H, H = s.heap := ⟨_, rfl⟩
  obtain ⟨locs, elocs⟩ : ∃ locs : List Loc, locs = [] := ⟨_, rfl⟩
  rw [← eH, ← elocs] at hG
  rw [← eH, ← elocs]
  clear eH elocs
  unfold mX12_upto at hM
  refine lv_aload_n hx hb dX12_upto_0 rfl (lv_at hl 0 rfl) ?_
  refine lv_iload_n hx hb dX12_upto_1 rfl (lv_at hl 1 rfl) ?_
  obtain ⟨r_2, hc_1, hM⟩ := bd1_some hM
  refine g_vi (As := [.int (iI a1)]) (rest := []) S hG hsz (vX12_isKind l hn a1 hc_1) wV_12_225 (ec_83 _) cpX12 (Nat.lt_of_lt_of_le (Nat.le_of_ble_eq_true rfl) hn) dX12_upto_2 rfl hl.1 (ar := 1) (by decide +kernel) rfl ⟨Nat.le_of_ble_eq_true rfl, Nat.le_of_ble_eq_true rfl, Nat.le_of_ble_eq_true rfl, Nat.le_of_ble_eq_true rfl⟩ (Nat.le_of_ble_eq_true rfl) (fun rv uu H locs hp hG => ?_)
  obtain ⟨rfl, rfl⟩ := hp
  replace hG : gW D cy b n s H locs (enc b cy X S0) := hG
  obtain ⟨hg_3, hM⟩ := gd_some hM
  refine gi_if_eq (tgt := 16) hx hb dX12_upto_5 (by decide) hg_3 (fun c_4 => ?_) (fun c_4 => ?_)
  · replace hM := ifp hM c_4
    refine lv_ldc2 (v := -2) hx hb S.2.2.2.1 (S.2.2.2.2 _ wm_2101) dX12_upto_16 ?_
    refine gj_as (-2) (by decide) ?_
    cases hM
    exact g_lret S hr hlk hG hsz dX12_upto_19 ⟨Nat.le_of_ble_eq_true rfl, Nat.le_of_ble_eq_true rfl⟩ ⟨rfl, rfl⟩
  · replace hM := ifn hM c_4
    refine lv_aload_n hx hb dX12_upto_8 rfl (lv_at hl 0 rfl) ?_
    refine lv_iload_n hx hb dX12_upto_9 rfl (lv_at hl 2 rfl) ?_
    obtain ⟨r_6, hc_5, hM⟩ := bd1_some hM
    refine g_vi (As := [.int (iI a2)]) (rest := []) S hG hsz (vX12_isSize l hn a2 hc_5) wV_12_334 (ec_83 _) cpX12 (Nat.lt_of_lt_of_le (Nat.le_of_ble_eq_true rfl) hn) dX12_upto_10 rfl hl.1 (ar := 1) (by decide +kernel) rfl ⟨Nat.le_of_ble_eq_true rfl, Nat.le_of_ble_eq_true rfl, Nat.le_of_ble_eq_true rfl, Nat.le_of_ble_eq_true rfl⟩ (Nat.le_of_ble_eq_true rfl) (fun rv uu H locs hp hG => ?_)
    obtain ⟨rfl, rfl⟩ := hp
    replace hG : gW D cy b n s H locs (enc b cy X S0) := hG
    obtain ⟨hg_7, hM⟩ := gd_some hM
    refine gi_if_ne (tgt := 20) hx hb dX12_upto_13 (by decide) hg_7 (fun c_8 => ?_) (fun c_8 => ?_)
    · replace hM := ifn hM c_8
      refine lv_aload_n hx hb dX12_upto_20 rfl (lv_at hl 0 rfl) ?_
      refine lv_iconst (v := iI (-1)) hx hb dX12_upto_21 (by decide) ?_
      obtain ⟨S_10, hc_9, hM⟩ := bd1_some hM
      refine g_vv (As := [.int (iI (-1))]) (rest := []) S hG hsz (vX12_counts l hn (-1) hc_9) wV_12_324 (ec_83 _) cpX12 (Nat.lt_of_lt_of_le (Nat.le_of_ble_eq_true rfl) hn) dX12_upto_22 rfl hl.1 (ar := 1) (by decide +kernel) rfl ⟨Nat.le_of_ble_eq_true rfl, Nat.le_of_ble_eq_true rfl, Nat.le_of_ble_eq_true rfl, Nat.le_of_ble_eq_true rfl⟩ (Nat.le_of_ble_eq_true rfl) (fun uu H locs hp hG => ?_)
      obtain rfl := hp
      replace hG : gW D cy b n s H locs (enc b cy X S_10) := hG
      refine lv_aload_n hx hb dX12_upto_25 rfl (lv_at hl 0 rfl) ?_
      refine lv_iload_n hx hb dX12_upto_26 rfl (lv_at hl 1 rfl) ?_
      refine lv_iconst (v := iI 0) hx hb dX12_upto_27 (by decide) ?_
      refine lv_iload_n hx hb dX12_upto_28 rfl (lv_at hl 2 rfl) ?_
      obtain ⟨r_12, hc_11, hM⟩ := bd1_some hM
      refine g_vl (As := [.int (iI a1), .int (iI 0), .int (iI a2)]) (rest := []) S hG hsz (vX12_upTo l hn a1 0 a2 hc_11) wV_12_327 (ec_83 _) cpX12 (Nat.lt_of_lt_of_le (Nat.le_of_ble_eq_true rfl) hn) dX12_upto_29 rfl hl.1 (ar := 3) (by decide +kernel) rfl ⟨Nat.le_of_ble_eq_true rfl, Nat.le_of_ble_eq_true rfl, Nat.le_of_ble_eq_true rfl, Nat.le_of_ble_eq_true rfl⟩ (Nat.le_of_ble_eq_true rfl) (fun rv uu H locs hp hG => ?_)
      obtain ⟨rfl, rfl⟩ := hp
      replace hG : gW D cy b n s H locs (enc b cy X S_10) := hG
      cases hM
      exact g_lret S hr hlk hG hsz dX12_upto_32 ⟨Nat.le_of_ble_eq_true rfl, Nat.le_of_ble_eq_true rfl⟩ ⟨rfl, rfl⟩
    · replace hM := ifp hM c_8
      refine lv_ldc2 (v := -2) hx hb S.2.2.2.1 (S.2.2.2.2 _ wm_2101) dX12_upto_16 ?_
      refine gj_as (-2) (by decide) ?_
      cases hM
      exact g_lret S hr hlk hG hsz dX12_upto_19 ⟨Nat.le_of_ble_eq_true rfl, Nat.le_of_ble_eq_true rfl⟩ ⟨rfl, rfl⟩
def mX12_first_30 (S_10 : St) (a1 : Int) (a2 : Int) : Nat → Int → Option (Int × Int)
  | 0, _ => none
  | f + 1, v_11 => gd ((inI v_11) ∧ (inI (S_10 84 1))) <| if (S_10 84 1) < v_11 then (some (1, v_11)) else (bd1 (mX12_kindMany S_10 a1 v_11) fun r_23 => gd ((inL r_23) ∧ (inL a2)) <| if r_23 < a2 then (mX12_first_30 S_10 a1 a2 f (v_11 + 1)) else (some (0, v_11)))
def mX12_first (S0 : St) (a1 : Int) (a2 : Int) : Option (Int × St) := bd1 (mX12_isKind S0 a1) fun r_2 => gd (inI r_2) <| if r_2 = 0 then (some ((-2), S0)) else (bd1 (mX12_in a2 1 1000000000000) fun r_6 => gd (inI r_6) <| if r_6 = 0 then (some ((-2), S0)) else (bd1 (mX12_counts S0 (-1)) fun S_10 => bd2 (mX12_first_30 S_10 a1 a2 FU 0) fun t_12 y_13 => if t_12 = 0 then (some (y_13, S_10)) else (some ((-1), S_10))))
set_option maxHeartbeats 4000000 in
set_option maxRecDepth 100000 in
theorem vX12_first (l : Launch) {D : va_G} {cy : Nat → ClassId} {b n : Nat} (hn : 102 ≤ n) {X : Nat → va_E} {S0 : St} (a1 : Int) (a2 : Int) {o1 : Int} {o2 : St} (hM : mX12_first S0 a1 a2 = some (o1, o2)) : gI l yX12_first cX12_first 5 (some .int) 6 0 0 D cy b n (enc b cy X S0) [.ref (b + 80), .int (iI a1), .long (jJ a2)] (fun r u => r = iI o1 ∧ u = (n, enc b cy X o2)) := by
  refine gI_of (by decide) (Nat.le_of_ble_eq_true rfl) ?_
  intro p e s m args below meth c S hr hlk hin hsz ls hl hG
  have hx := S.1
  have hb := S.2.1
  have hl : lv_has ls 5 [(0, .ref (b + 80)), (1, .int (iI a1)), (2, .long (jJ a2))] := hl
  replace hG : gW D cy b n s s.heap [] (enc b cy X S0) := hG
  obtain ⟨H, eH⟩ : ∃ H, H = s.heap := ⟨_, rfl⟩
  obtain ⟨locs, elocs⟩ : ∃ locs : List Loc, locs = [] := ⟨_, rfl⟩
  rw [← eH, ← elocs] at hG
  rw [← eH, ← elocs]
  clear eH elocs
  unfold mX12_first at hM
  refine lv_aload_n hx hb dX12_first_0 rfl (lv_at hl 0 rfl) ?_
  refine lv_iload_n hx hb dX12_first_1 rfl (lv_at hl 1 rfl) ?_
  obtain ⟨r_2, hc_1, hM⟩ := bd1_some hM
  refine g_vi (As := [.int (iI a1)]) (rest := []) S hG hsz (vX12_isKind l hn a1 hc_1) wV_12_225 (ec_83 _) cpX12 (Nat.lt_of_lt_of_le (Nat.le_of_ble_eq_true rfl) hn) dX12_first_2 rfl hl.1 (ar := 1) (by decide +kernel) rfl ⟨Nat.le_of_ble_eq_true rfl, Nat.le_of_ble_eq_true rfl, Nat.le_of_ble_eq_true rfl, Nat.le_of_ble_eq_true rfl⟩ (Nat.le_of_ble_eq_true rfl) (fun rv uu H locs hp hG => ?_)
  obtain ⟨rfl, rfl⟩ := hp
  replace hG : gW D cy b n s H locs (enc b cy X S0) := hG
  obtain ⟨hg_3, hM⟩ := gd_some hM
  refine gi_if_eq (tgt := 19) hx hb dX12_first_5 (by decide) hg_3 (fun c_4 => ?_) (fun c_4 => ?_)
  · replace hM := ifp hM c_4
    refine lv_bipush (v := iI (-2)) hx hb dX12_first_19 (by decide) ?_
    cases hM
    exact g_iret S hr hlk hG hsz dX12_first_21 ⟨Nat.le_of_ble_eq_true rfl, Nat.le_of_ble_eq_true rfl⟩ ⟨rfl, rfl⟩
  · replace hM := ifn hM c_4
    refine lv_lload_n hx hb dX12_first_8 rfl (lv_at hl 2 rfl) ?_
    refine lv_lconst (v := jJ 1) hx hb dX12_first_9 (by decide) ?_
    refine lv_ldc2 (v := 1000000000000) hx hb S.2.2.2.1 (S.2.2.2.2 _ wm_2044) dX12_first_10 ?_
    refine gj_as 1000000000000 (by decide) ?_
    obtain ⟨r_6, hc_5, hM⟩ := bd1_some hM
    refine g_si (As := [.long (jJ a2), .long (jJ 1), .long (jJ 1000000000000)]) (rest := []) S hG hsz (vX12_in l hn a2 1 1000000000000 hc_5) wS_12_97 dX12_first_13 rfl hl.1 (ar := 3) (by decide +kernel) rfl ⟨Nat.le_of_ble_eq_true rfl, Nat.le_of_ble_eq_true rfl, Nat.le_of_ble_eq_true rfl, Nat.le_of_ble_eq_true rfl⟩ (Nat.le_of_ble_eq_true rfl) (fun rv uu H locs hp hG => ?_)
    obtain ⟨rfl, rfl⟩ := hp
    replace hG : gW D cy b n s H locs (enc b cy X S0) := hG
    obtain ⟨hg_7, hM⟩ := gd_some hM
    refine gi_if_ne (tgt := 22) hx hb dX12_first_16 (by decide) hg_7 (fun c_8 => ?_) (fun c_8 => ?_)
    · replace hM := ifn hM c_8
      refine lv_aload_n hx hb dX12_first_22 rfl (lv_at hl 0 rfl) ?_
      refine lv_iconst (v := iI (-1)) hx hb dX12_first_23 (by decide) ?_
      obtain ⟨S_10, hc_9, hM⟩ := bd1_some hM
      refine g_vv (As := [.int (iI (-1))]) (rest := []) S hG hsz (vX12_counts l hn (-1) hc_9) wV_12_324 (ec_83 _) cpX12 (Nat.lt_of_lt_of_le (Nat.le_of_ble_eq_true rfl) hn) dX12_first_24 rfl hl.1 (ar := 1) (by decide +kernel) rfl ⟨Nat.le_of_ble_eq_true rfl, Nat.le_of_ble_eq_true rfl, Nat.le_of_ble_eq_true rfl, Nat.le_of_ble_eq_true rfl⟩ (Nat.le_of_ble_eq_true rfl) (fun uu H locs hp hG => ?_)
      obtain rfl := hp
      replace hG : gW D cy b n s H locs (enc b cy X S_10) := hG
      refine lv_iconst (v := iI 0) hx hb dX12_first_27 (by decide) ?_
      refine lv_istore (lv' := [(4, .int (iI 0)), (0, .ref (b + 80)), (1, .int (iI a1)), (2, .long (jJ a2))]) hx hb dX12_first_28 hl (by decide) rfl (fun ls hl => ?_)
      obtain ⟨t_12, y_13, hc_14, hM⟩ := bd2_some hM
      have hK_15 : ∀ (H : Heap) (locs : List Loc) (ls : Array Slot), t_12 = 0 → gW D cy b n s H locs (enc b cy X S_10) → lv_has ls 5 [(4, .int (iI y_13))] → W p l e (gRm 6 0 0) s m args below meth c H locs 0 0 (gQI D cy b s args below 0 0 (fun r u => r = iI o1 ∧ u = (n, enc b cy X o2))) (F0 m 53 ls []) := by
        intro H locs ls ht hG hl
        subst ht
        replace hM := ifp hM rfl
        refine lv_iload hx hb dX12_first_53 (lv_at hl 0 rfl) ?_
        cases hM
        exact g_iret S hr hlk hG hsz dX12_first_55 ⟨Nat.le_of_ble_eq_true rfl, Nat.le_of_ble_eq_true rfl⟩ ⟨rfl, rfl⟩
      have hK_16 : ∀ (H : Heap) (locs : List Loc) (ls : Array Slot), t_12 = 1 → gW D cy b n s H locs (enc b cy X S_10) → lv_has ls 5 [] → W p l e (gRm 6 0 0) s m args below meth c H locs 0 0 (gQI D cy b s args below 0 0 (fun r u => r = iI o1 ∧ u = (n, enc b cy X o2))) (F0 m 62 ls []) := by
        intro H locs ls ht hG hl
        subst ht
        replace hM := ifn hM (by decide)
        refine lv_iconst (v := iI (-1)) hx hb dX12_first_62 (by decide) ?_
        cases hM
        exact g_iret S hr hlk hG hsz dX12_first_63 ⟨Nat.le_of_ble_eq_true rfl, Nat.le_of_ble_eq_true rfl⟩ ⟨rfl, rfl⟩
      have loop_17 : ∀ (f : Nat) (v_11 : Int) (H : Heap) (locs : List Loc) (ls : Array Slot), mX12_first_30 S_10 a1 a2 f v_11 = some (t_12, y_13) → gW D cy b n s H locs (enc b cy X S_10) → lv_has ls 5 [(4, .int (iI v_11)), (0, .ref (b + 80)), (1, .int (iI a1)), (2, .long (jJ a2))] → W p l e (gRm 6 0 0) s m args below meth c H locs 0 0 (gQI D cy b s args below 0 0 (fun r u => r = iI o1 ∧ u = (n, enc b cy X o2))) (F0 m 30 ls []) := by
        clear hM
        intro f
        induction f with
        | zero => intro v_11 H locs ls hM; rw [mX12_first_30] at hM; cases hM
        | succ f_19 ih_18 =>
          intro v_11 H locs ls hM hG hl
          rw [mX12_first_30] at hM
          refine lv_iload hx hb dX12_first_30 (lv_at hl 0 rfl) ?_
          refine lv_aload_n hx hb dX12_first_32 rfl (lv_at hl 1 rfl) ?_
          refine m_get S hG 80 83 0 rfl ec_83 cpX12 wm_1673 dX12_first_33 rfl (Nat.lt_of_lt_of_le (Nat.le_of_ble_eq_true rfl) hn) (by decide) ?_
          refine lv_iconst (v := iI 1) hx hb dX12_first_36 (by decide) ?_
          refine mi_ald S hG 81 84 rfl ec_84 (Nat.lt_of_lt_of_le (Nat.le_of_ble_eq_true rfl) hn) dX12_first_37 (by decide) (by decide) ?_
          obtain ⟨hg_20, hM⟩ := gd_some hM
          refine gi_icmp_gt (tgt := 62) hx hb dX12_first_38 (by decide) hg_20.1 hg_20.2 (fun c_21 => ?_) (fun c_21 => ?_)
          · replace hM := ifp hM c_21
            cases hM
            exact hK_16 H locs ls rfl hG (lv_sub hl [] rfl)
          · replace hM := ifn hM c_21
            refine lv_aload_n hx hb dX12_first_41 rfl (lv_at hl 1 rfl) ?_
            refine lv_iload_n hx hb dX12_first_42 rfl (lv_at hl 2 rfl) ?_
            refine lv_iload hx hb dX12_first_43 (lv_at hl 0 rfl) ?_
            obtain ⟨r_23, hc_22, hM⟩ := bd1_some hM
            refine g_vl (As := [.int (iI a1), .int (iI v_11)]) (rest := []) S hG hsz (vX12_kindMany l hn a1 v_11 hc_22) wV_12_320 (ec_83 _) cpX12 (Nat.lt_of_lt_of_le (Nat.le_of_ble_eq_true rfl) hn) dX12_first_45 rfl hl.1 (ar := 2) (by decide +kernel) rfl ⟨Nat.le_of_ble_eq_true rfl, Nat.le_of_ble_eq_true rfl, Nat.le_of_ble_eq_true rfl, Nat.le_of_ble_eq_true rfl⟩ (Nat.le_of_ble_eq_true rfl) (fun rv uu H locs hp hG => ?_)
            obtain ⟨rfl, rfl⟩ := hp
            replace hG : gW D cy b n s H locs (enc b cy X S_10) := hG
            refine lv_lload_n hx hb dX12_first_48 rfl (lv_at hl 3 rfl) ?_
            obtain ⟨hg_24, hM⟩ := gd_some hM
            refine gj_cmp_lt (tgt := 56) hx hb dX12_first_49 dX12_first_50 (by decide) hg_24.1 hg_24.2 (fun c_25 => ?_) (fun c_25 => ?_)
            · replace hM := ifp hM c_25
              refine lv_iinc (v := iI (v_11 + 1)) (lv' := [(4, .int (iI (v_11 + 1))), (0, .ref (b + 80)), (1, .int (iI a1)), (2, .long (jJ a2))]) hx hb dX12_first_56 hl (k := 0) rfl ((iI_add v_11 (1)).trans (congrArg iI (by omega))) (by decide) rfl (fun ls hl => ?_)
              refine lv_goto (tgt := 30) hx hb dX12_first_59 (by decide) ?_
              exact ih_18 (v_11 + 1) H locs ls hM hG (lv_sub hl [0, 1, 2, 3] rfl)
            · replace hM := ifn hM c_25
              cases hM
              exact hK_15 H locs ls rfl hG (lv_sub hl [0] rfl)
      exact loop_17 FU 0 H locs ls hc_14 hG (lv_sub hl [0, 1, 2, 3] rfl)
    · replace hM := ifp hM c_8
      refine lv_bipush (v := iI (-2)) hx hb dX12_first_19 (by decide) ?_
      cases hM
      exact g_iret S hr hlk hG hsz dX12_first_21 ⟨Nat.le_of_ble_eq_true rfl, Nat.le_of_ble_eq_true rfl⟩ ⟨rfl, rfl⟩
theorem wV_12_330 : gWV "GrownKindsModel" 330 yX12_first cX12_first 5 (some .int) := ⟨wm_2089, wm_2090, wm_2091, wm_188, wm_2092, by decide +kernel, by decide +kernel⟩
def mX12_least (S0 : St) (a1 : Int) : Option (Int × St) := bd2 (mX12_first S0 a1 1) fun r_2 S_3 => some (r_2, S_3)
set_option maxHeartbeats 4000000 in
set_option maxRecDepth 100000 in
theorem vX12_least (l : Launch) {D : va_G} {cy : Nat → ClassId} {b n : Nat} (hn : 102 ≤ n) {X : Nat → va_E} {S0 : St} (a1 : Int) {o1 : Int} {o2 : St} (hM : mX12_least S0 a1 = some (o1, o2)) : gI l yX12_least cX12_least 2 (some .int) 7 0 0 D cy b n (enc b cy X S0) [.ref (b + 80), .int (iI a1)] (fun r u => r = iI o1 ∧ u = (n, enc b cy X o2)) := by
  refine gI_of (by decide) (Nat.le_of_ble_eq_true rfl) ?_
  intro p e s m args below meth c S hr hlk hin hsz ls hl hG
  have hx := S.1
  have hb := S.2.1
  have hl : lv_has ls 2 [(0, .ref (b + 80)), (1, .int (iI a1))] := hl
  replace hG : gW D cy b n s s.heap [] (enc b cy X S0) := hG
  obtain ⟨H, eH⟩ : ∃ H, H = s.heap := ⟨_, rfl⟩
  obtain ⟨locs, elocs⟩ : ∃ locs : List Loc, locs = [] := ⟨_, rfl⟩
  rw [← eH, ← elocs] at hG
  rw [← eH, ← elocs]
  clear eH elocs
  unfold mX12_least at hM
  refine lv_aload_n hx hb dX12_least_0 rfl (lv_at hl 0 rfl) ?_
  refine lv_iload_n hx hb dX12_least_1 rfl (lv_at hl 1 rfl) ?_
  refine lv_lconst (v := jJ 1) hx hb dX12_least_2 (by decide) ?_
  obtain ⟨r_2, S_3, hc_1, hM⟩ := bd2_some hM
  refine g_vi (As := [.int (iI a1), .long (jJ 1)]) (rest := []) S hG hsz (vX12_first l hn a1 1 hc_1) wV_12_330 (ec_83 _) cpX12 (Nat.lt_of_lt_of_le (Nat.le_of_ble_eq_true rfl) hn) dX12_least_3 rfl hl.1 (ar := 2) (by decide +kernel) rfl ⟨Nat.le_of_ble_eq_true rfl, Nat.le_of_ble_eq_true rfl, Nat.le_of_ble_eq_true rfl, Nat.le_of_ble_eq_true rfl⟩ (Nat.le_of_ble_eq_true rfl) (fun rv uu H locs hp hG => ?_)
  obtain ⟨rfl, rfl⟩ := hp
  replace hG : gW D cy b n s H locs (enc b cy X S_3) := hG
  cases hM
  exact g_iret S hr hlk hG hsz dX12_least_6 ⟨Nat.le_of_ble_eq_true rfl, Nat.le_of_ble_eq_true rfl⟩ ⟨rfl, rfl⟩
def mX12_marked (S0 : St) (a1 : Int) (a2 : Int) (a3 : Int) (a4 : Int) : Option (Int × St) := bd1 (mX12_isKind S0 a1) fun r_2 => gd (inI r_2) <| if r_2 = 0 then (some ((-2), S0)) else (bd1 (mX12_isSize S0 a2) fun r_6 => gd (inI r_6) <| if r_6 = 0 then (some ((-2), S0)) else (gd (inI a3) <| bd1 (mX12_in a3 0 25) fun r_11 => gd (inI r_11) <| if r_11 = 0 then (some ((-2), S0)) else (gd (inI a4) <| bd1 (mX12_in a4 0 7) fun r_16 => gd (inI r_16) <| if r_16 = 0 then (some ((-2), S0)) else (bd1 (mX12_counts S0 a3) fun S_20 => bd1 (mX12_place (24 + a1) a2 a4) fun r_22 => gd (0 ≤ r_22 ∧ r_22 < 1920) <| some ((S_20 90 r_22), S_20)))))
set_option maxHeartbeats 4000000 in
set_option maxRecDepth 100000 in
theorem vX12_marked (l : Launch) {D : va_G} {cy : Nat → ClassId} {b n : Nat} (hn : 102 ≤ n) {X : Nat → va_E} {S0 : St} (a1 : Int) (a2 : Int) (a3 : Int) (a4 : Int) {o1 : Int} {o2 : St} (hM : mX12_marked S0 a1 a2 a3 a4 = some (o1, o2)) : gL l yX12_marked cX12_marked 5 6 0 0 D cy b n (enc b cy X S0) [.ref (b + 80), .int (iI a1), .int (iI a2), .int (iI a3), .int (iI a4)] (fun r u => r = jJ o1 ∧ u = (n, enc b cy X o2)) := by
  refine gL_of (by decide) (Nat.le_of_ble_eq_true rfl) ?_
  intro p e s m args below meth c S hr hlk hin hsz ls hl hG
  have hx := S.1
  have hb := S.2.1
  have hl : lv_has ls 5 [(0, .ref (b + 80)), (1, .int (iI a1)), (2, .int (iI a2)), (3, .int (iI a3)), (4, .int (iI a4))] := hl
  replace hG : gW D cy b n s s.heap [] (enc b cy X S0) := hG
  obtain ⟨H, eH⟩ : ∃ H, H = s.heap := ⟨_, rfl⟩
  obtain ⟨locs, elocs⟩ : ∃ locs : List Loc, locs = [] := ⟨_, rfl⟩
  rw [← eH, ← elocs] at hG
  rw [← eH, ← elocs]
  clear eH elocs
  unfold mX12_marked at hM
  refine lv_aload_n hx hb dX12_marked_0 rfl (lv_at hl 0 rfl) ?_
  refine lv_iload_n hx hb dX12_marked_1 rfl (lv_at hl 1 rfl) ?_
  obtain ⟨r_2, hc_1, hM⟩ := bd1_some hM
  refine g_vi (As := [.int (iI a1)]) (rest := []) S hG hsz (vX12_isKind l hn a1 hc_1) wV_12_225 (ec_83 _) cpX12 (Nat.lt_of_lt_of_le (Nat.le_of_ble_eq_true rfl) hn) dX12_marked_2 rfl hl.1 (ar := 1) (by decide +kernel) rfl ⟨Nat.le_of_ble_eq_true rfl, Nat.le_of_ble_eq_true rfl, Nat.le_of_ble_eq_true rfl, Nat.le_of_ble_eq_true rfl⟩ (Nat.le_of_ble_eq_true rfl) (fun rv uu H locs hp hG => ?_)
  obtain ⟨rfl, rfl⟩ := hp
  replace hG : gW D cy b n s H locs (enc b cy X S0) := hG
  obtain ⟨hg_3, hM⟩ := gd_some hM
  refine gi_if_eq (tgt := 41) hx hb dX12_marked_5 (by decide) hg_3 (fun c_4 => ?_) (fun c_4 => ?_)
  · replace hM := ifp hM c_4
    refine lv_ldc2 (v := -2) hx hb S.2.2.2.1 (S.2.2.2.2 _ wm_2101) dX12_marked_41 ?_
    refine gj_as (-2) (by decide) ?_
    cases hM
    exact g_lret S hr hlk hG hsz dX12_marked_44 ⟨Nat.le_of_ble_eq_true rfl, Nat.le_of_ble_eq_true rfl⟩ ⟨rfl, rfl⟩
  · replace hM := ifn hM c_4
    refine lv_aload_n hx hb dX12_marked_8 rfl (lv_at hl 0 rfl) ?_
    refine lv_iload_n hx hb dX12_marked_9 rfl (lv_at hl 2 rfl) ?_
    obtain ⟨r_6, hc_5, hM⟩ := bd1_some hM
    refine g_vi (As := [.int (iI a2)]) (rest := []) S hG hsz (vX12_isSize l hn a2 hc_5) wV_12_334 (ec_83 _) cpX12 (Nat.lt_of_lt_of_le (Nat.le_of_ble_eq_true rfl) hn) dX12_marked_10 rfl hl.1 (ar := 1) (by decide +kernel) rfl ⟨Nat.le_of_ble_eq_true rfl, Nat.le_of_ble_eq_true rfl, Nat.le_of_ble_eq_true rfl, Nat.le_of_ble_eq_true rfl⟩ (Nat.le_of_ble_eq_true rfl) (fun rv uu H locs hp hG => ?_)
    obtain ⟨rfl, rfl⟩ := hp
    replace hG : gW D cy b n s H locs (enc b cy X S0) := hG
    obtain ⟨hg_7, hM⟩ := gd_some hM
    refine gi_if_eq (tgt := 41) hx hb dX12_marked_13 (by decide) hg_7 (fun c_8 => ?_) (fun c_8 => ?_)
    · replace hM := ifp hM c_8
      refine lv_ldc2 (v := -2) hx hb S.2.2.2.1 (S.2.2.2.2 _ wm_2101) dX12_marked_41 ?_
      refine gj_as (-2) (by decide) ?_
      cases hM
      exact g_lret S hr hlk hG hsz dX12_marked_44 ⟨Nat.le_of_ble_eq_true rfl, Nat.le_of_ble_eq_true rfl⟩ ⟨rfl, rfl⟩
    · replace hM := ifn hM c_8
      refine lv_iload_n hx hb dX12_marked_16 rfl (lv_at hl 3 rfl) ?_
      obtain ⟨hg_9, hM⟩ := gd_some hM
      refine gi_i2l hx hb dX12_marked_17 hg_9 ?_
      refine lv_lconst (v := jJ 0) hx hb dX12_marked_18 (by decide) ?_
      refine lv_ldc2 (v := 25) hx hb S.2.2.2.1 (S.2.2.2.2 _ wm_2111) dX12_marked_19 ?_
      refine gj_as 25 (by decide) ?_
      obtain ⟨r_11, hc_10, hM⟩ := bd1_some hM
      refine g_si (As := [.long (jJ a3), .long (jJ 0), .long (jJ 25)]) (rest := []) S hG hsz (vX12_in l hn a3 0 25 hc_10) wS_12_97 dX12_marked_22 rfl hl.1 (ar := 3) (by decide +kernel) rfl ⟨Nat.le_of_ble_eq_true rfl, Nat.le_of_ble_eq_true rfl, Nat.le_of_ble_eq_true rfl, Nat.le_of_ble_eq_true rfl⟩ (Nat.le_of_ble_eq_true rfl) (fun rv uu H locs hp hG => ?_)
      obtain ⟨rfl, rfl⟩ := hp
      replace hG : gW D cy b n s H locs (enc b cy X S0) := hG
      obtain ⟨hg_12, hM⟩ := gd_some hM
      refine gi_if_eq (tgt := 41) hx hb dX12_marked_25 (by decide) hg_12 (fun c_13 => ?_) (fun c_13 => ?_)
      · replace hM := ifp hM c_13
        refine lv_ldc2 (v := -2) hx hb S.2.2.2.1 (S.2.2.2.2 _ wm_2101) dX12_marked_41 ?_
        refine gj_as (-2) (by decide) ?_
        cases hM
        exact g_lret S hr hlk hG hsz dX12_marked_44 ⟨Nat.le_of_ble_eq_true rfl, Nat.le_of_ble_eq_true rfl⟩ ⟨rfl, rfl⟩
      · replace hM := ifn hM c_13
        refine lv_iload hx hb dX12_marked_28 (lv_at hl 4 rfl) ?_
        obtain ⟨hg_14, hM⟩ := gd_some hM
        refine gi_i2l hx hb dX12_marked_30 hg_14 ?_
        refine lv_lconst (v := jJ 0) hx hb dX12_marked_31 (by decide) ?_
        refine lv_ldc2 (v := 7) hx hb S.2.2.2.1 (S.2.2.2.2 _ wm_1928) dX12_marked_32 ?_
        refine gj_as 7 (by decide) ?_
        obtain ⟨r_16, hc_15, hM⟩ := bd1_some hM
        refine g_si (As := [.long (jJ a4), .long (jJ 0), .long (jJ 7)]) (rest := []) S hG hsz (vX12_in l hn a4 0 7 hc_15) wS_12_97 dX12_marked_35 rfl hl.1 (ar := 3) (by decide +kernel) rfl ⟨Nat.le_of_ble_eq_true rfl, Nat.le_of_ble_eq_true rfl, Nat.le_of_ble_eq_true rfl, Nat.le_of_ble_eq_true rfl⟩ (Nat.le_of_ble_eq_true rfl) (fun rv uu H locs hp hG => ?_)
        obtain ⟨rfl, rfl⟩ := hp
        replace hG : gW D cy b n s H locs (enc b cy X S0) := hG
        obtain ⟨hg_17, hM⟩ := gd_some hM
        refine gi_if_ne (tgt := 45) hx hb dX12_marked_38 (by decide) hg_17 (fun c_18 => ?_) (fun c_18 => ?_)
        · replace hM := ifn hM c_18
          refine lv_aload_n hx hb dX12_marked_45 rfl (lv_at hl 0 rfl) ?_
          refine lv_iload_n hx hb dX12_marked_46 rfl (lv_at hl 3 rfl) ?_
          obtain ⟨S_20, hc_19, hM⟩ := bd1_some hM
          refine g_vv (As := [.int (iI a3)]) (rest := []) S hG hsz (vX12_counts l hn a3 hc_19) wV_12_324 (ec_83 _) cpX12 (Nat.lt_of_lt_of_le (Nat.le_of_ble_eq_true rfl) hn) dX12_marked_47 rfl hl.1 (ar := 1) (by decide +kernel) rfl ⟨Nat.le_of_ble_eq_true rfl, Nat.le_of_ble_eq_true rfl, Nat.le_of_ble_eq_true rfl, Nat.le_of_ble_eq_true rfl⟩ (Nat.le_of_ble_eq_true rfl) (fun uu H locs hp hG => ?_)
          obtain rfl := hp
          replace hG : gW D cy b n s H locs (enc b cy X S_20) := hG
          refine lv_aload_n hx hb dX12_marked_50 rfl (lv_at hl 0 rfl) ?_
          refine m_get S hG 80 83 14 rfl ec_83 cpX12 wm_1687 dX12_marked_51 rfl (Nat.lt_of_lt_of_le (Nat.le_of_ble_eq_true rfl) hn) (by decide) ?_
          refine lv_bipush (v := iI 24) hx hb dX12_marked_54 (by decide) ?_
          refine lv_iload_n hx hb dX12_marked_56 rfl (lv_at hl 1 rfl) ?_
          refine gi_add hx hb dX12_marked_57 ?_
          refine lv_iload_n hx hb dX12_marked_58 rfl (lv_at hl 2 rfl) ?_
          refine lv_iload hx hb dX12_marked_59 (lv_at hl 4 rfl) ?_
          obtain ⟨r_22, hc_21, hM⟩ := bd1_some hM
          refine g_si (As := [.int (iI (24 + a1)), .int (iI a2), .int (iI a4)]) (rest := [.ref (b + 87)]) S hG hsz (vX12_place l hn (24 + a1) a2 a4 hc_21) wS_12_276 dX12_marked_61 rfl hl.1 (ar := 3) (by decide +kernel) rfl ⟨Nat.le_of_ble_eq_true rfl, Nat.le_of_ble_eq_true rfl, Nat.le_of_ble_eq_true rfl, Nat.le_of_ble_eq_true rfl⟩ (Nat.le_of_ble_eq_true rfl) (fun rv uu H locs hp hG => ?_)
          obtain ⟨rfl, rfl⟩ := hp
          replace hG : gW D cy b n s H locs (enc b cy X S_20) := hG
          obtain ⟨hg_23, hM⟩ := gd_some hM
          refine mj_ald S hG 87 90 rfl ec_90 (Nat.lt_of_lt_of_le (Nat.le_of_ble_eq_true rfl) hn) dX12_marked_64 hg_23 (by decide) ?_
          cases hM
          exact g_lret S hr hlk hG hsz dX12_marked_65 ⟨Nat.le_of_ble_eq_true rfl, Nat.le_of_ble_eq_true rfl⟩ ⟨rfl, rfl⟩
        · replace hM := ifp hM c_18
          refine lv_ldc2 (v := -2) hx hb S.2.2.2.1 (S.2.2.2.2 _ wm_2101) dX12_marked_41 ?_
          refine gj_as (-2) (by decide) ?_
          cases hM
          exact g_lret S hr hlk hG hsz dX12_marked_44 ⟨Nat.le_of_ble_eq_true rfl, Nat.le_of_ble_eq_true rfl⟩ ⟨rfl, rfl⟩
def mX12_termAt_14 (S0 : St) (a2 : Int) : Nat → Int → Int → Option (Int)
  | 0, _, _ => none
  | f + 1, v_3, v_4 => gd ((inI v_3) ∧ (inI a2)) <| if a2 ≤ v_3 then (some (v_4)) else (gd (0 ≤ (144 + v_4) ∧ (144 + v_4) < 228) <| nx (S0 84 (144 + v_4)) fun x_14 => mX12_termAt_14 S0 a2 f (v_3 + 1) x_14)
def mX12_termAt (S0 : St) (a1 : Int) (a2 : Int) : Option (Int) := gd (0 ≤ (168 + a1) ∧ (168 + a1) < 228) <| nx (S0 84 (168 + a1)) fun x_2 => bd1 (mX12_termAt_14 S0 a2 FU 0 x_2) fun y_5 => some (y_5)
set_option maxHeartbeats 4000000 in
set_option maxRecDepth 100000 in
theorem vX12_termAt (l : Launch) {D : va_G} {cy : Nat → ClassId} {b n : Nat} (hn : 102 ≤ n) {X : Nat → va_E} {S0 : St} (a1 : Int) (a2 : Int) {o1 : Int} (hM : mX12_termAt S0 a1 a2 = some o1) : gI l yX12_termAt cX12_termAt 5 (some .int) 0 0 0 D cy b n (enc b cy X S0) [.ref (b + 80), .int (iI a1), .int (iI a2)] (fun r u => r = iI o1 ∧ u = (n, enc b cy X S0)) := by
  refine gI_of (by decide) (Nat.le_of_ble_eq_true rfl) ?_
  intro p e s m args below meth c S hr hlk hin hsz ls hl hG
  have hx := S.1
  have hb := S.2.1
  have hl : lv_has ls 5 [(0, .ref (b + 80)), (1, .int (iI a1)), (2, .int (iI a2))] := hl
  replace hG : gW D cy b n s s.heap [] (enc b cy X S0) := hG
  obtain ⟨H, eH⟩ : ∃ H, H = s.heap := ⟨_, rfl⟩
  obtain ⟨locs, elocs⟩ : ∃ locs : List Loc, locs = [] := ⟨_, rfl⟩
  rw [← eH, ← elocs] at hG
  rw [← eH, ← elocs]
  clear eH elocs
  unfold mX12_termAt at hM
  refine lv_aload_n hx hb dX12_termAt_0 rfl (lv_at hl 0 rfl) ?_
  refine m_get S hG 80 83 0 rfl ec_83 cpX12 wm_1673 dX12_termAt_1 rfl (Nat.lt_of_lt_of_le (Nat.le_of_ble_eq_true rfl) hn) (by decide) ?_
  refine lv_sipush (v := iI 168) hx hb dX12_termAt_4 (by decide) ?_
  refine lv_iload_n hx hb dX12_termAt_7 rfl (lv_at hl 1 rfl) ?_
  refine gi_add hx hb dX12_termAt_8 ?_
  obtain ⟨hg_1, hM⟩ := gd_some hM
  refine mi_ald S hG 81 84 rfl ec_84 (Nat.lt_of_lt_of_le (Nat.le_of_ble_eq_true rfl) hn) dX12_termAt_9 hg_1 (by decide) ?_
  refine gi_nm (fun x_2 ex_2 => ?_)
  replace hM := nx_at hM ex_2
  clear ex_2
  refine lv_istore_n (lv' := [(3, .int (iI x_2)), (0, .ref (b + 80)), (1, .int (iI a1)), (2, .int (iI a2))]) hx hb dX12_termAt_10 rfl hl (by decide) rfl (fun ls hl => ?_)
  refine lv_iconst (v := iI 0) hx hb dX12_termAt_11 (by decide) ?_
  refine lv_istore (lv' := [(4, .int (iI 0)), (3, .int (iI x_2)), (0, .ref (b + 80)), (1, .int (iI a1)), (2, .int (iI a2))]) hx hb dX12_termAt_12 hl (by decide) rfl (fun ls hl => ?_)
  obtain ⟨y_5, hc_6, hM⟩ := bd1_some hM
  have hK_7 : ∀ (H : Heap) (locs : List Loc) (ls : Array Slot), gW D cy b n s H locs (enc b cy X S0) → lv_has ls 5 [(3, .int (iI y_5))] → W p l e (gRm 0 0 0) s m args below meth c H locs 0 0 (gQI D cy b s args below 0 0 (fun r u => r = iI o1 ∧ u = (n, enc b cy X S0))) (F0 m 37 ls []) := by
    intro H locs ls hG hl
    refine lv_iload_n hx hb dX12_termAt_37 rfl (lv_at hl 0 rfl) ?_
    cases hM
    exact g_iret S hr hlk hG hsz dX12_termAt_38 ⟨Nat.le_of_ble_eq_true rfl, Nat.le_of_ble_eq_true rfl⟩ ⟨rfl, rfl⟩
  have loop_8 : ∀ (f : Nat) (v_3 : Int) (v_4 : Int) (H : Heap) (locs : List Loc) (ls : Array Slot), mX12_termAt_14 S0 a2 f v_3 v_4 = some y_5 → gW D cy b n s H locs (enc b cy X S0) → lv_has ls 5 [(4, .int (iI v_3)), (3, .int (iI v_4)), (0, .ref (b + 80)), (2, .int (iI a2))] → W p l e (gRm 0 0 0) s m args below meth c H locs 0 0 (gQI D cy b s args below 0 0 (fun r u => r = iI o1 ∧ u = (n, enc b cy X S0))) (F0 m 14 ls []) := by
    clear hM
    intro f
    induction f with
    | zero => intro v_3 v_4 H locs ls hM; rw [mX12_termAt_14] at hM; cases hM
    | succ f_10 ih_9 =>
      intro v_3 v_4 H locs ls hM hG hl
      rw [mX12_termAt_14] at hM
      refine lv_iload hx hb dX12_termAt_14 (lv_at hl 0 rfl) ?_
      refine lv_iload_n hx hb dX12_termAt_16 rfl (lv_at hl 3 rfl) ?_
      obtain ⟨hg_11, hM⟩ := gd_some hM
      refine gi_icmp_ge (tgt := 37) hx hb dX12_termAt_17 (by decide) hg_11.1 hg_11.2 (fun c_12 => ?_) (fun c_12 => ?_)
      · replace hM := ifp hM c_12
        cases hM
        exact hK_7 H locs ls hG (lv_sub hl [1] rfl)
      · replace hM := ifn hM c_12
        refine lv_aload_n hx hb dX12_termAt_20 rfl (lv_at hl 2 rfl) ?_
        refine m_get S hG 80 83 0 rfl ec_83 cpX12 wm_1673 dX12_termAt_21 rfl (Nat.lt_of_lt_of_le (Nat.le_of_ble_eq_true rfl) hn) (by decide) ?_
        refine lv_sipush (v := iI 144) hx hb dX12_termAt_24 (by decide) ?_
        refine lv_iload_n hx hb dX12_termAt_27 rfl (lv_at hl 1 rfl) ?_
        refine gi_add hx hb dX12_termAt_28 ?_
        obtain ⟨hg_13, hM⟩ := gd_some hM
        refine mi_ald S hG 81 84 rfl ec_84 (Nat.lt_of_lt_of_le (Nat.le_of_ble_eq_true rfl) hn) dX12_termAt_29 hg_13 (by decide) ?_
        refine gi_nm (fun x_14 ex_14 => ?_)
        replace hM := nx_at hM ex_14
        clear ex_14
        refine lv_istore_n (lv' := [(3, .int (iI x_14)), (4, .int (iI v_3)), (0, .ref (b + 80)), (2, .int (iI a2))]) hx hb dX12_termAt_30 rfl hl (by decide) rfl (fun ls hl => ?_)
        refine lv_iinc (v := iI (v_3 + 1)) (lv' := [(4, .int (iI (v_3 + 1))), (3, .int (iI x_14)), (0, .ref (b + 80)), (2, .int (iI a2))]) hx hb dX12_termAt_31 hl (k := 1) rfl ((iI_add v_3 (1)).trans (congrArg iI (by omega))) (by decide) rfl (fun ls hl => ?_)
        refine lv_goto (tgt := 14) hx hb dX12_termAt_34 (by decide) ?_
        exact ih_9 (v_3 + 1) x_14 H locs ls hM hG (lv_sub hl [0, 1, 2, 3] rfl)
  exact loop_8 FU 0 x_2 H locs ls hc_6 hG (lv_sub hl [0, 1, 2, 4] rfl)
theorem wV_12_341 : gWV "GrownKindsModel" 341 yX12_termAt cX12_termAt 5 (some .int) := ⟨wm_2124, wm_2126, wm_130, wm_188, wm_2127, by decide +kernel, by decide +kernel⟩
def mX12_byTerm (S0 : St) (a1 : Int) (a2 : Int) (a3 : Int) : Option (Int) := bd1 (mX12_isOff S0 a1 a3) fun r_2 => gd (inI r_2) <| if r_2 = 0 then (bd1 (mX12_termAt S0 a1 a3) fun r_6 => gd (0 ≤ (120 + r_6) ∧ (120 + r_6) < 228) <| bd1 (mX12_place (S0 84 (120 + r_6)) a2 0) fun r_9 => gd (0 ≤ r_9 ∧ r_9 < 1536) <| some ((S0 91 r_9))) else (some (0))
set_option maxHeartbeats 4000000 in
set_option maxRecDepth 100000 in
theorem vX12_byTerm (l : Launch) {D : va_G} {cy : Nat → ClassId} {b n : Nat} (hn : 102 ≤ n) {X : Nat → va_E} {S0 : St} (a1 : Int) (a2 : Int) (a3 : Int) {o1 : Int} (hM : mX12_byTerm S0 a1 a2 a3 = some o1) : gL l yX12_byTerm cX12_byTerm 4 2 0 0 D cy b n (enc b cy X S0) [.ref (b + 80), .int (iI a1), .int (iI a2), .int (iI a3)] (fun r u => r = jJ o1 ∧ u = (n, enc b cy X S0)) := by
  refine gL_of (by decide) (Nat.le_of_ble_eq_true rfl) ?_
  intro p e s m args below meth c S hr hlk hin hsz ls hl hG
  have hx := S.1
  have hb := S.2.1
  have hl : lv_has ls 4 [(0, .ref (b + 80)), (1, .int (iI a1)), (2, .int (iI a2)), (3, .int (iI a3))] := hl
  replace hG : gW D cy b n s s.heap [] (enc b cy X S0) := hG
  obtain ⟨H, eH⟩ : ∃ H, H = s.heap := ⟨_, rfl⟩
  obtain ⟨locs, elocs⟩ : ∃ locs : List Loc, locs = [] := ⟨_, rfl⟩
  rw [← eH, ← elocs] at hG
  rw [← eH, ← elocs]
  clear eH elocs
  unfold mX12_byTerm at hM
  refine lv_aload_n hx hb dX12_byTerm_0 rfl (lv_at hl 0 rfl) ?_
  refine lv_iload_n hx hb dX12_byTerm_1 rfl (lv_at hl 1 rfl) ?_
  refine lv_iload_n hx hb dX12_byTerm_2 rfl (lv_at hl 3 rfl) ?_
  obtain ⟨r_2, hc_1, hM⟩ := bd1_some hM
  refine g_vi (As := [.int (iI a1), .int (iI a3)]) (rest := []) S hG hsz (vX12_isOff l hn a1 a3 hc_1) wV_12_231 (ec_83 _) cpX12 (Nat.lt_of_lt_of_le (Nat.le_of_ble_eq_true rfl) hn) dX12_byTerm_3 rfl hl.1 (ar := 2) (by decide +kernel) rfl ⟨Nat.le_of_ble_eq_true rfl, Nat.le_of_ble_eq_true rfl, Nat.le_of_ble_eq_true rfl, Nat.le_of_ble_eq_true rfl⟩ (Nat.le_of_ble_eq_true rfl) (fun rv uu H locs hp hG => ?_)
  obtain ⟨rfl, rfl⟩ := hp
  replace hG : gW D cy b n s H locs (enc b cy X S0) := hG
  obtain ⟨hg_3, hM⟩ := gd_some hM
  refine gi_if_eq (tgt := 13) hx hb dX12_byTerm_6 (by decide) hg_3 (fun c_4 => ?_) (fun c_4 => ?_)
  · replace hM := ifp hM c_4
    refine lv_aload_n hx hb dX12_byTerm_13 rfl (lv_at hl 0 rfl) ?_
    refine m_get S hG 80 83 15 rfl ec_83 cpX12 wm_1688 dX12_byTerm_14 rfl (Nat.lt_of_lt_of_le (Nat.le_of_ble_eq_true rfl) hn) (by decide) ?_
    refine lv_aload_n hx hb dX12_byTerm_17 rfl (lv_at hl 0 rfl) ?_
    refine m_get S hG 80 83 0 rfl ec_83 cpX12 wm_1673 dX12_byTerm_18 rfl (Nat.lt_of_lt_of_le (Nat.le_of_ble_eq_true rfl) hn) (by decide) ?_
    refine lv_bipush (v := iI 120) hx hb dX12_byTerm_21 (by decide) ?_
    refine lv_aload_n hx hb dX12_byTerm_23 rfl (lv_at hl 0 rfl) ?_
    refine lv_iload_n hx hb dX12_byTerm_24 rfl (lv_at hl 1 rfl) ?_
    refine lv_iload_n hx hb dX12_byTerm_25 rfl (lv_at hl 3 rfl) ?_
    obtain ⟨r_6, hc_5, hM⟩ := bd1_some hM
    refine g_vi (As := [.int (iI a1), .int (iI a3)]) (rest := [.int (iI 120), .ref (b + 81), .ref (b + 88)]) S hG hsz (vX12_termAt l hn a1 a3 hc_5) wV_12_341 (ec_83 _) cpX12 (Nat.lt_of_lt_of_le (Nat.le_of_ble_eq_true rfl) hn) dX12_byTerm_26 rfl hl.1 (ar := 2) (by decide +kernel) rfl ⟨Nat.le_of_ble_eq_true rfl, Nat.le_of_ble_eq_true rfl, Nat.le_of_ble_eq_true rfl, Nat.le_of_ble_eq_true rfl⟩ (Nat.le_of_ble_eq_true rfl) (fun rv uu H locs hp hG => ?_)
    obtain ⟨rfl, rfl⟩ := hp
    replace hG : gW D cy b n s H locs (enc b cy X S0) := hG
    refine gi_add hx hb dX12_byTerm_29 ?_
    obtain ⟨hg_7, hM⟩ := gd_some hM
    refine mi_ald S hG 81 84 rfl ec_84 (Nat.lt_of_lt_of_le (Nat.le_of_ble_eq_true rfl) hn) dX12_byTerm_30 hg_7 (by decide) ?_
    refine lv_iload_n hx hb dX12_byTerm_31 rfl (lv_at hl 2 rfl) ?_
    refine lv_iconst (v := iI 0) hx hb dX12_byTerm_32 (by decide) ?_
    obtain ⟨r_9, hc_8, hM⟩ := bd1_some hM
    refine g_si (As := [.int (iI (S0 84 (120 + r_6))), .int (iI a2), .int (iI 0)]) (rest := [.ref (b + 88)]) S hG hsz (vX12_place l hn (S0 84 (120 + r_6)) a2 0 hc_8) wS_12_276 dX12_byTerm_33 rfl hl.1 (ar := 3) (by decide +kernel) rfl ⟨Nat.le_of_ble_eq_true rfl, Nat.le_of_ble_eq_true rfl, Nat.le_of_ble_eq_true rfl, Nat.le_of_ble_eq_true rfl⟩ (Nat.le_of_ble_eq_true rfl) (fun rv uu H locs hp hG => ?_)
    obtain ⟨rfl, rfl⟩ := hp
    replace hG : gW D cy b n s H locs (enc b cy X S0) := hG
    obtain ⟨hg_10, hM⟩ := gd_some hM
    refine mj_ald S hG 88 91 rfl ec_91 (Nat.lt_of_lt_of_le (Nat.le_of_ble_eq_true rfl) hn) dX12_byTerm_36 hg_10 (by decide) ?_
    cases hM
    exact g_lret S hr hlk hG hsz dX12_byTerm_37 ⟨Nat.le_of_ble_eq_true rfl, Nat.le_of_ble_eq_true rfl⟩ ⟨rfl, rfl⟩
  · replace hM := ifn hM c_4
    refine lv_lconst (v := jJ 0) hx hb dX12_byTerm_9 (by decide) ?_
    refine lv_goto (tgt := 37) hx hb dX12_byTerm_10 (by decide) ?_
    cases hM
    exact g_lret S hr hlk hG hsz dX12_byTerm_37 ⟨Nat.le_of_ble_eq_true rfl, Nat.le_of_ble_eq_true rfl⟩ ⟨rfl, rfl⟩
theorem wV_12_344 : gWV "GrownKindsModel" 344 yX12_isTerm cX12_isTerm 3 (some .boolean) := ⟨wm_2116, wm_2118, wm_128, wm_188, wm_2119, by decide +kernel, by decide +kernel⟩
theorem wV_12_347 : gWV "GrownKindsModel" 347 yX12_byTerm cX12_byTerm 4 (some .long) := ⟨wm_2120, wm_2122, wm_129, wm_188, wm_2123, by decide +kernel, by decide +kernel⟩
def mX12_by (S0 : St) (a1 : Int) (a2 : Int) (a3 : Int) : Option (Int × St) := bd1 (mX12_isTerm S0 a1 a3) fun r_2 => gd (inI r_2) <| if r_2 = 0 then (some ((-2), S0)) else (bd1 (mX12_isSize S0 a2) fun r_6 => gd (inI r_6) <| if r_6 = 0 then (some ((-2), S0)) else (bd1 (mX12_counts S0 (-1)) fun S_10 => bd1 (mX12_byTerm S_10 a1 a2 a3) fun r_12 => some (r_12, S_10)))
set_option maxHeartbeats 4000000 in
set_option maxRecDepth 100000 in
theorem vX12_by (l : Launch) {D : va_G} {cy : Nat → ClassId} {b n : Nat} (hn : 102 ≤ n) {X : Nat → va_E} {S0 : St} (a1 : Int) (a2 : Int) (a3 : Int) {o1 : Int} {o2 : St} (hM : mX12_by S0 a1 a2 a3 = some (o1, o2)) : gL l yX12_by cX12_by 4 6 0 0 D cy b n (enc b cy X S0) [.ref (b + 80), .int (iI a1), .int (iI a2), .int (iI a3)] (fun r u => r = jJ o1 ∧ u = (n, enc b cy X o2)) := by
  refine gL_of (by decide) (Nat.le_of_ble_eq_true rfl) ?_
  intro p e s m args below meth c S hr hlk hin hsz ls hl hG
  have hx := S.1
  have hb := S.2.1
  have hl : lv_has ls 4 [(0, .ref (b + 80)), (1, .int (iI a1)), (2, .int (iI a2)), (3, .int (iI a3))] := hl
  replace hG : gW D cy b n s s.heap [] (enc b cy X S0) := hG
  obtain ⟨H, eH⟩ : ∃ H, H = s.heap := ⟨_, rfl⟩
  obtain ⟨locs, elocs⟩ : ∃ locs : List Loc, locs = [] := ⟨_, rfl⟩
  rw [← eH, ← elocs] at hG
  rw [← eH, ← elocs]
  clear eH elocs
  unfold mX12_by at hM
  refine lv_aload_n hx hb dX12_by_0 rfl (lv_at hl 0 rfl) ?_
  refine lv_iload_n hx hb dX12_by_1 rfl (lv_at hl 1 rfl) ?_
  refine lv_iload_n hx hb dX12_by_2 rfl (lv_at hl 3 rfl) ?_
  obtain ⟨r_2, hc_1, hM⟩ := bd1_some hM
  refine g_vi (As := [.int (iI a1), .int (iI a3)]) (rest := []) S hG hsz (vX12_isTerm l hn a1 a3 hc_1) wV_12_344 (ec_83 _) cpX12 (Nat.lt_of_lt_of_le (Nat.le_of_ble_eq_true rfl) hn) dX12_by_3 rfl hl.1 (ar := 2) (by decide +kernel) rfl ⟨Nat.le_of_ble_eq_true rfl, Nat.le_of_ble_eq_true rfl, Nat.le_of_ble_eq_true rfl, Nat.le_of_ble_eq_true rfl⟩ (Nat.le_of_ble_eq_true rfl) (fun rv uu H locs hp hG => ?_)
  obtain ⟨rfl, rfl⟩ := hp
  replace hG : gW D cy b n s H locs (enc b cy X S0) := hG
  obtain ⟨hg_3, hM⟩ := gd_some hM
  refine gi_if_eq (tgt := 17) hx hb dX12_by_6 (by decide) hg_3 (fun c_4 => ?_) (fun c_4 => ?_)
  · replace hM := ifp hM c_4
    refine lv_ldc2 (v := -2) hx hb S.2.2.2.1 (S.2.2.2.2 _ wm_2101) dX12_by_17 ?_
    refine gj_as (-2) (by decide) ?_
    cases hM
    exact g_lret S hr hlk hG hsz dX12_by_20 ⟨Nat.le_of_ble_eq_true rfl, Nat.le_of_ble_eq_true rfl⟩ ⟨rfl, rfl⟩
  · replace hM := ifn hM c_4
    refine lv_aload_n hx hb dX12_by_9 rfl (lv_at hl 0 rfl) ?_
    refine lv_iload_n hx hb dX12_by_10 rfl (lv_at hl 2 rfl) ?_
    obtain ⟨r_6, hc_5, hM⟩ := bd1_some hM
    refine g_vi (As := [.int (iI a2)]) (rest := []) S hG hsz (vX12_isSize l hn a2 hc_5) wV_12_334 (ec_83 _) cpX12 (Nat.lt_of_lt_of_le (Nat.le_of_ble_eq_true rfl) hn) dX12_by_11 rfl hl.1 (ar := 1) (by decide +kernel) rfl ⟨Nat.le_of_ble_eq_true rfl, Nat.le_of_ble_eq_true rfl, Nat.le_of_ble_eq_true rfl, Nat.le_of_ble_eq_true rfl⟩ (Nat.le_of_ble_eq_true rfl) (fun rv uu H locs hp hG => ?_)
    obtain ⟨rfl, rfl⟩ := hp
    replace hG : gW D cy b n s H locs (enc b cy X S0) := hG
    obtain ⟨hg_7, hM⟩ := gd_some hM
    refine gi_if_ne (tgt := 21) hx hb dX12_by_14 (by decide) hg_7 (fun c_8 => ?_) (fun c_8 => ?_)
    · replace hM := ifn hM c_8
      refine lv_aload_n hx hb dX12_by_21 rfl (lv_at hl 0 rfl) ?_
      refine lv_iconst (v := iI (-1)) hx hb dX12_by_22 (by decide) ?_
      obtain ⟨S_10, hc_9, hM⟩ := bd1_some hM
      refine g_vv (As := [.int (iI (-1))]) (rest := []) S hG hsz (vX12_counts l hn (-1) hc_9) wV_12_324 (ec_83 _) cpX12 (Nat.lt_of_lt_of_le (Nat.le_of_ble_eq_true rfl) hn) dX12_by_23 rfl hl.1 (ar := 1) (by decide +kernel) rfl ⟨Nat.le_of_ble_eq_true rfl, Nat.le_of_ble_eq_true rfl, Nat.le_of_ble_eq_true rfl, Nat.le_of_ble_eq_true rfl⟩ (Nat.le_of_ble_eq_true rfl) (fun uu H locs hp hG => ?_)
      obtain rfl := hp
      replace hG : gW D cy b n s H locs (enc b cy X S_10) := hG
      refine lv_aload_n hx hb dX12_by_26 rfl (lv_at hl 0 rfl) ?_
      refine lv_iload_n hx hb dX12_by_27 rfl (lv_at hl 1 rfl) ?_
      refine lv_iload_n hx hb dX12_by_28 rfl (lv_at hl 2 rfl) ?_
      refine lv_iload_n hx hb dX12_by_29 rfl (lv_at hl 3 rfl) ?_
      obtain ⟨r_12, hc_11, hM⟩ := bd1_some hM
      refine g_vl (As := [.int (iI a1), .int (iI a2), .int (iI a3)]) (rest := []) S hG hsz (vX12_byTerm l hn a1 a2 a3 hc_11) wV_12_347 (ec_83 _) cpX12 (Nat.lt_of_lt_of_le (Nat.le_of_ble_eq_true rfl) hn) dX12_by_30 rfl hl.1 (ar := 3) (by decide +kernel) rfl ⟨Nat.le_of_ble_eq_true rfl, Nat.le_of_ble_eq_true rfl, Nat.le_of_ble_eq_true rfl, Nat.le_of_ble_eq_true rfl⟩ (Nat.le_of_ble_eq_true rfl) (fun rv uu H locs hp hG => ?_)
      obtain ⟨rfl, rfl⟩ := hp
      replace hG : gW D cy b n s H locs (enc b cy X S_10) := hG
      cases hM
      exact g_lret S hr hlk hG hsz dX12_by_33 ⟨Nat.le_of_ble_eq_true rfl, Nat.le_of_ble_eq_true rfl⟩ ⟨rfl, rfl⟩
    · replace hM := ifp hM c_8
      refine lv_ldc2 (v := -2) hx hb S.2.2.2.1 (S.2.2.2.2 _ wm_2101) dX12_by_17 ?_
      refine gj_as (-2) (by decide) ?_
      cases hM
      exact g_lret S hr hlk hG hsz dX12_by_20 ⟨Nat.le_of_ble_eq_true rfl, Nat.le_of_ble_eq_true rfl⟩ ⟨rfl, rfl⟩
def mX12_manyWithout (S0 : St) (a1 : Int) (a2 : Int) (a3 : Int) (a4 : Int) : Option (Int × St) := gd (0 ≤ (6 + a1) ∧ (6 + a1) < 228) <| nx (S0 84 (6 + a1)) fun x_2 => nx (up S0 84 (6 + a1) (orr x_2 (shl 1 a2))) fun S_3 => bd1 (mX12_counts S_3 (-1)) fun S_5 => nx (up S_5 84 (6 + a1) x_2) fun S_6 => bd1 (mX12_kindMany S_6 a3 a4) fun r_8 => some (r_8, S_6)
set_option maxHeartbeats 4000000 in
set_option maxRecDepth 100000 in
theorem vX12_manyWithout (l : Launch) {D : va_G} {cy : Nat → ClassId} {b n : Nat} (hn : 102 ≤ n) {X : Nat → va_E} {S0 : St} (a1 : Int) (a2 : Int) (a3 : Int) (a4 : Int) {o1 : Int} {o2 : St} (hM : mX12_manyWithout S0 a1 a2 a3 a4 = some (o1, o2)) : gL l yX12_manyWithout cX12_manyWithout 6 6 0 0 D cy b n (enc b cy X S0) [.ref (b + 80), .int (iI a1), .int (iI a2), .int (iI a3), .int (iI a4)] (fun r u => r = jJ o1 ∧ u = (n, enc b cy X o2)) := by
  refine gL_of (by decide) (Nat.le_of_ble_eq_true rfl) ?_
  intro p e s m args below meth c S hr hlk hin hsz ls hl hG
  have hx := S.1
  have hb := S.2.1
  have hl : lv_has ls 6 [(0, .ref (b + 80)), (1, .int (iI a1)), (2, .int (iI a2)), (3, .int (iI a3)), (4, .int (iI a4))] := hl
  replace hG : gW D cy b n s s.heap [] (enc b cy X S0) := hG
  obtain ⟨H, eH⟩ : ∃ H, H = s.heap := ⟨_, rfl⟩
  obtain ⟨locs, elocs⟩ : ∃ locs : List Loc, locs = [] := ⟨_, rfl⟩
  rw [← eH, ← elocs] at hG
  rw [← eH, ← elocs]
  clear eH elocs
  unfold mX12_manyWithout at hM
  refine lv_aload_n hx hb dX12_manyWithout_0 rfl (lv_at hl 0 rfl) ?_
  refine m_get S hG 80 83 0 rfl ec_83 cpX12 wm_1673 dX12_manyWithout_1 rfl (Nat.lt_of_lt_of_le (Nat.le_of_ble_eq_true rfl) hn) (by decide) ?_
  refine lv_bipush (v := iI 6) hx hb dX12_manyWithout_4 (by decide) ?_
  refine lv_iload_n hx hb dX12_manyWithout_6 rfl (lv_at hl 1 rfl) ?_
  refine gi_add hx hb dX12_manyWithout_7 ?_
  obtain ⟨hg_1, hM⟩ := gd_some hM
  refine mi_ald S hG 81 84 rfl ec_84 (Nat.lt_of_lt_of_le (Nat.le_of_ble_eq_true rfl) hn) dX12_manyWithout_8 hg_1 (by decide) ?_
  refine gi_nm (fun x_2 ex_2 => ?_)
  replace hM := nx_at hM ex_2
  clear ex_2
  refine lv_istore (lv' := [(5, .int (iI x_2)), (0, .ref (b + 80)), (1, .int (iI a1)), (2, .int (iI a2)), (3, .int (iI a3)), (4, .int (iI a4))]) hx hb dX12_manyWithout_9 hl (by decide) rfl (fun ls hl => ?_)
  refine lv_aload_n hx hb dX12_manyWithout_11 rfl (lv_at hl 1 rfl) ?_
  refine m_get S hG 80 83 0 rfl ec_83 cpX12 wm_1673 dX12_manyWithout_12 rfl (Nat.lt_of_lt_of_le (Nat.le_of_ble_eq_true rfl) hn) (by decide) ?_
  refine lv_bipush (v := iI 6) hx hb dX12_manyWithout_15 (by decide) ?_
  refine lv_iload_n hx hb dX12_manyWithout_17 rfl (lv_at hl 2 rfl) ?_
  refine gi_add hx hb dX12_manyWithout_18 ?_
  refine lv_iload hx hb dX12_manyWithout_19 (lv_at hl 0 rfl) ?_
  refine lv_iconst (v := iI 1) hx hb dX12_manyWithout_21 (by decide) ?_
  refine lv_iload_n hx hb dX12_manyWithout_22 rfl (lv_at hl 3 rfl) ?_
  refine gi_shl hx hb dX12_manyWithout_23 ?_
  refine gi_or hx hb dX12_manyWithout_24 ?_
  refine mi_ast S hG 81 84 rfl ec_84 (Nat.lt_of_lt_of_le (Nat.le_of_ble_eq_true rfl) hn) dX12_manyWithout_25 hg_1 (by decide) (fun H locs S_3 eS_3 hG => ?_)
  replace hM := nx_at hM eS_3
  clear eS_3
  refine lv_aload_n hx hb dX12_manyWithout_26 rfl (lv_at hl 1 rfl) ?_
  refine lv_iconst (v := iI (-1)) hx hb dX12_manyWithout_27 (by decide) ?_
  obtain ⟨S_5, hc_4, hM⟩ := bd1_some hM
  refine g_vv (As := [.int (iI (-1))]) (rest := []) S hG hsz (vX12_counts l hn (-1) hc_4) wV_12_324 (ec_83 _) cpX12 (Nat.lt_of_lt_of_le (Nat.le_of_ble_eq_true rfl) hn) dX12_manyWithout_28 rfl hl.1 (ar := 1) (by decide +kernel) rfl ⟨Nat.le_of_ble_eq_true rfl, Nat.le_of_ble_eq_true rfl, Nat.le_of_ble_eq_true rfl, Nat.le_of_ble_eq_true rfl⟩ (Nat.le_of_ble_eq_true rfl) (fun uu H locs hp hG => ?_)
  obtain rfl := hp
  replace hG : gW D cy b n s H locs (enc b cy X S_5) := hG
  refine lv_aload_n hx hb dX12_manyWithout_31 rfl (lv_at hl 1 rfl) ?_
  refine m_get S hG 80 83 0 rfl ec_83 cpX12 wm_1673 dX12_manyWithout_32 rfl (Nat.lt_of_lt_of_le (Nat.le_of_ble_eq_true rfl) hn) (by decide) ?_
  refine lv_bipush (v := iI 6) hx hb dX12_manyWithout_35 (by decide) ?_
  refine lv_iload_n hx hb dX12_manyWithout_37 rfl (lv_at hl 2 rfl) ?_
  refine gi_add hx hb dX12_manyWithout_38 ?_
  refine lv_iload hx hb dX12_manyWithout_39 (lv_at hl 0 rfl) ?_
  refine mi_ast S hG 81 84 rfl ec_84 (Nat.lt_of_lt_of_le (Nat.le_of_ble_eq_true rfl) hn) dX12_manyWithout_41 hg_1 (by decide) (fun H locs S_6 eS_6 hG => ?_)
  replace hM := nx_at hM eS_6
  clear eS_6
  refine lv_aload_n hx hb dX12_manyWithout_42 rfl (lv_at hl 1 rfl) ?_
  refine lv_iload_n hx hb dX12_manyWithout_43 rfl (lv_at hl 4 rfl) ?_
  refine lv_iload hx hb dX12_manyWithout_44 (lv_at hl 5 rfl) ?_
  obtain ⟨r_8, hc_7, hM⟩ := bd1_some hM
  refine g_vl (As := [.int (iI a3), .int (iI a4)]) (rest := []) S hG hsz (vX12_kindMany l hn a3 a4 hc_7) wV_12_320 (ec_83 _) cpX12 (Nat.lt_of_lt_of_le (Nat.le_of_ble_eq_true rfl) hn) dX12_manyWithout_46 rfl hl.1 (ar := 2) (by decide +kernel) rfl ⟨Nat.le_of_ble_eq_true rfl, Nat.le_of_ble_eq_true rfl, Nat.le_of_ble_eq_true rfl, Nat.le_of_ble_eq_true rfl⟩ (Nat.le_of_ble_eq_true rfl) (fun rv uu H locs hp hG => ?_)
  obtain ⟨rfl, rfl⟩ := hp
  replace hG : gW D cy b n s H locs (enc b cy X S_6) := hG
  cases hM
  exact g_lret S hr hlk hG hsz dX12_manyWithout_49 ⟨Nat.le_of_ble_eq_true rfl, Nat.le_of_ble_eq_true rfl⟩ ⟨rfl, rfl⟩
theorem wV_12_350 : gWV "GrownKindsModel" 350 yX12_manyWithout cX12_manyWithout 6 (some .long) := ⟨wm_2132, wm_2134, wm_131, wm_188, wm_2135, by decide +kernel, by decide +kernel⟩
def mX12_without (S0 : St) (a1 : Int) (a2 : Int) (a3 : Int) (a4 : Int) : Option (Int × St) := bd1 (mX12_isTerm S0 a1 a2) fun r_2 => gd (inI r_2) <| if r_2 = 0 then (some ((-2), S0)) else (bd1 (mX12_isKind S0 a3) fun r_6 => gd (inI r_6) <| if r_6 = 0 then (some ((-2), S0)) else (bd1 (mX12_isSize S0 a4) fun r_10 => gd (inI r_10) <| if r_10 = 0 then (some ((-2), S0)) else (bd2 (mX12_manyWithout S0 a1 a2 a3 a4) fun r_14 S_15 => some (r_14, S_15))))
set_option maxHeartbeats 4000000 in
set_option maxRecDepth 100000 in
theorem vX12_without (l : Launch) {D : va_G} {cy : Nat → ClassId} {b n : Nat} (hn : 102 ≤ n) {X : Nat → va_E} {S0 : St} (a1 : Int) (a2 : Int) (a3 : Int) (a4 : Int) {o1 : Int} {o2 : St} (hM : mX12_without S0 a1 a2 a3 a4 = some (o1, o2)) : gL l yX12_without cX12_without 5 7 0 0 D cy b n (enc b cy X S0) [.ref (b + 80), .int (iI a1), .int (iI a2), .int (iI a3), .int (iI a4)] (fun r u => r = jJ o1 ∧ u = (n, enc b cy X o2)) := by
  refine gL_of (by decide) (Nat.le_of_ble_eq_true rfl) ?_
  intro p e s m args below meth c S hr hlk hin hsz ls hl hG
  have hx := S.1
  have hb := S.2.1
  have hl : lv_has ls 5 [(0, .ref (b + 80)), (1, .int (iI a1)), (2, .int (iI a2)), (3, .int (iI a3)), (4, .int (iI a4))] := hl
  replace hG : gW D cy b n s s.heap [] (enc b cy X S0) := hG
  obtain ⟨H, eH⟩ : ∃ H, H = s.heap := ⟨_, rfl⟩
  obtain ⟨locs, elocs⟩ : ∃ locs : List Loc, locs = [] := ⟨_, rfl⟩
  rw [← eH, ← elocs] at hG
  rw [← eH, ← elocs]
  clear eH elocs
  unfold mX12_without at hM
  refine lv_aload_n hx hb dX12_without_0 rfl (lv_at hl 0 rfl) ?_
  refine lv_iload_n hx hb dX12_without_1 rfl (lv_at hl 1 rfl) ?_
  refine lv_iload_n hx hb dX12_without_2 rfl (lv_at hl 2 rfl) ?_
  obtain ⟨r_2, hc_1, hM⟩ := bd1_some hM
  refine g_vi (As := [.int (iI a1), .int (iI a2)]) (rest := []) S hG hsz (vX12_isTerm l hn a1 a2 hc_1) wV_12_344 (ec_83 _) cpX12 (Nat.lt_of_lt_of_le (Nat.le_of_ble_eq_true rfl) hn) dX12_without_3 rfl hl.1 (ar := 2) (by decide +kernel) rfl ⟨Nat.le_of_ble_eq_true rfl, Nat.le_of_ble_eq_true rfl, Nat.le_of_ble_eq_true rfl, Nat.le_of_ble_eq_true rfl⟩ (Nat.le_of_ble_eq_true rfl) (fun rv uu H locs hp hG => ?_)
  obtain ⟨rfl, rfl⟩ := hp
  replace hG : gW D cy b n s H locs (enc b cy X S0) := hG
  obtain ⟨hg_3, hM⟩ := gd_some hM
  refine gi_if_eq (tgt := 38) hx hb dX12_without_6 (by decide) hg_3 (fun c_4 => ?_) (fun c_4 => ?_)
  · replace hM := ifp hM c_4
    refine lv_ldc2 (v := -2) hx hb S.2.2.2.1 (S.2.2.2.2 _ wm_2101) dX12_without_38 ?_
    refine gj_as (-2) (by decide) ?_
    cases hM
    exact g_lret S hr hlk hG hsz dX12_without_41 ⟨Nat.le_of_ble_eq_true rfl, Nat.le_of_ble_eq_true rfl⟩ ⟨rfl, rfl⟩
  · replace hM := ifn hM c_4
    refine lv_aload_n hx hb dX12_without_9 rfl (lv_at hl 0 rfl) ?_
    refine lv_iload_n hx hb dX12_without_10 rfl (lv_at hl 3 rfl) ?_
    obtain ⟨r_6, hc_5, hM⟩ := bd1_some hM
    refine g_vi (As := [.int (iI a3)]) (rest := []) S hG hsz (vX12_isKind l hn a3 hc_5) wV_12_225 (ec_83 _) cpX12 (Nat.lt_of_lt_of_le (Nat.le_of_ble_eq_true rfl) hn) dX12_without_11 rfl hl.1 (ar := 1) (by decide +kernel) rfl ⟨Nat.le_of_ble_eq_true rfl, Nat.le_of_ble_eq_true rfl, Nat.le_of_ble_eq_true rfl, Nat.le_of_ble_eq_true rfl⟩ (Nat.le_of_ble_eq_true rfl) (fun rv uu H locs hp hG => ?_)
    obtain ⟨rfl, rfl⟩ := hp
    replace hG : gW D cy b n s H locs (enc b cy X S0) := hG
    obtain ⟨hg_7, hM⟩ := gd_some hM
    refine gi_if_eq (tgt := 38) hx hb dX12_without_14 (by decide) hg_7 (fun c_8 => ?_) (fun c_8 => ?_)
    · replace hM := ifp hM c_8
      refine lv_ldc2 (v := -2) hx hb S.2.2.2.1 (S.2.2.2.2 _ wm_2101) dX12_without_38 ?_
      refine gj_as (-2) (by decide) ?_
      cases hM
      exact g_lret S hr hlk hG hsz dX12_without_41 ⟨Nat.le_of_ble_eq_true rfl, Nat.le_of_ble_eq_true rfl⟩ ⟨rfl, rfl⟩
    · replace hM := ifn hM c_8
      refine lv_aload_n hx hb dX12_without_17 rfl (lv_at hl 0 rfl) ?_
      refine lv_iload hx hb dX12_without_18 (lv_at hl 4 rfl) ?_
      obtain ⟨r_10, hc_9, hM⟩ := bd1_some hM
      refine g_vi (As := [.int (iI a4)]) (rest := []) S hG hsz (vX12_isSize l hn a4 hc_9) wV_12_334 (ec_83 _) cpX12 (Nat.lt_of_lt_of_le (Nat.le_of_ble_eq_true rfl) hn) dX12_without_20 rfl hl.1 (ar := 1) (by decide +kernel) rfl ⟨Nat.le_of_ble_eq_true rfl, Nat.le_of_ble_eq_true rfl, Nat.le_of_ble_eq_true rfl, Nat.le_of_ble_eq_true rfl⟩ (Nat.le_of_ble_eq_true rfl) (fun rv uu H locs hp hG => ?_)
      obtain ⟨rfl, rfl⟩ := hp
      replace hG : gW D cy b n s H locs (enc b cy X S0) := hG
      obtain ⟨hg_11, hM⟩ := gd_some hM
      refine gi_if_eq (tgt := 38) hx hb dX12_without_23 (by decide) hg_11 (fun c_12 => ?_) (fun c_12 => ?_)
      · replace hM := ifp hM c_12
        refine lv_ldc2 (v := -2) hx hb S.2.2.2.1 (S.2.2.2.2 _ wm_2101) dX12_without_38 ?_
        refine gj_as (-2) (by decide) ?_
        cases hM
        exact g_lret S hr hlk hG hsz dX12_without_41 ⟨Nat.le_of_ble_eq_true rfl, Nat.le_of_ble_eq_true rfl⟩ ⟨rfl, rfl⟩
      · replace hM := ifn hM c_12
        refine lv_aload_n hx hb dX12_without_26 rfl (lv_at hl 0 rfl) ?_
        refine lv_iload_n hx hb dX12_without_27 rfl (lv_at hl 1 rfl) ?_
        refine lv_iload_n hx hb dX12_without_28 rfl (lv_at hl 2 rfl) ?_
        refine lv_iload_n hx hb dX12_without_29 rfl (lv_at hl 3 rfl) ?_
        refine lv_iload hx hb dX12_without_30 (lv_at hl 4 rfl) ?_
        obtain ⟨r_14, S_15, hc_13, hM⟩ := bd2_some hM
        refine g_vl (As := [.int (iI a1), .int (iI a2), .int (iI a3), .int (iI a4)]) (rest := []) S hG hsz (vX12_manyWithout l hn a1 a2 a3 a4 hc_13) wV_12_350 (ec_83 _) cpX12 (Nat.lt_of_lt_of_le (Nat.le_of_ble_eq_true rfl) hn) dX12_without_32 rfl hl.1 (ar := 4) (by decide +kernel) rfl ⟨Nat.le_of_ble_eq_true rfl, Nat.le_of_ble_eq_true rfl, Nat.le_of_ble_eq_true rfl, Nat.le_of_ble_eq_true rfl⟩ (Nat.le_of_ble_eq_true rfl) (fun rv uu H locs hp hG => ?_)
        obtain ⟨rfl, rfl⟩ := hp
        replace hG : gW D cy b n s H locs (enc b cy X S_15) := hG
        refine lv_goto (tgt := 41) hx hb dX12_without_35 (by decide) ?_
        cases hM
        exact g_lret S hr hlk hG hsz dX12_without_41 ⟨Nat.le_of_ble_eq_true rfl, Nat.le_of_ble_eq_true rfl⟩ ⟨rfl, rfl⟩
