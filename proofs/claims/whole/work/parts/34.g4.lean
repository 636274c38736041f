theorem dX11_shared_0 : decode cX11_shared 0 = .ok (.aload_n 0, 1) := by decide +kernel
theorem dX11_shared_1 : decode cX11_shared 1 = .ok (.iload_n 2, 1) := by decide +kernel
theorem dX11_shared_2 : decode cX11_shared 2 = .ok (.invokevirtual 168, 3) := by decide +kernel
theorem dX11_shared_5 : decode cX11_shared 5 = .ok (.ifCond .ne 6, 3) := by decide +kernel
theorem dX11_shared_11 : decode cX11_shared 11 = .ok (.aload_n 0, 1) := by decide +kernel
theorem dX11_shared_12 : decode cX11_shared 12 = .ok (.iload_n 1, 1) := by decide +kernel
theorem dX11_shared_13 : decode cX11_shared 13 = .ok (.iload_n 3, 1) := by decide +kernel
theorem dX11_shared_14 : decode cX11_shared 14 = .ok (.invokevirtual 251, 3) := by decide +kernel
theorem dX11_shared_17 : decode cX11_shared 17 = .ok (.istore 4, 2) := by decide +kernel
theorem dX11_shared_19 : decode cX11_shared 19 = .ok (.iload 4, 2) := by decide +kernel
theorem dX11_shared_21 : decode cX11_shared 21 = .ok (.ifCond .eq 6, 3) := by decide +kernel
theorem dX11_shared_27 : decode cX11_shared 27 = .ok (.aload_n 0, 1) := by decide +kernel
theorem dX11_shared_28 : decode cX11_shared 28 = .ok (.getfield 51, 3) := by decide +kernel
theorem dX11_shared_31 : decode cX11_shared 31 = .ok (.iload_n 1, 1) := by decide +kernel
theorem dX11_shared_32 : decode cX11_shared 32 = .ok (.iload_n 3, 1) := by decide +kernel
theorem dX11_shared_33 : decode cX11_shared 33 = .ok (.invokevirtual 206, 3) := by decide +kernel
theorem dX11_shared_36 : decode cX11_shared 36 = .ok (.l2i, 1) := by decide +kernel
theorem dX11_shared_37 : decode cX11_shared 37 = .ok (.istore 5, 2) := by decide +kernel
theorem dX11_shared_39 : decode cX11_shared 39 = .ok (.iconst 0, 1) := by decide +kernel
theorem dX11_shared_40 : decode cX11_shared 40 = .ok (.istore 6, 2) := by decide +kernel
theorem dX11_shared_42 : decode cX11_shared 42 = .ok (.iconst 0, 1) := by decide +kernel
theorem dX11_shared_43 : decode cX11_shared 43 = .ok (.istore 7, 2) := by decide +kernel
theorem dX11_shared_45 : decode cX11_shared 45 = .ok (.iload 7, 2) := by decide +kernel
theorem dX11_shared_47 : decode cX11_shared 47 = .ok (.iload 5, 2) := by decide +kernel
theorem dX11_shared_49 : decode cX11_shared 49 = .ok (.if_icmp .ge 53, 3) := by decide +kernel
theorem dX11_shared_52 : decode cX11_shared 52 = .ok (.aload_n 0, 1) := by decide +kernel
theorem dX11_shared_53 : decode cX11_shared 53 = .ok (.getfield 72, 3) := by decide +kernel
theorem dX11_shared_56 : decode cX11_shared 56 = .ok (.iload_n 1, 1) := by decide +kernel
theorem dX11_shared_57 : decode cX11_shared 57 = .ok (.iload_n 3, 1) := by decide +kernel
theorem dX11_shared_58 : decode cX11_shared 58 = .ok (.iload 7, 2) := by decide +kernel
theorem dX11_shared_60 : decode cX11_shared 60 = .ok (.aload_n 0, 1) := by decide +kernel
theorem dX11_shared_61 : decode cX11_shared 61 = .ok (.getfield 111, 3) := by decide +kernel
theorem dX11_shared_64 : decode cX11_shared 64 = .ok (.invokevirtual 255, 3) := by decide +kernel
theorem dX11_shared_67 : decode cX11_shared 67 = .ok (.aload_n 0, 1) := by decide +kernel
theorem dX11_shared_68 : decode cX11_shared 68 = .ok (.getfield 79, 3) := by decide +kernel
theorem dX11_shared_71 : decode cX11_shared 71 = .ok (.iload_n 2, 1) := by decide +kernel
theorem dX11_shared_72 : decode cX11_shared 72 = .ok (.aload_n 0, 1) := by decide +kernel
theorem dX11_shared_73 : decode cX11_shared 73 = .ok (.getfield 72, 3) := by decide +kernel
theorem dX11_shared_76 : decode cX11_shared 76 = .ok (.getfield 299, 3) := by decide +kernel
theorem wm_499 : (Jvm.Cond.fieldLink "GrownKinds" (299 : Nat) "GrownKinds$Speller" "text" "[B") ∈ gT := gT_in (List.mem_of_getElem? (i := 499) (by decide +kernel)) (by decide +kernel)
theorem dX11_shared_79 : decode cX11_shared 79 = .ok (.aload_n 0, 1) := by decide +kernel
theorem dX11_shared_80 : decode cX11_shared 80 = .ok (.getfield 72, 3) := by decide +kernel
theorem dX11_shared_83 : decode cX11_shared 83 = .ok (.getfield 263, 3) := by decide +kernel
theorem dX11_shared_86 : decode cX11_shared 86 = .ok (.invokevirtual 284, 3) := by decide +kernel
theorem wm_1454 : (Jvm.Cond.methodLink "GrownKinds" (284 : Nat) ({ cls := "GrownKinds$ThingReader", name := "read", desc := "(I[BI)I" } : Jvm.MethodName)) ∈ gT := gT_in (List.mem_of_getElem? (i := 1454) (by decide +kernel)) (by decide +kernel)
theorem wm_1455 : (Jvm.Cond.instanceMethod ({ cls := "GrownKinds$ThingReader", name := "read", desc := "(I[BI)I" } : Jvm.MethodName)) ∈ gT := gT_in (List.mem_of_getElem? (i := 1455) (by decide +kernel)) (by decide +kernel)
theorem wm_1456 : (Jvm.Cond.selects "GrownKinds$ThingReader" ({ cls := "GrownKinds$ThingReader", name := "read", desc := "(I[BI)I" } : Jvm.MethodName) ({ cls := "GrownKinds$ThingReader", name := "read", desc := "(I[BI)I" } : Jvm.MethodName)) ∈ gT := gT_in (List.mem_of_getElem? (i := 1456) (by decide +kernel)) (by decide +kernel)
theorem wm_1457 : (Jvm.Cond.code ({ cls := "GrownKinds$ThingReader", name := "read", desc := "(I[BI)I" } : Jvm.MethodName) prog_12_method_2_code (6 : Nat) (Option.some Jvm.ClassFile.FieldType.int)) ∈ gT := gT_in (List.mem_of_getElem? (i := 1457) (by decide +kernel)) (by decide +kernel)
theorem dX11_shared_89 : decode cX11_shared 89 = .ok (.iconst (-1), 1) := by decide +kernel
theorem dX11_shared_90 : decode cX11_shared 90 = .ok (.if_icmp .eq 6, 3) := by decide +kernel
theorem dX11_shared_96 : decode cX11_shared 96 = .ok (.iinc 7 1, 3) := by decide +kernel
theorem dX11_shared_99 : decode cX11_shared 99 = .ok (.goto (-54), 3) := by decide +kernel
theorem dX11_shared_93 : decode cX11_shared 93 = .ok (.iinc 6 1, 3) := by decide +kernel
theorem dX11_shared_102 : decode cX11_shared 102 = .ok (.iload 6, 2) := by decide +kernel
theorem dX11_shared_104 : decode cX11_shared 104 = .ok (.ireturn, 1) := by decide +kernel
theorem dX11_shared_24 : decode cX11_shared 24 = .ok (.iload 4, 2) := by decide +kernel
theorem dX11_shared_26 : decode cX11_shared 26 = .ok (.ireturn, 1) := by decide +kernel
theorem dX11_shared_8 : decode cX11_shared 8 = .ok (.bipush (-2), 2) := by decide +kernel
theorem dX11_shared_10 : decode cX11_shared 10 = .ok (.ireturn, 1) := by decide +kernel
theorem dX11_rankOfRead_0 : decode cX11_rankOfRead 0 = .ok (.iconst 0, 1) := by decide +kernel
theorem dX11_rankOfRead_1 : decode cX11_rankOfRead 1 = .ok (.istore 4, 2) := by decide +kernel
theorem dX11_rankOfRead_3 : decode cX11_rankOfRead 3 = .ok (.iconst 0, 1) := by decide +kernel
theorem dX11_rankOfRead_4 : decode cX11_rankOfRead 4 = .ok (.istore 5, 2) := by decide +kernel
theorem dX11_rankOfRead_6 : decode cX11_rankOfRead 6 = .ok (.iload 5, 2) := by decide +kernel
theorem dX11_rankOfRead_8 : decode cX11_rankOfRead 8 = .ok (.iload_n 3, 1) := by decide +kernel
theorem dX11_rankOfRead_9 : decode cX11_rankOfRead 9 = .ok (.if_icmp .ge 48, 3) := by decide +kernel
theorem dX11_rankOfRead_12 : decode cX11_rankOfRead 12 = .ok (.iload 5, 2) := by decide +kernel
theorem dX11_rankOfRead_14 : decode cX11_rankOfRead 14 = .ok (.bipush 40, 2) := by decide +kernel
theorem dX11_rankOfRead_16 : decode cX11_rankOfRead 16 = .ok (.if_icmp .ge 41, 3) := by decide +kernel
theorem dX11_rankOfRead_19 : decode cX11_rankOfRead 19 = .ok (.aload_n 0, 1) := by decide +kernel
theorem dX11_rankOfRead_20 : decode cX11_rankOfRead 20 = .ok (.getfield 101, 3) := by decide +kernel
theorem dX11_rankOfRead_23 : decode cX11_rankOfRead 23 = .ok (.iload 5, 2) := by decide +kernel
theorem dX11_rankOfRead_25 : decode cX11_rankOfRead 25 = .ok (.aload_n 0, 1) := by decide +kernel
theorem dX11_rankOfRead_26 : decode cX11_rankOfRead 26 = .ok (.getfield 79, 3) := by decide +kernel
theorem dX11_rankOfRead_29 : decode cX11_rankOfRead 29 = .ok (.getfield 290, 3) := by decide +kernel
theorem wm_559 : (Jvm.Cond.fieldLink "GrownKinds" (290 : Nat) "GrownKinds$ThingReader" "text" "[B") ∈ gT := gT_in (List.mem_of_getElem? (i := 559) (by decide +kernel)) (by decide +kernel)
theorem dX11_rankOfRead_32 : decode cX11_rankOfRead 32 = .ok (.iload 5, 2) := by decide +kernel
theorem dX11_rankOfRead_34 : decode cX11_rankOfRead 34 = .ok (.baload, 1) := by decide +kernel
theorem dX11_rankOfRead_35 : decode cX11_rankOfRead 35 = .ok (.bastore, 1) := by decide +kernel
theorem dX11_rankOfRead_36 : decode cX11_rankOfRead 36 = .ok (.iload 4, 2) := by decide +kernel
theorem dX11_rankOfRead_38 : decode cX11_rankOfRead 38 = .ok (.aload_n 0, 1) := by decide +kernel
theorem dX11_rankOfRead_39 : decode cX11_rankOfRead 39 = .ok (.getfield 101, 3) := by decide +kernel
theorem dX11_rankOfRead_42 : decode cX11_rankOfRead 42 = .ok (.iload 5, 2) := by decide +kernel
theorem dX11_rankOfRead_44 : decode cX11_rankOfRead 44 = .ok (.baload, 1) := by decide +kernel
theorem dX11_rankOfRead_45 : decode cX11_rankOfRead 45 = .ok (.invokestatic 293, 3) := by decide +kernel
theorem wm_1521 : (Jvm.Cond.methodLink "GrownKinds" (293 : Nat) ({ cls := "GrownKinds$Speller", name := "weightOf", desc := "(I)I" } : Jvm.MethodName)) ∈ gT := gT_in (List.mem_of_getElem? (i := 1521) (by decide +kernel)) (by decide +kernel)
theorem dX11_rankOfRead_48 : decode cX11_rankOfRead 48 = .ok (.iadd, 1) := by decide +kernel
theorem dX11_rankOfRead_49 : decode cX11_rankOfRead 49 = .ok (.istore 4, 2) := by decide +kernel
theorem dX11_rankOfRead_51 : decode cX11_rankOfRead 51 = .ok (.iinc 5 1, 3) := by decide +kernel
theorem dX11_rankOfRead_54 : decode cX11_rankOfRead 54 = .ok (.goto (-48), 3) := by decide +kernel
theorem dX11_rankOfRead_57 : decode cX11_rankOfRead 57 = .ok (.iconst 0, 1) := by decide +kernel
theorem dX11_rankOfRead_58 : decode cX11_rankOfRead 58 = .ok (.istore 5, 2) := by decide +kernel
theorem dX11_rankOfRead_60 : decode cX11_rankOfRead 60 = .ok (.aload_n 0, 1) := by decide +kernel
theorem dX11_rankOfRead_61 : decode cX11_rankOfRead 61 = .ok (.getfield 51, 3) := by decide +kernel
theorem dX11_rankOfRead_64 : decode cX11_rankOfRead 64 = .ok (.iload_n 1, 1) := by decide +kernel
theorem dX11_rankOfRead_65 : decode cX11_rankOfRead 65 = .ok (.iload_n 2, 1) := by decide +kernel
theorem dX11_rankOfRead_66 : decode cX11_rankOfRead 66 = .ok (.invokevirtual 206, 3) := by decide +kernel
theorem dX11_rankOfRead_69 : decode cX11_rankOfRead 69 = .ok (.l2i, 1) := by decide +kernel
theorem dX11_rankOfRead_70 : decode cX11_rankOfRead 70 = .ok (.istore 6, 2) := by decide +kernel
theorem dX11_rankOfRead_72 : decode cX11_rankOfRead 72 = .ok (.iconst 0, 1) := by decide +kernel
theorem dX11_rankOfRead_73 : decode cX11_rankOfRead 73 = .ok (.istore 7, 2) := by decide +kernel
theorem dX11_rankOfRead_75 : decode cX11_rankOfRead 75 = .ok (.aload_n 0, 1) := by decide +kernel
theorem dX11_rankOfRead_76 : decode cX11_rankOfRead 76 = .ok (.getfield 20, 3) := by decide +kernel
theorem dX11_rankOfRead_79 : decode cX11_rankOfRead 79 = .ok (.getfield 172, 3) := by decide +kernel
theorem dX11_rankOfRead_82 : decode cX11_rankOfRead 82 = .ok (.iload_n 1, 1) := by decide +kernel
theorem dX11_rankOfRead_83 : decode cX11_rankOfRead 83 = .ok (.iaload, 1) := by decide +kernel
theorem dX11_rankOfRead_84 : decode cX11_rankOfRead 84 = .ok (.iconst 1, 1) := by decide +kernel
theorem dX11_rankOfRead_85 : decode cX11_rankOfRead 85 = .ok (.if_icmp .le 68, 3) := by decide +kernel
theorem dX11_rankOfRead_88 : decode cX11_rankOfRead 88 = .ok (.iload 7, 2) := by decide +kernel
theorem dX11_rankOfRead_90 : decode cX11_rankOfRead 90 = .ok (.aload_n 0, 1) := by decide +kernel
theorem dX11_rankOfRead_91 : decode cX11_rankOfRead 91 = .ok (.getfield 101, 3) := by decide +kernel
theorem dX11_rankOfRead_94 : decode cX11_rankOfRead 94 = .ok (.iconst 0, 1) := by decide +kernel
theorem dX11_rankOfRead_95 : decode cX11_rankOfRead 95 = .ok (.baload, 1) := by decide +kernel
theorem dX11_rankOfRead_96 : decode cX11_rankOfRead 96 = .ok (.bipush 48, 2) := by decide +kernel
theorem dX11_rankOfRead_98 : decode cX11_rankOfRead 98 = .ok (.isub, 1) := by decide +kernel
theorem dX11_rankOfRead_99 : decode cX11_rankOfRead 99 = .ok (.if_icmp .gt 54, 3) := by decide +kernel
theorem dX11_rankOfRead_102 : decode cX11_rankOfRead 102 = .ok (.iload 7, 2) := by decide +kernel
theorem dX11_rankOfRead_104 : decode cX11_rankOfRead 104 = .ok (.ifCond .ne 7, 3) := by decide +kernel
theorem dX11_rankOfRead_111 : decode cX11_rankOfRead 111 = .ok (.iload 5, 2) := by decide +kernel
theorem dX11_rankOfRead_113 : decode cX11_rankOfRead 113 = .ok (.aload_n 0, 1) := by decide +kernel
theorem dX11_rankOfRead_114 : decode cX11_rankOfRead 114 = .ok (.getfield 51, 3) := by decide +kernel
theorem dX11_rankOfRead_117 : decode cX11_rankOfRead 117 = .ok (.iload_n 1, 1) := by decide +kernel
theorem dX11_rankOfRead_118 : decode cX11_rankOfRead 118 = .ok (.iload 7, 2) := by decide +kernel
theorem dX11_rankOfRead_120 : decode cX11_rankOfRead 120 = .ok (.iconst 1, 1) := by decide +kernel
theorem dX11_rankOfRead_121 : decode cX11_rankOfRead 121 = .ok (.isub, 1) := by decide +kernel
theorem dX11_rankOfRead_122 : decode cX11_rankOfRead 122 = .ok (.iload_n 2, 1) := by decide +kernel
theorem dX11_rankOfRead_123 : decode cX11_rankOfRead 123 = .ok (.invokevirtual 231, 3) := by decide +kernel
theorem dX11_rankOfRead_126 : decode cX11_rankOfRead 126 = .ok (.l2i, 1) := by decide +kernel
theorem dX11_rankOfRead_127 : decode cX11_rankOfRead 127 = .ok (.iadd, 1) := by decide +kernel
theorem dX11_rankOfRead_107 : decode cX11_rankOfRead 107 = .ok (.iconst 0, 1) := by decide +kernel
theorem dX11_rankOfRead_108 : decode cX11_rankOfRead 108 = .ok (.goto 20, 3) := by decide +kernel
theorem dX11_rankOfRead_128 : decode cX11_rankOfRead 128 = .ok (.istore 5, 2) := by decide +kernel
theorem dX11_rankOfRead_130 : decode cX11_rankOfRead 130 = .ok (.iload 5, 2) := by decide +kernel
theorem dX11_rankOfRead_132 : decode cX11_rankOfRead 132 = .ok (.aload_n 0, 1) := by decide +kernel
theorem dX11_rankOfRead_133 : decode cX11_rankOfRead 133 = .ok (.getfield 51, 3) := by decide +kernel
theorem dX11_rankOfRead_136 : decode cX11_rankOfRead 136 = .ok (.iload_n 1, 1) := by decide +kernel
theorem dX11_rankOfRead_137 : decode cX11_rankOfRead 137 = .ok (.iload 7, 2) := by decide +kernel
theorem dX11_rankOfRead_139 : decode cX11_rankOfRead 139 = .ok (.iload_n 2, 1) := by decide +kernel
theorem dX11_rankOfRead_140 : decode cX11_rankOfRead 140 = .ok (.invokevirtual 231, 3) := by decide +kernel
theorem dX11_rankOfRead_143 : decode cX11_rankOfRead 143 = .ok (.l2i, 1) := by decide +kernel
theorem dX11_rankOfRead_144 : decode cX11_rankOfRead 144 = .ok (.iadd, 1) := by decide +kernel
theorem dX11_rankOfRead_145 : decode cX11_rankOfRead 145 = .ok (.istore 6, 2) := by decide +kernel
theorem dX11_rankOfRead_147 : decode cX11_rankOfRead 147 = .ok (.iinc 7 1, 3) := by decide +kernel
theorem dX11_rankOfRead_150 : decode cX11_rankOfRead 150 = .ok (.goto (-75), 3) := by decide +kernel
theorem dX11_rankOfRead_153 : decode cX11_rankOfRead 153 = .ok (.iload 5, 2) := by decide +kernel
theorem dX11_rankOfRead_155 : decode cX11_rankOfRead 155 = .ok (.istore 7, 2) := by decide +kernel
theorem dX11_rankOfRead_157 : decode cX11_rankOfRead 157 = .ok (.iload 7, 2) := by decide +kernel
theorem dX11_rankOfRead_159 : decode cX11_rankOfRead 159 = .ok (.iload 6, 2) := by decide +kernel
theorem dX11_rankOfRead_161 : decode cX11_rankOfRead 161 = .ok (.if_icmp .ge 85, 3) := by decide +kernel
theorem dX11_rankOfRead_164 : decode cX11_rankOfRead 164 = .ok (.aload_n 0, 1) := by decide +kernel
theorem dX11_rankOfRead_165 : decode cX11_rankOfRead 165 = .ok (.getfield 72, 3) := by decide +kernel
theorem dX11_rankOfRead_168 : decode cX11_rankOfRead 168 = .ok (.iload_n 1, 1) := by decide +kernel
theorem dX11_rankOfRead_169 : decode cX11_rankOfRead 169 = .ok (.iload_n 2, 1) := by decide +kernel
theorem dX11_rankOfRead_170 : decode cX11_rankOfRead 170 = .ok (.iload 7, 2) := by decide +kernel
theorem dX11_rankOfRead_172 : decode cX11_rankOfRead 172 = .ok (.aload_n 0, 1) := by decide +kernel
theorem dX11_rankOfRead_173 : decode cX11_rankOfRead 173 = .ok (.getfield 111, 3) := by decide +kernel
theorem dX11_rankOfRead_176 : decode cX11_rankOfRead 176 = .ok (.invokevirtual 255, 3) := by decide +kernel
theorem dX11_rankOfRead_179 : decode cX11_rankOfRead 179 = .ok (.aload_n 0, 1) := by decide +kernel
theorem dX11_rankOfRead_180 : decode cX11_rankOfRead 180 = .ok (.getfield 72, 3) := by decide +kernel
theorem dX11_rankOfRead_183 : decode cX11_rankOfRead 183 = .ok (.getfield 263, 3) := by decide +kernel
theorem dX11_rankOfRead_186 : decode cX11_rankOfRead 186 = .ok (.iload_n 3, 1) := by decide +kernel
theorem dX11_rankOfRead_187 : decode cX11_rankOfRead 187 = .ok (.if_icmp .ne 53, 3) := by decide +kernel
theorem dX11_rankOfRead_240 : decode cX11_rankOfRead 240 = .ok (.iinc 7 1, 3) := by decide +kernel
theorem dX11_rankOfRead_243 : decode cX11_rankOfRead 243 = .ok (.goto (-86), 3) := by decide +kernel
theorem dX11_rankOfRead_190 : decode cX11_rankOfRead 190 = .ok (.aload_n 0, 1) := by decide +kernel
theorem dX11_rankOfRead_191 : decode cX11_rankOfRead 191 = .ok (.getfield 72, 3) := by decide +kernel
theorem dX11_rankOfRead_194 : decode cX11_rankOfRead 194 = .ok (.getfield 296, 3) := by decide +kernel
theorem wm_511 : (Jvm.Cond.fieldLink "GrownKinds" (296 : Nat) "GrownKinds$Speller" "weight" "I") ∈ gT := gT_in (List.mem_of_getElem? (i := 511) (by decide +kernel)) (by decide +kernel)
theorem dX11_rankOfRead_197 : decode cX11_rankOfRead 197 = .ok (.iload 4, 2) := by decide +kernel
theorem dX11_rankOfRead_199 : decode cX11_rankOfRead 199 = .ok (.if_icmp .ne 41, 3) := by decide +kernel
theorem dX11_rankOfRead_202 : decode cX11_rankOfRead 202 = .ok (.aload_n 0, 1) := by decide +kernel
theorem dX11_rankOfRead_203 : decode cX11_rankOfRead 203 = .ok (.getfield 79, 3) := by decide +kernel
theorem dX11_rankOfRead_206 : decode cX11_rankOfRead 206 = .ok (.iload_n 1, 1) := by decide +kernel
theorem dX11_rankOfRead_207 : decode cX11_rankOfRead 207 = .ok (.aload_n 0, 1) := by decide +kernel
theorem dX11_rankOfRead_208 : decode cX11_rankOfRead 208 = .ok (.getfield 72, 3) := by decide +kernel
theorem dX11_rankOfRead_211 : decode cX11_rankOfRead 211 = .ok (.getfield 299, 3) := by decide +kernel
theorem dX11_rankOfRead_214 : decode cX11_rankOfRead 214 = .ok (.iload_n 3, 1) := by decide +kernel
theorem dX11_rankOfRead_215 : decode cX11_rankOfRead 215 = .ok (.invokevirtual 284, 3) := by decide +kernel
theorem dX11_rankOfRead_218 : decode cX11_rankOfRead 218 = .ok (.iload_n 2, 1) := by decide +kernel
theorem dX11_rankOfRead_219 : decode cX11_rankOfRead 219 = .ok (.if_icmp .ne 21, 3) := by decide +kernel
theorem dX11_rankOfRead_222 : decode cX11_rankOfRead 222 = .ok (.aload_n 0, 1) := by decide +kernel
theorem dX11_rankOfRead_223 : decode cX11_rankOfRead 223 = .ok (.getfield 79, 3) := by decide +kernel
theorem dX11_rankOfRead_226 : decode cX11_rankOfRead 226 = .ok (.aload_n 0, 1) := by decide +kernel
theorem dX11_rankOfRead_227 : decode cX11_rankOfRead 227 = .ok (.getfield 101, 3) := by decide +kernel
theorem dX11_rankOfRead_230 : decode cX11_rankOfRead 230 = .ok (.iload_n 3, 1) := by decide +kernel
theorem dX11_rankOfRead_231 : decode cX11_rankOfRead 231 = .ok (.invokevirtual 300, 3) := by decide +kernel
theorem wm_1522 : (Jvm.Cond.methodLink "GrownKinds" (300 : Nat) ({ cls := "GrownKinds$ThingReader", name := "holds", desc := "([BI)Z" } : Jvm.MethodName)) ∈ gT := gT_in (List.mem_of_getElem? (i := 1522) (by decide +kernel)) (by decide +kernel)
theorem wm_1523 : (Jvm.Cond.instanceMethod ({ cls := "GrownKinds$ThingReader", name := "holds", desc := "([BI)Z" } : Jvm.MethodName)) ∈ gT := gT_in (List.mem_of_getElem? (i := 1523) (by decide +kernel)) (by decide +kernel)
theorem wm_1524 : (Jvm.Cond.selects "GrownKinds$ThingReader" ({ cls := "GrownKinds$ThingReader", name := "holds", desc := "([BI)Z" } : Jvm.MethodName) ({ cls := "GrownKinds$ThingReader", name := "holds", desc := "([BI)Z" } : Jvm.MethodName)) ∈ gT := gT_in (List.mem_of_getElem? (i := 1524) (by decide +kernel)) (by decide +kernel)
theorem wm_1525 : (Jvm.Cond.code ({ cls := "GrownKinds$ThingReader", name := "holds", desc := "([BI)Z" } : Jvm.MethodName) prog_12_method_3_code (4 : Nat) (Option.some Jvm.ClassFile.FieldType.boolean)) ∈ gT := gT_in (List.mem_of_getElem? (i := 1525) (by decide +kernel)) (by decide +kernel)
theorem dX11_rankOfRead_234 : decode cX11_rankOfRead 234 = .ok (.ifCond .eq 6, 3) := by decide +kernel
theorem dX11_rankOfRead_237 : decode cX11_rankOfRead 237 = .ok (.iload 7, 2) := by decide +kernel
theorem dX11_rankOfRead_239 : decode cX11_rankOfRead 239 = .ok (.ireturn, 1) := by decide +kernel
theorem dX11_rankOfRead_246 : decode cX11_rankOfRead 246 = .ok (.iconst (-1), 1) := by decide +kernel
theorem dX11_rankOfRead_247 : decode cX11_rankOfRead 247 = .ok (.ireturn, 1) := by decide +kernel
theorem dX11_tells_0 : decode cX11_tells 0 = .ok (.aload_n 0, 1) := by decide +kernel
theorem dX11_tells_1 : decode cX11_tells 1 = .ok (.iload_n 1, 1) := by decide +kernel
theorem dX11_tells_2 : decode cX11_tells 2 = .ok (.invokevirtual 168, 3) := by decide +kernel
theorem dX11_tells_5 : decode cX11_tells 5 = .ok (.ifCond .ne 6, 3) := by decide +kernel
theorem dX11_tells_11 : decode cX11_tells 11 = .ok (.aload_n 0, 1) := by decide +kernel
theorem dX11_tells_12 : decode cX11_tells 12 = .ok (.getfield 13, 3) := by decide +kernel
theorem dX11_tells_15 : decode cX11_tells 15 = .ok (.istore_n 2, 1) := by decide +kernel
theorem dX11_tells_16 : decode cX11_tells 16 = .ok (.aload_n 0, 1) := by decide +kernel
theorem dX11_tells_17 : decode cX11_tells 17 = .ok (.iconst 0, 1) := by decide +kernel
theorem dX11_tells_18 : decode cX11_tells 18 = .ok (.putfield 13, 3) := by decide +kernel
theorem dX11_tells_21 : decode cX11_tells 21 = .ok (.aload_n 0, 1) := by decide +kernel
theorem dX11_tells_22 : decode cX11_tells 22 = .ok (.getfield 79, 3) := by decide +kernel
theorem dX11_tells_25 : decode cX11_tells 25 = .ok (.iload_n 1, 1) := by decide +kernel
theorem dX11_tells_26 : decode cX11_tells 26 = .ok (.aload_n 0, 1) := by decide +kernel
theorem dX11_tells_27 : decode cX11_tells 27 = .ok (.getfield 9, 3) := by decide +kernel
theorem dX11_tells_30 : decode cX11_tells 30 = .ok (.iload_n 2, 1) := by decide +kernel
theorem dX11_tells_31 : decode cX11_tells 31 = .ok (.invokevirtual 284, 3) := by decide +kernel
theorem dX11_tells_34 : decode cX11_tells 34 = .ok (.istore_n 3, 1) := by decide +kernel
theorem dX11_tells_35 : decode cX11_tells 35 = .ok (.iload_n 3, 1) := by decide +kernel
theorem dX11_tells_36 : decode cX11_tells 36 = .ok (.iconst (-1), 1) := by decide +kernel
theorem dX11_tells_37 : decode cX11_tells 37 = .ok (.if_icmp .ne 6, 3) := by decide +kernel
theorem dX11_tells_43 : decode cX11_tells 43 = .ok (.aload_n 0, 1) := by decide +kernel
theorem dX11_tells_44 : decode cX11_tells 44 = .ok (.getfield 51, 3) := by decide +kernel
theorem dX11_tells_47 : decode cX11_tells 47 = .ok (.iload_n 1, 1) := by decide +kernel
theorem dX11_tells_48 : decode cX11_tells 48 = .ok (.iload_n 3, 1) := by decide +kernel
theorem dX11_tells_49 : decode cX11_tells 49 = .ok (.invokevirtual 206, 3) := by decide +kernel
theorem dX11_tells_52 : decode cX11_tells 52 = .ok (.ldc2_w 249, 3) := by decide +kernel
theorem dX11_tells_55 : decode cX11_tells 55 = .ok (.lcmp, 1) := by decide +kernel
theorem dX11_tells_56 : decode cX11_tells 56 = .ok (.ifCond .le 6, 3) := by decide +kernel
theorem dX11_tells_62 : decode cX11_tells 62 = .ok (.aload_n 0, 1) := by decide +kernel
theorem dX11_tells_63 : decode cX11_tells 63 = .ok (.iload_n 1, 1) := by decide +kernel
theorem dX11_tells_64 : decode cX11_tells 64 = .ok (.iload_n 3, 1) := by decide +kernel
theorem dX11_tells_65 : decode cX11_tells 65 = .ok (.iload_n 2, 1) := by decide +kernel
theorem dX11_tells_66 : decode cX11_tells 66 = .ok (.invokevirtual 287, 3) := by decide +kernel
theorem wm_1517 : (Jvm.Cond.methodLink "GrownKinds" (287 : Nat) ({ cls := "GrownKinds", name := "rankOfRead", desc := "(III)I" } : Jvm.MethodName)) ∈ gT := gT_in (List.mem_of_getElem? (i := 1517) (by decide +kernel)) (by decide +kernel)
theorem wm_1519 : (Jvm.Cond.instanceMethod ({ cls := "GrownKinds", name := "rankOfRead", desc := "(III)I" } : Jvm.MethodName)) ∈ gT := gT_in (List.mem_of_getElem? (i := 1519) (by decide +kernel)) (by decide +kernel)
theorem wm_82 : Cond.selects "GrownKinds" ⟨"GrownKinds", "rankOfRead", "(III)I"⟩ ⟨"GrownKinds", "rankOfRead", "(III)I"⟩ ∈ gT := gT_in (List.mem_of_getElem? (i := 82) (by decide +kernel)) (by decide +kernel)
theorem wm_1520 : (Jvm.Cond.code ({ cls := "GrownKinds", name := "rankOfRead", desc := "(III)I" } : Jvm.MethodName) prog_1_method_42_code (8 : Nat) (Option.some Jvm.ClassFile.FieldType.int)) ∈ gT := gT_in (List.mem_of_getElem? (i := 1520) (by decide +kernel)) (by decide +kernel)
theorem dX11_tells_69 : decode cX11_tells 69 = .ok (.istore 4, 2) := by decide +kernel
theorem dX11_tells_71 : decode cX11_tells 71 = .ok (.iload 4, 2) := by decide +kernel
theorem dX11_tells_73 : decode cX11_tells 73 = .ok (.iconst (-1), 1) := by decide +kernel
theorem dX11_tells_74 : decode cX11_tells 74 = .ok (.if_icmp .ne 6, 3) := by decide +kernel
theorem dX11_tells_80 : decode cX11_tells 80 = .ok (.aload_n 0, 1) := by decide +kernel
theorem dX11_tells_81 : decode cX11_tells 81 = .ok (.iload_n 3, 1) := by decide +kernel
theorem dX11_tells_82 : decode cX11_tells 82 = .ok (.putfield 114, 3) := by decide +kernel
theorem dX11_tells_85 : decode cX11_tells 85 = .ok (.aload_n 0, 1) := by decide +kernel
theorem dX11_tells_86 : decode cX11_tells 86 = .ok (.iload 4, 2) := by decide +kernel
theorem dX11_tells_88 : decode cX11_tells 88 = .ok (.putfield 117, 3) := by decide +kernel
theorem dX11_tells_91 : decode cX11_tells 91 = .ok (.iload 4, 2) := by decide +kernel
theorem dX11_tells_93 : decode cX11_tells 93 = .ok (.ireturn, 1) := by decide +kernel
theorem dX11_tells_77 : decode cX11_tells 77 = .ok (.bipush (-4), 2) := by decide +kernel
theorem dX11_tells_79 : decode cX11_tells 79 = .ok (.ireturn, 1) := by decide +kernel
theorem dX11_tells_59 : decode cX11_tells 59 = .ok (.bipush (-3), 2) := by decide +kernel
theorem dX11_tells_61 : decode cX11_tells 61 = .ok (.ireturn, 1) := by decide +kernel
theorem dX11_tells_40 : decode cX11_tells 40 = .ok (.bipush (-4), 2) := by decide +kernel
theorem dX11_tells_42 : decode cX11_tells 42 = .ok (.ireturn, 1) := by decide +kernel
theorem dX11_tells_8 : decode cX11_tells 8 = .ok (.bipush (-2), 2) := by decide +kernel
theorem dX11_tells_10 : decode cX11_tells 10 = .ok (.ireturn, 1) := by decide +kernel
theorem wV_11_284 : gWV "GrownKinds" 284 yX10_read cX10_read 6 (some .int) := ⟨wm_1454, wm_1455, wm_1456, wm_185, wm_1457, by decide +kernel, by decide +kernel⟩
def mX10_read_67_dB_73  : Nat → Int → St → Option (St)
  | 0, _, _ => none
  | f + 1, v_19, S_20 => gd (inI v_19) <| if 100000 ≤ v_19 then (some (S_20)) else (gd (inI (S_20 67 6)) <| if (S_20 67 6) = 0 then (some (S_20)) else (gd (inI (S_20 67 8)) <| if (S_20 67 8) ≤ 0 then (some (S_20)) else (nx (up S_20 67 8 ((S_20 67 8) - 1)) fun S_39 => gd (0 ≤ (S_39 67 8) ∧ (S_39 67 8) < 40) <| nx (S_39 70 (S_39 67 8)) fun x_41 => gd (inI x_41) <| if 0 ≤ x_41 then (bd1 (mX10_readPart S_39 x_41) fun S_45 => nx (msk S_45 S_39) fun S_46 => mX10_read_67_dB_73 f (v_19 + 1) S_46) else (bd1 (mX10_goOn S_39 ((-x_41) - 1)) fun S_48 => nx (msk S_48 S_39) fun S_49 => mX10_read_67_dB_73 f (v_19 + 1) S_49))))
def mX10_read_67_dB (S0 : St) (a1 : Int) (a2 : Int) (a3 : Int) : Option (Int × St) := entG S0 (fun o : Int × St => o.2) (gd (inI a3) <| if a3 < 1 then (some ((-1), S0)) else (if 40 < a3 then (some ((-1), S0)) else (gd (dB S0 a2 ∧ 0 ≤ dlen S0 a2) <| gd (inI (dlen S0 a2)) <| if a3 ≤ (dlen S0 a2) then (gd (((0 : Int) ≤ 0 ∧ (0 : Int) ≤ 0 ∧ 0 ≤ a3 ∧ 0 + a3 ≤ dlen S0 a2 ∧ 0 + a3 ≤ (40 : Nat)) ∧ (dlen S0 a2 ≤ 2147483647 ∧ (40 : Nat) ≤ 2147483647) ∧ (∀ q : Nat, q < Int.toNat a3 → -128 ≤ S0 (Int.toNat a2) (0 + q) ∧ S0 (Int.toNat a2) (0 + q) ≤ 127)) <| nx (cpyD S0 a2 68 0 0 a3) fun S_8 => nx (up S_8 67 3 a3) fun S_9 => nx (up S_9 67 4 0) fun S_10 => nx (up S_10 67 5 0) fun S_11 => nx (up S_11 67 6 1) fun S_12 => nx (up S_12 67 8 0) fun S_13 => nx (up S_13 67 10 0) fun S_14 => nx (up S_14 67 12 0) fun S_15 => bd1 (mX10_readExpr S_15 a1) fun S_17 => nx (msk S_17 S_15) fun S_18 => bd1 (mX10_read_67_dB_73 FU 0 S_18) fun S_21 => gd (inI (S_21 67 6)) <| if (S_21 67 6) = 0 then (some ((-1), S_21)) else (gd (inI (S_21 67 8)) <| if (S_21 67 8) = 0 then (gd ((inI (S_21 67 4)) ∧ (inI (S_21 67 3))) <| if (S_21 67 4) = (S_21 67 3) then (some ((S_21 67 5), S_21)) else (some ((-1), S_21))) else (some ((-1), S_21)))) else (some ((-1), S0)))))
set_option maxHeartbeats 4000000 in
set_option maxRecDepth 100000 in
theorem vX10_read_67_dB (l : Launch) {D : va_G} {cy : Nat → ClassId} {b : Nat} {S0 : St} (hn : 102 ≤ nn S0 - 3) (a1 : Int) (a2 : Int) (a3 : Int) {o1 : Int} {o2 : St} (hM : mX10_read_67_dB S0 a1 a2 a3 = some (o1, o2)) : gI l yX10_read cX10_read 6 (some .int) 5 (nn o2 - nn S0) (zz o2 - zz S0) D cy b (nn S0 - 3) (eG b cy S0) [.ref (b + 65), .int (iI a1), .ref (b + ph (Int.toNat a2)), .int (iI a3)] (fun r u => r = iI o1 ∧ u = (nn o2 - 3, eG b cy o2)) := by
  refine gI_of (by decide) (Nat.le_of_ble_eq_true rfl) ?_
  intro p e s m args below meth c S hr hlk hin hsz ls hl hG
  have hx := S.1
  have hb := S.2.1
  have hl : lv_has ls 6 [(0, .ref (b + 65)), (1, .int (iI a1)), (2, .ref (b + ph (Int.toNat a2))), (3, .int (iI a3))] := hl
  replace hG : gW D cy b (nn S0 - 3) s s.heap [] (eG b cy S0) := hG
  obtain ⟨H, eH⟩ : ∃ H, H = s.heap := ⟨_, rfl⟩
  obtain ⟨locs, elocs⟩ : ∃ locs : List Loc, locs = [] := ⟨_, rfl⟩
  rw [← eH, ← elocs] at hG
  rw [← eH, ← elocs]
  clear eH elocs
  unfold mX10_read_67_dB at hM
  obtain ⟨hge, hM⟩ := entG_some hM
  replace hG : gX D cy b s H locs S0 0 0 S0 o2 := gX.start hG hsz hn hge
  refine lv_iload_n hx hb dX10_read_0 rfl (lv_at hl 3 rfl) ?_
  refine lv_iconst (v := iI 1) hx hb dX10_read_1 (by decide) ?_
  obtain ⟨hg_1, hM⟩ := gd_some hM
  refine gi_icmp_lt (tgt := 17) hx hb dX10_read_2 (by decide) hg_1 (by decide) (fun c_2 => ?_) (fun c_2 => ?_)
  · replace hM := ifp hM c_2
    refine lv_iconst (v := iI (-1)) hx hb dX10_read_17 (by decide) ?_
    cases hM
    exact g_iret S hr hlk hG.1 hG.2.1 dX10_read_18 ⟨hG.rc, hG.rs⟩ ⟨rfl, rfl⟩
  · replace hM := ifn hM c_2
    refine lv_iload_n hx hb dX10_read_5 rfl (lv_at hl 3 rfl) ?_
    refine lv_bipush (v := iI 40) hx hb dX10_read_6 (by decide) ?_
    refine gi_icmp_gt (tgt := 17) hx hb dX10_read_8 (by decide) hg_1 (by decide) (fun c_3 => ?_) (fun c_3 => ?_)
    · replace hM := ifp hM c_3
      refine lv_iconst (v := iI (-1)) hx hb dX10_read_17 (by decide) ?_
      cases hM
      exact g_iret S hr hlk hG.1 hG.2.1 dX10_read_18 ⟨hG.rc, hG.rs⟩ ⟨rfl, rfl⟩
    · replace hM := ifn hM c_3
      refine lv_iload_n hx hb dX10_read_11 rfl (lv_at hl 3 rfl) ?_
      refine lv_aload_n hx hb dX10_read_12 rfl (lv_at hl 2 rfl) ?_
      obtain ⟨hg_4, hM⟩ := gd_some hM
      refine nd_alen S hG hg_4 dX10_read_13 ?_
      obtain ⟨hg_5, hM⟩ := gd_some hM
      refine gi_icmp_le (tgt := 19) hx hb dX10_read_14 (by decide) hg_1 hg_5 (fun c_6 => ?_) (fun c_6 => ?_)
      · replace hM := ifp hM c_6
        refine lv_aload_n hx hb dX10_read_19 rfl (lv_at hl 2 rfl) ?_
        refine lv_iconst (v := iI 0) hx hb dX10_read_20 (by decide) ?_
        refine lv_aload_n hx hb dX10_read_21 rfl (lv_at hl 0 rfl) ?_
        refine m_get S hG.1 65 67 1 rfl ec_67 cpX10 wm_558 dX10_read_22 rfl (Nat.lt_of_lt_of_le (Nat.le_of_ble_eq_true rfl) hG.2.2.2.1) (by decide) ?_
        refine lv_iconst (v := iI 0) hx hb dX10_read_25 (by decide) ?_
        refine lv_iload_n hx hb dX10_read_26 rfl (lv_at hl 3 rfl) ?_
        obtain ⟨hg_7, hM⟩ := gd_some hM
        refine n_copyD S hG wm_1458 wm_972 wm_971 wm_195 hl.1 a2 66 68 rfl hg_4 ec_68 (by decide) hg_7.1 hg_7.2.1 (fun q hq => fit_b (hg_7.2.2 q hq)) dX10_read_27 ⟨Nat.le_of_ble_eq_true rfl, Nat.le_of_ble_eq_true rfl⟩ (fun H locs S_8 eS_8 hG => ?_)
        replace hM := nx_at hM eS_8
        clear eS_8
        refine lv_aload_n hx hb dX10_read_30 rfl (lv_at hl 0 rfl) ?_
        refine lv_iload_n hx hb dX10_read_31 rfl (lv_at hl 3 rfl) ?_
        refine n_put S hG 65 67 3 rfl 3 a3 ec_67 cpX10 wm_561 dX10_read_32 (pf_67_3) (by decide) (by decide) (Nat.le_of_ble_eq_true rfl) rfl rfl rfl (fun H locs S_9 eS_9 hG => ?_)
        replace hM := nx_at hM eS_9
        clear eS_9
        refine lv_aload_n hx hb dX10_read_35 rfl (lv_at hl 0 rfl) ?_
        refine lv_iconst (v := iI 0) hx hb dX10_read_36 (by decide) ?_
        refine n_put S hG 65 67 4 rfl 4 0 ec_67 cpX10 wm_562 dX10_read_37 (pf_67_4) (by decide) (by decide) (Nat.le_of_ble_eq_true rfl) rfl rfl rfl (fun H locs S_10 eS_10 hG => ?_)
        replace hM := nx_at hM eS_10
        clear eS_10
        refine lv_aload_n hx hb dX10_read_40 rfl (lv_at hl 0 rfl) ?_
        refine lv_iconst (v := iI 0) hx hb dX10_read_41 (by decide) ?_
        refine n_put S hG 65 67 5 rfl 5 0 ec_67 cpX10 wm_563 dX10_read_42 (pf_67_5) (by decide) (by decide) (Nat.le_of_ble_eq_true rfl) rfl rfl rfl (fun H locs S_11 eS_11 hG => ?_)
        replace hM := nx_at hM eS_11
        clear eS_11
        refine lv_aload_n hx hb dX10_read_45 rfl (lv_at hl 0 rfl) ?_
        refine lv_iconst (v := iI 1) hx hb dX10_read_46 (by decide) ?_
        refine n_put S hG 65 67 6 rfl 6 1 ec_67 cpX10 wm_564 dX10_read_47 (pf_67_6) (by decide) (by decide) (Nat.le_of_ble_eq_true rfl) rfl rfl rfl (fun H locs S_12 eS_12 hG => ?_)
        replace hM := nx_at hM eS_12
        clear eS_12
        refine lv_aload_n hx hb dX10_read_50 rfl (lv_at hl 0 rfl) ?_
        refine lv_iconst (v := iI 0) hx hb dX10_read_51 (by decide) ?_
        refine n_put S hG 65 67 8 rfl 8 0 ec_67 cpX10 wm_566 dX10_read_52 (pf_67_8) (by decide) (by decide) (Nat.le_of_ble_eq_true rfl) rfl rfl rfl (fun H locs S_13 eS_13 hG => ?_)
        replace hM := nx_at hM eS_13
        clear eS_13
        refine lv_aload_n hx hb dX10_read_55 rfl (lv_at hl 0 rfl) ?_
        refine lv_iconst (v := iI 0) hx hb dX10_read_56 (by decide) ?_
        refine n_put S hG 65 67 10 rfl 10 0 ec_67 cpX10 wm_568 dX10_read_57 (pf_67_10) (by decide) (by decide) (Nat.le_of_ble_eq_true rfl) rfl rfl rfl (fun H locs S_14 eS_14 hG => ?_)
        replace hM := nx_at hM eS_14
        clear eS_14
        refine lv_aload_n hx hb dX10_read_60 rfl (lv_at hl 0 rfl) ?_
        refine lv_iconst (v := iI 0) hx hb dX10_read_61 (by decide) ?_
        refine n_put S hG 65 67 12 rfl 12 0 ec_67 cpX10 wm_570 dX10_read_62 (pf_67_12) (by decide) (by decide) (Nat.le_of_ble_eq_true rfl) rfl rfl rfl (fun H locs S_15 eS_15 hG => ?_)
        replace hM := nx_at hM eS_15
        clear eS_15
        refine lv_aload_n hx hb dX10_read_65 rfl (lv_at hl 0 rfl) ?_
        refine lv_iload_n hx hb dX10_read_66 rfl (lv_at hl 1 rfl) ?_
        obtain ⟨S_17, hc_16, hM⟩ := bd1_some hM
        refine g_vv (As := [.int (iI a1)]) (rest := []) S hG.1 hG.2.1 (vX10_readExpr l hG.2.2.2.1 a1 hc_16) wV_10_61 (ec_67 (b := b) (cy := cy) (X := XD b cy S_15) _) cpX10 (Nat.lt_of_lt_of_le (Nat.le_of_ble_eq_true rfl) hG.2.2.2.1) dX10_read_67 rfl hl.1 (ar := 1) (by decide +kernel) rfl ⟨Nat.le_of_ble_eq_true rfl, Nat.le_of_ble_eq_true rfl, hG.rc, hG.rs⟩ (Nat.le_of_ble_eq_true rfl) (fun uu H locs hp hGc => ?_)
        obtain rfl := hp
        refine wz ?_
        replace hG := hG.back hGc
        clear hGc
        obtain ⟨S_18, eS_18⟩ : ∃ q, q = msk S_17 S_15 := ⟨_, rfl⟩
        rw [← eS_18] at hG
        replace hM := nx_at hM eS_18
        clear eS_18
        refine lv_iconst (v := iI 0) hx hb dX10_read_70 (by decide) ?_
        refine lv_istore (lv' := [(4, .int (iI 0)), (0, .ref (b + 65)), (1, .int (iI a1)), (2, .ref (b + ph (Int.toNat a2))), (3, .int (iI a3))]) hx hb dX10_read_71 hl (by decide) rfl (fun ls hl => ?_)
        obtain ⟨S_21, hc_22, hM⟩ := bd1_some hM
        have hK_23 : ∀ (ce sl : Nat) (H : Heap) (locs : List Loc) (ls : Array Slot), gX D cy b s H locs S_21 ce sl S0 o2 → lv_has ls 6 [(0, .ref (b + 65))] → W p l e (gRm 5 (nn o2 - nn S0) (zz o2 - zz S0)) s m args below meth c H locs ce sl (gQI D cy b s args below (nn o2 - nn S0) (zz o2 - zz S0) (fun r u => r = iI o1 ∧ u = (nn o2 - 3, eG b cy o2))) (F0 m 144 ls []) := by
          intro ce sl H locs ls hG hl
          refine lv_aload_n hx hb dX10_read_144 rfl (lv_at hl 0 rfl) ?_
          refine m_get S hG.1 65 67 6 rfl ec_67 cpX10 wm_564 dX10_read_145 rfl (Nat.lt_of_lt_of_le (Nat.le_of_ble_eq_true rfl) hG.2.2.2.1) (by decide) ?_
          obtain ⟨hg_24, hM⟩ := gd_some hM
          refine gi_if_eq (tgt := 176) hx hb dX10_read_148 (by decide) hg_24 (fun c_25 => ?_) (fun c_25 => ?_)
          · replace hM := ifp hM c_25
            refine lv_iconst (v := iI (-1)) hx hb dX10_read_176 (by decide) ?_
            cases hM
            exact g_iret S hr hlk hG.1 hG.2.1 dX10_read_177 ⟨hG.rc, hG.rs⟩ ⟨rfl, rfl⟩
          · replace hM := ifn hM c_25
            refine lv_aload_n hx hb dX10_read_151 rfl (lv_at hl 0 rfl) ?_
            refine m_get S hG.1 65 67 8 rfl ec_67 cpX10 wm_566 dX10_read_152 rfl (Nat.lt_of_lt_of_le (Nat.le_of_ble_eq_true rfl) hG.2.2.2.1) (by decide) ?_
            obtain ⟨hg_26, hM⟩ := gd_some hM
            refine gi_if_ne (tgt := 176) hx hb dX10_read_155 (by decide) hg_26 (fun c_27 => ?_) (fun c_27 => ?_)
            · replace hM := ifn hM c_27
              refine lv_iconst (v := iI (-1)) hx hb dX10_read_176 (by decide) ?_
              cases hM
              exact g_iret S hr hlk hG.1 hG.2.1 dX10_read_177 ⟨hG.rc, hG.rs⟩ ⟨rfl, rfl⟩
            · replace hM := ifp hM c_27
              refine lv_aload_n hx hb dX10_read_158 rfl (lv_at hl 0 rfl) ?_
              refine m_get S hG.1 65 67 4 rfl ec_67 cpX10 wm_562 dX10_read_159 rfl (Nat.lt_of_lt_of_le (Nat.le_of_ble_eq_true rfl) hG.2.2.2.1) (by decide) ?_
              refine lv_aload_n hx hb dX10_read_162 rfl (lv_at hl 0 rfl) ?_
              refine m_get S hG.1 65 67 3 rfl ec_67 cpX10 wm_561 dX10_read_163 rfl (Nat.lt_of_lt_of_le (Nat.le_of_ble_eq_true rfl) hG.2.2.2.1) (by decide) ?_
              obtain ⟨hg_28, hM⟩ := gd_some hM
              refine gi_icmp_ne (tgt := 176) hx hb dX10_read_166 (by decide) hg_28.1 hg_28.2 (fun c_29 => ?_) (fun c_29 => ?_)
              · replace hM := ifn hM c_29
                refine lv_iconst (v := iI (-1)) hx hb dX10_read_176 (by decide) ?_
                cases hM
                exact g_iret S hr hlk hG.1 hG.2.1 dX10_read_177 ⟨hG.rc, hG.rs⟩ ⟨rfl, rfl⟩
              · replace hM := ifp hM c_29
                refine lv_aload_n hx hb dX10_read_169 rfl (lv_at hl 0 rfl) ?_
                refine m_get S hG.1 65 67 5 rfl ec_67 cpX10 wm_563 dX10_read_170 rfl (Nat.lt_of_lt_of_le (Nat.le_of_ble_eq_true rfl) hG.2.2.2.1) (by decide) ?_
                refine lv_goto (tgt := 177) hx hb dX10_read_173 (by decide) ?_
                cases hM
                exact g_iret S hr hlk hG.1 hG.2.1 dX10_read_177 ⟨hG.rc, hG.rs⟩ ⟨rfl, rfl⟩
        have loop_30 : ∀ (f : Nat) (v_19 : Int) (S_20 : St) (ce sl : Nat) (H : Heap) (locs : List Loc) (ls : Array Slot), mX10_read_67_dB_73 f v_19 S_20 = some S_21 → gX D cy b s H locs S_20 ce sl S0 o2 → lv_has ls 6 [(4, .int (iI v_19)), (0, .ref (b + 65))] → W p l e (gRm 5 (nn o2 - nn S0) (zz o2 - zz S0)) s m args below meth c H locs ce sl (gQI D cy b s args below (nn o2 - nn S0) (zz o2 - zz S0) (fun r u => r = iI o1 ∧ u = (nn o2 - 3, eG b cy o2))) (F0 m 73 ls []) := by
          clear hM
          intro f
          induction f with
          | zero => intro v_19 S_20 ce sl H locs ls hM; rw [mX10_read_67_dB_73] at hM; cases hM
          | succ f_32 ih_31 =>
            intro v_19 S_20 ce sl H locs ls hM hG hl
            rw [mX10_read_67_dB_73] at hM
            refine lv_iload hx hb dX10_read_73 (lv_at hl 0 rfl) ?_
            refine lv_ldc (v := 100000) hx hb S.2.2.2.1 (S.2.2.2.2 _ wm_1473) dX10_read_75 ?_
            refine gi_as 100000 (by decide) ?_
            obtain ⟨hg_33, hM⟩ := gd_some hM
            refine gi_icmp_ge (tgt := 144) hx hb dX10_read_77 (by decide) hg_33 (by decide) (fun c_34 => ?_) (fun c_34 => ?_)
            · replace hM := ifp hM c_34
              cases hM
              exact hK_23 _ _ H locs ls hG (lv_sub hl [1] rfl)
            · replace hM := ifn hM c_34
              refine lv_aload_n hx hb dX10_read_80 rfl (lv_at hl 1 rfl) ?_
              refine m_get S hG.1 65 67 6 rfl ec_67 cpX10 wm_564 dX10_read_81 rfl (Nat.lt_of_lt_of_le (Nat.le_of_ble_eq_true rfl) hG.2.2.2.1) (by decide) ?_
              obtain ⟨hg_35, hM⟩ := gd_some hM
              refine gi_if_eq (tgt := 144) hx hb dX10_read_84 (by decide) hg_35 (fun c_36 => ?_) (fun c_36 => ?_)
              · replace hM := ifp hM c_36
                cases hM
                exact hK_23 _ _ H locs ls hG (lv_sub hl [1] rfl)
              · replace hM := ifn hM c_36
                refine lv_aload_n hx hb dX10_read_87 rfl (lv_at hl 1 rfl) ?_
                refine m_get S hG.1 65 67 8 rfl ec_67 cpX10 wm_566 dX10_read_88 rfl (Nat.lt_of_lt_of_le (Nat.le_of_ble_eq_true rfl) hG.2.2.2.1) (by decide) ?_
                obtain ⟨hg_37, hM⟩ := gd_some hM
                refine gi_if_le (tgt := 144) hx hb dX10_read_91 (by decide) hg_37 (fun c_38 => ?_) (fun c_38 => ?_)
                · replace hM := ifp hM c_38
                  cases hM
                  exact hK_23 _ _ H locs ls hG (lv_sub hl [1] rfl)
                · replace hM := ifn hM c_38
                  refine lv_aload_n hx hb dX10_read_94 rfl (lv_at hl 1 rfl) ?_
                  refine lv_dup hx hb dX10_read_95 rfl ?_
                  refine m_get S hG.1 65 67 8 rfl ec_67 cpX10 wm_566 dX10_read_96 rfl (Nat.lt_of_lt_of_le (Nat.le_of_ble_eq_true rfl) hG.2.2.2.1) (by decide) ?_
                  refine lv_iconst (v := iI 1) hx hb dX10_read_99 (by decide) ?_
                  refine gi_sub hx hb dX10_read_100 ?_
                  refine n_put S hG 65 67 8 rfl 8 ((S_20 67 8) - 1) ec_67 cpX10 wm_566 dX10_read_101 (pf_67_8) (by decide) (by decide) (Nat.le_of_ble_eq_true rfl) rfl rfl rfl (fun H locs S_39 eS_39 hG => ?_)
                  replace hM := nx_at hM eS_39
                  clear eS_39
                  refine lv_aload_n hx hb dX10_read_104 rfl (lv_at hl 1 rfl) ?_
                  refine m_get S hG.1 65 67 7 rfl ec_67 cpX10 wm_565 dX10_read_105 rfl (Nat.lt_of_lt_of_le (Nat.le_of_ble_eq_true rfl) hG.2.2.2.1) (by decide) ?_
                  refine lv_aload_n hx hb dX10_read_108 rfl (lv_at hl 1 rfl) ?_
                  refine m_get S hG.1 65 67 8 rfl ec_67 cpX10 wm_566 dX10_read_109 rfl (Nat.lt_of_lt_of_le (Nat.le_of_ble_eq_true rfl) hG.2.2.2.1) (by decide) ?_
                  obtain ⟨hg_40, hM⟩ := gd_some hM
                  refine mi_ald S hG.1 68 70 rfl ec_70 (Nat.lt_of_lt_of_le (Nat.le_of_ble_eq_true rfl) hG.2.2.2.1) dX10_read_112 hg_40 (by decide) ?_
                  refine gi_nm (fun x_41 ex_41 => ?_)
                  replace hM := nx_at hM ex_41
                  clear ex_41
                  refine lv_istore (lv' := [(5, .int (iI x_41)), (4, .int (iI v_19)), (0, .ref (b + 65))]) hx hb dX10_read_113 hl (by decide) rfl (fun ls hl => ?_)
                  refine lv_iload hx hb dX10_read_115 (lv_at hl 0 rfl) ?_
                  obtain ⟨hg_42, hM⟩ := gd_some hM
                  refine gi_if_ge (tgt := 132) hx hb dX10_read_117 (by decide) hg_42 (fun c_43 => ?_) (fun c_43 => ?_)
                  · replace hM := ifp hM c_43
                    refine lv_aload_n hx hb dX10_read_132 rfl (lv_at hl 2 rfl) ?_
                    refine lv_iload hx hb dX10_read_133 (lv_at hl 0 rfl) ?_
                    obtain ⟨S_45, hc_44, hM⟩ := bd1_some hM
                    refine g_vv (As := [.int (iI x_41)]) (rest := []) S hG.1 hG.2.1 (vX10_readPart l hG.2.2.2.1 x_41 hc_44) wV_10_69 (ec_67 (b := b) (cy := cy) (X := XD b cy S_39) _) cpX10 (Nat.lt_of_lt_of_le (Nat.le_of_ble_eq_true rfl) hG.2.2.2.1) dX10_read_135 rfl hl.1 (ar := 1) (by decide +kernel) rfl ⟨Nat.le_of_ble_eq_true rfl, Nat.le_of_ble_eq_true rfl, hG.rc, hG.rs⟩ (Nat.le_of_ble_eq_true rfl) (fun uu H locs hp hGc => ?_)
                    obtain rfl := hp
                    refine wz ?_
                    replace hG := hG.back hGc
                    clear hGc
                    obtain ⟨S_46, eS_46⟩ : ∃ q, q = msk S_45 S_39 := ⟨_, rfl⟩
                    rw [← eS_46] at hG
                    replace hM := nx_at hM eS_46
                    clear eS_46
                    refine lv_iinc (v := iI (v_19 + 1)) (lv' := [(4, .int (iI (v_19 + 1))), (5, .int (iI x_41)), (0, .ref (b + 65))]) hx hb dX10_read_138 hl (k := 1) rfl ((iI_add v_19 (1)).trans (congrArg iI (by omega))) (by decide) rfl (fun ls hl => ?_)
                    refine lv_goto (tgt := 73) hx hb dX10_read_141 (by decide) ?_
                    exact ih_31 (v_19 + 1) S_46 _ _ H locs ls hM hG (lv_sub hl [0, 2] rfl)
                  · replace hM := ifn hM c_43
                    refine lv_aload_n hx hb dX10_read_120 rfl (lv_at hl 2 rfl) ?_
                    refine lv_iload hx hb dX10_read_121 (lv_at hl 0 rfl) ?_
                    refine gi_neg hx hb dX10_read_123 ?_
                    refine lv_iconst (v := iI 1) hx hb dX10_read_124 (by decide) ?_
                    refine gi_sub hx hb dX10_read_125 ?_
                    obtain ⟨S_48, hc_47, hM⟩ := bd1_some hM
                    refine g_vv (As := [.int (iI ((-x_41) - 1))]) (rest := []) S hG.1 hG.2.1 (vX10_goOn l hG.2.2.2.1 ((-x_41) - 1) hc_47) wV_10_66 (ec_67 (b := b) (cy := cy) (X := XD b cy S_39) _) cpX10 (Nat.lt_of_lt_of_le (Nat.le_of_ble_eq_true rfl) hG.2.2.2.1) dX10_read_126 rfl hl.1 (ar := 1) (by decide +kernel) rfl ⟨Nat.le_of_ble_eq_true rfl, Nat.le_of_ble_eq_true rfl, hG.rc, hG.rs⟩ (Nat.le_of_ble_eq_true rfl) (fun uu H locs hp hGc => ?_)
                    obtain rfl := hp
                    refine wz ?_
                    replace hG := hG.back hGc
                    clear hGc
                    obtain ⟨S_49, eS_49⟩ : ∃ q, q = msk S_48 S_39 := ⟨_, rfl⟩
                    rw [← eS_49] at hG
                    replace hM := nx_at hM eS_49
                    clear eS_49
                    refine lv_goto (tgt := 138) hx hb dX10_read_129 (by decide) ?_
                    refine lv_iinc (v := iI (v_19 + 1)) (lv' := [(4, .int (iI (v_19 + 1))), (5, .int (iI x_41)), (0, .ref (b + 65))]) hx hb dX10_read_138 hl (k := 1) rfl ((iI_add v_19 (1)).trans (congrArg iI (by omega))) (by decide) rfl (fun ls hl => ?_)
                    refine lv_goto (tgt := 73) hx hb dX10_read_141 (by decide) ?_
                    exact ih_31 (v_19 + 1) S_49 _ _ H locs ls hM hG (lv_sub hl [0, 2] rfl)
        exact loop_30 FU 0 S_18 _ _ H locs ls hc_22 hG (lv_sub hl [0, 1] rfl)
      · replace hM := ifn hM c_6
        refine lv_iconst (v := iI (-1)) hx hb dX10_read_17 (by decide) ?_
        cases hM
        exact g_iret S hr hlk hG.1 hG.2.1 dX10_read_18 ⟨hG.rc, hG.rs⟩ ⟨rfl, rfl⟩
def mX11_shared_45 (r_10 : Int) (a1 : Int) (a2 : Int) (a3 : Int) : Nat → Int → Int → St → Option (Int × St)
  | 0, _, _, _ => none
  | f + 1, v_11, v_12, S_13 => gd ((inI v_11) ∧ (inI r_10)) <| if r_10 ≤ v_11 then (some (v_12, S_13)) else (bdG1 S_13 (fun o : Int × St => o.2) (mX9_spell S_13 a1 a3 v_11 (S_13 0 16)) fun S_27 => bdG2 S_27 (fun o : Int × St => o.2) (mX10_read_67_dB S_27 a2 (S_27 60 3) (S_27 60 4)) fun r_32 S_33 => gd (inI r_32) <| if r_32 = (-1) then (mX11_shared_45 r_10 a1 a2 a3 f (v_11 + 1) v_12 S_33) else (mX11_shared_45 r_10 a1 a2 a3 f (v_11 + 1) (v_12 + 1) S_33))
def mX11_shared (S0 : St) (a1 : Int) (a2 : Int) (a3 : Int) : Option (Int × St) := entG S0 (fun o : Int × St => o.2) (bd1 (mX11_known S0 a2) fun r_2 => gd (inI r_2) <| if r_2 = 0 then (some ((-2), S0)) else (bd1 (mX11_listing S0 a1 a3) fun r_6 => gd (inI r_6) <| if r_6 = 0 then (bd1 (mX0_thingsAt_40 S0 a1 a3) fun r_10 => bdG2 S0 (fun o : Int × St => o.2) (mX11_shared_45 r_10 a1 a2 a3 FU 0 0 S0) fun y_14 S_15 => some (y_14, S_15)) else (some (r_6, S0))))
set_option maxHeartbeats 4000000 in
set_option maxRecDepth 100000 in
theorem vX11_shared (l : Launch) {D : va_G} {cy : Nat → ClassId} {b : Nat} {S0 : St} (hn : 102 ≤ nn S0 - 3) (a1 : Int) (a2 : Int) (a3 : Int) {o1 : Int} {o2 : St} (hM : mX11_shared S0 a1 a2 a3 = some (o1, o2)) : gI l yX11_shared cX11_shared 8 (some .int) 30 (nn o2 - nn S0) (zz o2 - zz S0) D cy b (nn S0 - 3) (eG b cy S0) [.ref (b + 0), .int (iI a1), .int (iI a2), .int (iI a3)] (fun r u => r = iI o1 ∧ u = (nn o2 - 3, eG b cy o2)) := by
  refine gI_of (by decide) (Nat.le_of_ble_eq_true rfl) ?_
  intro p e s m args below meth c S hr hlk hin hsz ls hl hG
  have hx := S.1
  have hb := S.2.1
  have hl : lv_has ls 8 [(0, .ref (b + 0)), (1, .int (iI a1)), (2, .int (iI a2)), (3, .int (iI a3))] := hl
  replace hG : gW D cy b (nn S0 - 3) s s.heap [] (eG b cy S0) := hG
  obtain ⟨H, eH⟩ : ∃ H, H = s.heap := ⟨_, rfl⟩
  obtain ⟨locs, elocs⟩ : ∃ locs : List Loc, locs = [] := ⟨_, rfl⟩
  rw [← eH, ← elocs] at hG
  rw [← eH, ← elocs]
  clear eH elocs
  unfold mX11_shared at hM
  obtain ⟨hge, hM⟩ := entG_some hM
  replace hG : gX D cy b s H locs S0 0 0 S0 o2 := gX.start hG hsz hn hge
  refine lv_aload_n hx hb dX11_shared_0 rfl (lv_at hl 0 rfl) ?_
  refine lv_iload_n hx hb dX11_shared_1 rfl (lv_at hl 2 rfl) ?_
  obtain ⟨r_2, hc_1, hM⟩ := bd1_some hM
  refine g_vi (As := [.int (iI a2)]) (rest := []) S hG.1 hG.2.1 (vX11_known l hG.2.2.2.1 a2 hc_1) wV_11_168 (ec_0 (b := b) (cy := cy) (X := XD b cy S0) _) cpX11 (Nat.lt_of_lt_of_le (Nat.le_of_ble_eq_true rfl) hG.2.2.2.1) dX11_shared_2 rfl hl.1 (ar := 1) (by decide +kernel) rfl ⟨Nat.le_of_ble_eq_true rfl, Nat.le_of_ble_eq_true rfl, hG.rc, hG.rs⟩ (Nat.le_of_ble_eq_true rfl) (fun rv uu H locs hp hGc => ?_)
  obtain ⟨rfl, rfl⟩ := hp
  refine wz ?_
  replace hG := hG.same hGc
  clear hGc
  obtain ⟨hg_3, hM⟩ := gd_some hM
  refine gi_if_ne (tgt := 11) hx hb dX11_shared_5 (by decide) hg_3 (fun c_4 => ?_) (fun c_4 => ?_)
  · replace hM := ifn hM c_4
    refine lv_aload_n hx hb dX11_shared_11 rfl (lv_at hl 0 rfl) ?_
    refine lv_iload_n hx hb dX11_shared_12 rfl (lv_at hl 1 rfl) ?_
    refine lv_iload_n hx hb dX11_shared_13 rfl (lv_at hl 3 rfl) ?_
    obtain ⟨r_6, hc_5, hM⟩ := bd1_some hM
    refine g_vi (As := [.int (iI a1), .int (iI a3)]) (rest := []) S hG.1 hG.2.1 (vX11_listing l hG.2.2.2.1 a1 a3 hc_5) wV_11_251 (ec_0 (b := b) (cy := cy) (X := XD b cy S0) _) cpX11 (Nat.lt_of_lt_of_le (Nat.le_of_ble_eq_true rfl) hG.2.2.2.1) dX11_shared_14 rfl hl.1 (ar := 2) (by decide +kernel) rfl ⟨Nat.le_of_ble_eq_true rfl, Nat.le_of_ble_eq_true rfl, hG.rc, hG.rs⟩ (Nat.le_of_ble_eq_true rfl) (fun rv uu H locs hp hGc => ?_)
    obtain ⟨rfl, rfl⟩ := hp
    refine wz ?_
    replace hG := hG.same hGc
    clear hGc
    refine lv_istore (lv' := [(4, .int (iI r_6)), (0, .ref (b + 0)), (1, .int (iI a1)), (2, .int (iI a2)), (3, .int (iI a3))]) hx hb dX11_shared_17 hl (by decide) rfl (fun ls hl => ?_)
    refine lv_iload hx hb dX11_shared_19 (lv_at hl 0 rfl) ?_
    obtain ⟨hg_7, hM⟩ := gd_some hM
    refine gi_if_eq (tgt := 27) hx hb dX11_shared_21 (by decide) hg_7 (fun c_8 => ?_) (fun c_8 => ?_)
    · replace hM := ifp hM c_8
      refine lv_aload_n hx hb dX11_shared_27 rfl (lv_at hl 1 rfl) ?_
      refine m_get S hG.1 0 0 7 rfl ec_0 cpX11 wm_672 dX11_shared_28 rfl (Nat.lt_of_lt_of_le (Nat.le_of_ble_eq_true rfl) hG.2.2.2.1) (by decide) ?_
      refine lv_iload_n hx hb dX11_shared_31 rfl (lv_at hl 2 rfl) ?_
      refine lv_iload_n hx hb dX11_shared_32 rfl (lv_at hl 4 rfl) ?_
      obtain ⟨r_10, hc_9, hM⟩ := bd1_some hM
      refine g_vl (As := [.int (iI a1), .int (iI a3)]) (rest := []) S hG.1 hG.2.1 (vX0_thingsAt_40 l hG.2.2.2.1 a1 a3 hc_9) wV_11_206 (ec_40 (b := b) (cy := cy) (X := XD b cy S0) _) cpX0 (Nat.lt_of_lt_of_le (Nat.le_of_ble_eq_true rfl) hG.2.2.2.1) dX11_shared_33 rfl hl.1 (ar := 2) (by decide +kernel) rfl ⟨Nat.le_of_ble_eq_true rfl, Nat.le_of_ble_eq_true rfl, hG.rc, hG.rs⟩ (Nat.le_of_ble_eq_true rfl) (fun rv uu H locs hp hGc => ?_)
      obtain ⟨rfl, rfl⟩ := hp
      refine wz ?_
      replace hG := hG.same hGc
      clear hGc
      refine gj_l2i hx hb dX11_shared_36 ?_
      refine lv_istore (lv' := [(5, .int (iI r_10)), (4, .int (iI r_6)), (0, .ref (b + 0)), (1, .int (iI a1)), (2, .int (iI a2)), (3, .int (iI a3))]) hx hb dX11_shared_37 hl (by decide) rfl (fun ls hl => ?_)
      refine lv_iconst (v := iI 0) hx hb dX11_shared_39 (by decide) ?_
      refine lv_istore (lv' := [(6, .int (iI 0)), (5, .int (iI r_10)), (4, .int (iI r_6)), (0, .ref (b + 0)), (1, .int (iI a1)), (2, .int (iI a2)), (3, .int (iI a3))]) hx hb dX11_shared_40 hl (by decide) rfl (fun ls hl => ?_)
      refine lv_iconst (v := iI 0) hx hb dX11_shared_42 (by decide) ?_
      refine lv_istore (lv' := [(7, .int (iI 0)), (6, .int (iI 0)), (5, .int (iI r_10)), (4, .int (iI r_6)), (0, .ref (b + 0)), (1, .int (iI a1)), (2, .int (iI a2)), (3, .int (iI a3))]) hx hb dX11_shared_43 hl (by decide) rfl (fun ls hl => ?_)
      obtain ⟨y_14, S_15, hc_16, hg_17, hg_18, hM⟩ := bdG2_some hM
      have hub_19 : gle S_15 o2 := ⟨Nat.le_trans hg_18.1 gle_rfl.1, Nat.le_trans hg_18.2 gle_rfl.2⟩
      have hK_20 : ∀ (ce sl : Nat) (H : Heap) (locs : List Loc) (ls : Array Slot), gX D cy b s H locs S_15 ce sl S0 o2 → lv_has ls 8 [(6, .int (iI y_14))] → W p l e (gRm 30 (nn o2 - nn S0) (zz o2 - zz S0)) s m args below meth c H locs ce sl (gQI D cy b s args below (nn o2 - nn S0) (zz o2 - zz S0) (fun r u => r = iI o1 ∧ u = (nn o2 - 3, eG b cy o2))) (F0 m 102 ls []) := by
        intro ce sl H locs ls hG hl
        refine lv_iload hx hb dX11_shared_102 (lv_at hl 0 rfl) ?_
        cases hM
        exact g_iret S hr hlk hG.1 hG.2.1 dX11_shared_104 ⟨hG.rc, hG.rs⟩ ⟨rfl, rfl⟩
      have loop_21 : ∀ (f : Nat) (v_11 : Int) (v_12 : Int) (S_13 : St) (ce sl : Nat) (H : Heap) (locs : List Loc) (ls : Array Slot), mX11_shared_45 r_10 a1 a2 a3 f v_11 v_12 S_13 = some (y_14, S_15) → gX D cy b s H locs S_13 ce sl S0 o2 → lv_has ls 8 [(7, .int (iI v_11)), (6, .int (iI v_12)), (5, .int (iI r_10)), (0, .ref (b + 0)), (1, .int (iI a1)), (2, .int (iI a2)), (3, .int (iI a3))] → W p l e (gRm 30 (nn o2 - nn S0) (zz o2 - zz S0)) s m args below meth c H locs ce sl (gQI D cy b s args below (nn o2 - nn S0) (zz o2 - zz S0) (fun r u => r = iI o1 ∧ u = (nn o2 - 3, eG b cy o2))) (F0 m 45 ls []) := by
        clear hM
        intro f
        induction f with
        | zero => intro v_11 v_12 S_13 ce sl H locs ls hM; rw [mX11_shared_45] at hM; cases hM
        | succ f_23 ih_22 =>
          intro v_11 v_12 S_13 ce sl H locs ls hM hG hl
          rw [mX11_shared_45] at hM
          refine lv_iload hx hb dX11_shared_45 (lv_at hl 0 rfl) ?_
          refine lv_iload hx hb dX11_shared_47 (lv_at hl 2 rfl) ?_
          obtain ⟨hg_24, hM⟩ := gd_some hM
          refine gi_icmp_ge (tgt := 102) hx hb dX11_shared_49 (by decide) hg_24.1 hg_24.2 (fun c_25 => ?_) (fun c_25 => ?_)
          · replace hM := ifp hM c_25
            cases hM
            exact hK_20 _ _ H locs ls hG (lv_sub hl [1] rfl)
          · replace hM := ifn hM c_25
            refine lv_aload_n hx hb dX11_shared_52 rfl (lv_at hl 3 rfl) ?_
            refine m_get S hG.1 0 0 9 rfl ec_0 cpX11 wm_674 dX11_shared_53 rfl (Nat.lt_of_lt_of_le (Nat.le_of_ble_eq_true rfl) hG.2.2.2.1) (by decide) ?_
            refine lv_iload_n hx hb dX11_shared_56 rfl (lv_at hl 4 rfl) ?_
            refine lv_iload_n hx hb dX11_shared_57 rfl (lv_at hl 6 rfl) ?_
            refine lv_iload hx hb dX11_shared_58 (lv_at hl 0 rfl) ?_
            refine lv_aload_n hx hb dX11_shared_60 rfl (lv_at hl 3 rfl) ?_
            refine m_get S hG.1 0 0 16 rfl ec_0 cpX11 wm_681 dX11_shared_61 rfl (Nat.lt_of_lt_of_le (Nat.le_of_ble_eq_true rfl) hG.2.2.2.1) (by decide) ?_
            obtain ⟨S_27, hc_26, hg_28, hg_29, hM⟩ := bdG1_some hM
            have hg_30 : gle S_27 o2 := ⟨Nat.le_trans hg_29.1 hub_19.1, Nat.le_trans hg_29.2 hub_19.2⟩
            refine g_vv (As := [.int (iI a1), .int (iI a3), .int (iI v_11), .int (iI (S_13 0 16))]) (rest := []) S hG.1 hG.2.1 (vX9_spell l hG.2.2.2.1 a1 a3 v_11 (S_13 0 16) hc_26) wV_11_255 (ec_60 (b := b) (cy := cy) (X := XD b cy S_13) _) cpX9 (Nat.lt_of_lt_of_le (Nat.le_of_ble_eq_true rfl) hG.2.2.2.1) dX11_shared_64 rfl hl.1 (ar := 4) (by decide +kernel) rfl ⟨Nat.le_of_ble_eq_true rfl, Nat.le_of_ble_eq_true rfl, hG.gc hg_28 hg_30, hG.gs hg_28 hg_30⟩ (Nat.le_of_ble_eq_true rfl) (fun uu H locs hp hGc => ?_)
            obtain rfl := hp
            replace hG := hG.grow hg_28 hg_30 hGc
            clear hGc
            refine lv_aload_n hx hb dX11_shared_67 rfl (lv_at hl 3 rfl) ?_
            refine m_get S hG.1 0 0 10 rfl ec_0 cpX11 wm_675 dX11_shared_68 rfl (Nat.lt_of_lt_of_le (Nat.le_of_ble_eq_true rfl) hG.2.2.2.1) (by decide) ?_
            refine lv_iload_n hx hb dX11_shared_71 rfl (lv_at hl 5 rfl) ?_
            refine lv_aload_n hx hb dX11_shared_72 rfl (lv_at hl 3 rfl) ?_
            refine m_get S hG.1 0 0 9 rfl ec_0 cpX11 wm_674 dX11_shared_73 rfl (Nat.lt_of_lt_of_le (Nat.le_of_ble_eq_true rfl) hG.2.2.2.1) (by decide) ?_
            refine m_get (v := .ref (b + ph (Int.toNat (S_27 60 3)))) S hG.1 58 60 3 rfl ec_60 cpX9 wm_499 dX11_shared_76 rfl (Nat.lt_of_lt_of_le (Nat.le_of_ble_eq_true rfl) hG.2.2.2.1) (by decide) ?_
            refine lv_aload_n hx hb dX11_shared_79 rfl (lv_at hl 3 rfl) ?_
            refine m_get S hG.1 0 0 9 rfl ec_0 cpX11 wm_674 dX11_shared_80 rfl (Nat.lt_of_lt_of_le (Nat.le_of_ble_eq_true rfl) hG.2.2.2.1) (by decide) ?_
            refine m_get S hG.1 58 60 4 rfl ec_60 cpX9 wm_501 dX11_shared_83 rfl (Nat.lt_of_lt_of_le (Nat.le_of_ble_eq_true rfl) hG.2.2.2.1) (by decide) ?_
            obtain ⟨r_32, S_33, hc_31, hg_34, hg_35, hM⟩ := bdG2_some hM
            have hg_36 : gle S_33 o2 := ⟨Nat.le_trans hg_35.1 hub_19.1, Nat.le_trans hg_35.2 hub_19.2⟩
            refine g_vi (As := [.int (iI a2), .ref (b + ph (Int.toNat (S_27 60 3))), .int (iI (S_27 60 4))]) (rest := []) S hG.1 hG.2.1 (vX10_read_67_dB l hG.2.2.2.1 a2 (S_27 60 3) (S_27 60 4) hc_31) wV_11_284 (ec_67 (b := b) (cy := cy) (X := XD b cy S_27) _) cpX10 (Nat.lt_of_lt_of_le (Nat.le_of_ble_eq_true rfl) hG.2.2.2.1) dX11_shared_86 rfl hl.1 (ar := 3) (by decide +kernel) rfl ⟨Nat.le_of_ble_eq_true rfl, Nat.le_of_ble_eq_true rfl, hG.gc hg_34 hg_36, hG.gs hg_34 hg_36⟩ (Nat.le_of_ble_eq_true rfl) (fun rv uu H locs hp hGc => ?_)
            obtain ⟨rfl, rfl⟩ := hp
            replace hG := hG.grow hg_34 hg_36 hGc
            clear hGc
            refine lv_iconst (v := iI (-1)) hx hb dX11_shared_89 (by decide) ?_
            obtain ⟨hg_37, hM⟩ := gd_some hM
            refine gi_icmp_eq (tgt := 96) hx hb dX11_shared_90 (by decide) hg_37 (by decide) (fun c_38 => ?_) (fun c_38 => ?_)
            · replace hM := ifp hM c_38
              refine lv_iinc (v := iI (v_11 + 1)) (lv' := [(7, .int (iI (v_11 + 1))), (6, .int (iI v_12)), (5, .int (iI r_10)), (0, .ref (b + 0)), (1, .int (iI a1)), (2, .int (iI a2)), (3, .int (iI a3))]) hx hb dX11_shared_96 hl (k := 0) rfl ((iI_add v_11 (1)).trans (congrArg iI (by omega))) (by decide) rfl (fun ls hl => ?_)
              refine lv_goto (tgt := 45) hx hb dX11_shared_99 (by decide) ?_
              exact ih_22 (v_11 + 1) v_12 S_33 _ _ H locs ls hM hG (lv_sub hl [0, 1, 2, 3, 4, 5, 6] rfl)
            · replace hM := ifn hM c_38
              refine lv_iinc (v := iI (v_12 + 1)) (lv' := [(6, .int (iI (v_12 + 1))), (7, .int (iI v_11)), (5, .int (iI r_10)), (0, .ref (b + 0)), (1, .int (iI a1)), (2, .int (iI a2)), (3, .int (iI a3))]) hx hb dX11_shared_93 hl (k := 1) rfl ((iI_add v_12 (1)).trans (congrArg iI (by omega))) (by decide) rfl (fun ls hl => ?_)
              refine lv_iinc (v := iI (v_11 + 1)) (lv' := [(7, .int (iI (v_11 + 1))), (6, .int (iI (v_12 + 1))), (5, .int (iI r_10)), (0, .ref (b + 0)), (1, .int (iI a1)), (2, .int (iI a2)), (3, .int (iI a3))]) hx hb dX11_shared_96 hl (k := 1) rfl ((iI_add v_11 (1)).trans (congrArg iI (by omega))) (by decide) rfl (fun ls hl => ?_)
              refine lv_goto (tgt := 45) hx hb dX11_shared_99 (by decide) ?_
              exact ih_22 (v_11 + 1) (v_12 + 1) S_33 _ _ H locs ls hM hG (lv_sub hl [0, 1, 2, 3, 4, 5, 6] rfl)
      exact loop_21 FU 0 0 S0 _ _ H locs ls hc_16 hG (lv_sub hl [0, 1, 2, 4, 5, 6, 7] rfl)
    · replace hM := ifn hM c_8
      refine lv_iload hx hb dX11_shared_24 (lv_at hl 0 rfl) ?_
      cases hM
      exact g_iret S hr hlk hG.1 hG.2.1 dX11_shared_26 ⟨hG.rc, hG.rs⟩ ⟨rfl, rfl⟩
  · replace hM := ifp hM c_4
    refine lv_bipush (v := iI (-2)) hx hb dX11_shared_8 (by decide) ?_
    cases hM
    exact g_iret S hr hlk hG.1 hG.2.1 dX11_shared_10 ⟨hG.rc, hG.rs⟩ ⟨rfl, rfl⟩
theorem wS_11_293 : gWS "GrownKinds" 293 yX9_weightOf cX9_weightOf 1 (some .int) := ⟨wm_1521, wm_1297, wm_183, wm_1298, by decide +kernel, by decide +kernel⟩
theorem wV_11_300 : gWV "GrownKinds" 300 yX10_holds cX10_holds 4 (some .boolean) := ⟨wm_1522, wm_1523, wm_1524, wm_185, wm_1525, by decide +kernel, by decide +kernel⟩
def mX11_rankOfRead_157 (a1 : Int) (a2 : Int) (a3 : Int) (y_4 : Int) (y_14 : Int) : Nat → Int → St → Option (Int × Int × St)
  | 0, _, _ => none
  | f + 1, v_17, S_18 => gd ((inI v_17) ∧ (inI y_14)) <| if y_14 ≤ v_17 then (some (1, v_17, S_18)) else (bdG1 S_18 (fun o : Int × Int × St => o.2.2) (mX9_spell S_18 a1 a2 v_17 (S_18 0 16)) fun S_34 => gd ((inI (S_34 60 4)) ∧ (inI a3)) <| if (S_34 60 4) = a3 then (gd ((inI (S_34 60 8)) ∧ (inI y_4)) <| if (S_34 60 8) = y_4 then (bdG2 S_34 (fun o : Int × Int × St => o.2.2) (mX10_read_67_dB S_34 a1 (S_34 60 3) a3) fun r_43 S_44 => gd ((inI r_43) ∧ (inI a2)) <| if r_43 = a2 then (bd1 (mX10_holds_67_81 S_44 a3) fun r_51 => gd (inI r_51) <| if r_51 = 0 then (mX11_rankOfRead_157 a1 a2 a3 y_4 y_14 f (v_17 + 1) S_44) else (some (0, v_17, S_44))) else (mX11_rankOfRead_157 a1 a2 a3 y_4 y_14 f (v_17 + 1) S_44)) else (mX11_rankOfRead_157 a1 a2 a3 y_4 y_14 f (v_17 + 1) S_34)) else (mX11_rankOfRead_157 a1 a2 a3 y_4 y_14 f (v_17 + 1) S_34))
def mX11_rankOfRead_75 (S_5 : St) (a1 : Int) (a2 : Int) (a3 : Int) (y_4 : Int) : Nat → Int → Int → Int → Option (Int × Int)
  | 0, _, _, _ => none
  | f + 1, v_10, v_11, v_12 => gd (0 ≤ a1 ∧ a1 < 30) <| gd (inI (S_5 8 a1)) <| if (S_5 8 a1) ≤ 1 then (some (v_12, v_11)) else (gd ((inI v_10) ∧ (inI ((S_5 81 0) - 48))) <| if ((S_5 81 0) - 48) < v_10 then (some (v_12, v_11)) else (bd1 (if v_10 = 0 then (some (0)) else (bd1 (mX0_byTerm_40 S_5 a1 (v_10 - 1) a2) fun r_70 => some ((v_12 + r_70)))) fun z_62 => bd1 (mX0_byTerm_40 S_5 a1 v_10 a2) fun r_66 => nx (z_62 + r_66) fun x_67 => mX11_rankOfRead_75 S_5 a1 a2 a3 y_4 f (v_10 + 1) x_67 z_62))
def mX11_rankOfRead_6 (a1 : Int) (a2 : Int) (a3 : Int) : Nat → Int → Int → St → Option (Int × St)
  | 0, _, _, _ => none
  | f + 1, v_1, v_2, S_3 => gd ((inI v_1) ∧ (inI a3)) <| if a3 ≤ v_1 then (some (v_2, S_3)) else (if 40 ≤ v_1 then (some (v_2, S_3)) else (gd (0 ≤ v_1 ∧ v_1 < 40) <| gd (-128 ≤ (S_3 68 v_1) ∧ (S_3 68 v_1) ≤ 127) <| nx (up S_3 81 v_1 (S_3 68 v_1)) fun S_79 => bd1 (mX9_weightOf (S_79 81 v_1)) fun r_81 => nx (v_2 + r_81) fun x_82 => mX11_rankOfRead_6 a1 a2 a3 f (v_1 + 1) x_82 S_79))
def mX11_rankOfRead (S0 : St) (a1 : Int) (a2 : Int) (a3 : Int) : Option (Int × St) := entG S0 (fun o : Int × St => o.2) (bd2 (mX11_rankOfRead_6 a1 a2 a3 FU 0 0 S0) fun y_4 S_5 => bd1 (mX0_thingsAt_40 S_5 a1 a2) fun r_9 => bd2 (mX11_rankOfRead_75 S_5 a1 a2 a3 y_4 FU 0 r_9 0) fun y_13 y_14 => bdG3 S_5 (fun o : Int × St => o.2) (mX11_rankOfRead_157 a1 a2 a3 y_4 y_14 FU y_13 S_5) fun t_19 y_20 S_21 => if t_19 = 0 then (some (y_20, S_21)) else (some ((-1), S_21)))
set_option maxHeartbeats 4000000 in
set_option maxRecDepth 100000 in
theorem vX11_rankOfRead (l : Launch) {D : va_G} {cy : Nat → ClassId} {b : Nat} {S0 : St} (hn : 102 ≤ nn S0 - 3) (a1 : Int) (a2 : Int) (a3 : Int) {o1 : Int} {o2 : St} (hM : mX11_rankOfRead S0 a1 a2 a3 = some (o1, o2)) : gI l yX11_rankOfRead cX11_rankOfRead 8 (some .int) 30 (nn o2 - nn S0) (zz o2 - zz S0) D cy b (nn S0 - 3) (eG b cy S0) [.ref (b + 0), .int (iI a1), .int (iI a2), .int (iI a3)] (fun r u => r = iI o1 ∧ u = (nn o2 - 3, eG b cy o2)) := by
  refine gI_of (by decide) (Nat.le_of_ble_eq_true rfl) ?_
  intro p e s m args below meth c S hr hlk hin hsz ls hl hG
  have hx := S.1
  have hb := S.2.1
  have hl : lv_has ls 8 [(0, .ref (b + 0)), (1, .int (iI a1)), (2, .int (iI a2)), (3, .int (iI a3))] := hl
  replace hG : gW D cy b (nn S0 - 3) s s.heap [] (eG b cy S0) := hG
  obtain ⟨H, eH⟩ : ∃ H, H = s.heap := ⟨_, rfl⟩
  obtain ⟨locs, elocs⟩ : ∃ locs : List Loc, locs = [] := ⟨_, rfl⟩
  rw [← eH, ← elocs] at hG
  rw [← eH, ← elocs]
  clear eH elocs
  unfold mX11_rankOfRead at hM
  obtain ⟨hge, hM⟩ := entG_some hM
  replace hG : gX D cy b s H locs S0 0 0 S0 o2 := gX.start hG hsz hn hge
  refine lv_iconst (v := iI 0) hx hb dX11_rankOfRead_0 (by decide) ?_
  refine lv_istore (lv' := [(4, .int (iI 0)), (0, .ref (b + 0)), (1, .int (iI a1)), (2, .int (iI a2)), (3, .int (iI a3))]) hx hb dX11_rankOfRead_1 hl (by decide) rfl (fun ls hl => ?_)
  refine lv_iconst (v := iI 0) hx hb dX11_rankOfRead_3 (by decide) ?_
  refine lv_istore (lv' := [(5, .int (iI 0)), (4, .int (iI 0)), (0, .ref (b + 0)), (1, .int (iI a1)), (2, .int (iI a2)), (3, .int (iI a3))]) hx hb dX11_rankOfRead_4 hl (by decide) rfl (fun ls hl => ?_)
  obtain ⟨y_4, S_5, hc_6, hM⟩ := bd2_some hM
  have hK_7 : ∀ (ce sl : Nat) (H : Heap) (locs : List Loc) (ls : Array Slot), gX D cy b s H locs S_5 ce sl S0 o2 → lv_has ls 8 [(0, .ref (b + 0)), (1, .int (iI a1)), (2, .int (iI a2)), (3, .int (iI a3)), (4, .int (iI y_4))] → W p l e (gRm 30 (nn o2 - nn S0) (zz o2 - zz S0)) s m args below meth c H locs ce sl (gQI D cy b s args below (nn o2 - nn S0) (zz o2 - zz S0) (fun r u => r = iI o1 ∧ u = (nn o2 - 3, eG b cy o2))) (F0 m 57 ls []) := by
    intro ce sl H locs ls hG hl
    refine lv_iconst (v := iI 0) hx hb dX11_rankOfRead_57 (by decide) ?_
    refine lv_istore (lv' := [(5, .int (iI 0)), (0, .ref (b + 0)), (1, .int (iI a1)), (2, .int (iI a2)), (3, .int (iI a3)), (4, .int (iI y_4))]) hx hb dX11_rankOfRead_58 hl (by decide) rfl (fun ls hl => ?_)
    refine lv_aload_n hx hb dX11_rankOfRead_60 rfl (lv_at hl 1 rfl) ?_
    refine m_get S hG.1 0 0 7 rfl ec_0 cpX11 wm_672 dX11_rankOfRead_61 rfl (Nat.lt_of_lt_of_le (Nat.le_of_ble_eq_true rfl) hG.2.2.2.1) (by decide) ?_
    refine lv_iload_n hx hb dX11_rankOfRead_64 rfl (lv_at hl 2 rfl) ?_
    refine lv_iload_n hx hb dX11_rankOfRead_65 rfl (lv_at hl 3 rfl) ?_
    obtain ⟨r_9, hc_8, hM⟩ := bd1_some hM
    refine g_vl (As := [.int (iI a1), .int (iI a2)]) (rest := []) S hG.1 hG.2.1 (vX0_thingsAt_40 l hG.2.2.2.1 a1 a2 hc_8) wV_11_206 (ec_40 (b := b) (cy := cy) (X := XD b cy S_5) _) cpX0 (Nat.lt_of_lt_of_le (Nat.le_of_ble_eq_true rfl) hG.2.2.2.1) dX11_rankOfRead_66 rfl hl.1 (ar := 2) (by decide +kernel) rfl ⟨Nat.le_of_ble_eq_true rfl, Nat.le_of_ble_eq_true rfl, hG.rc, hG.rs⟩ (Nat.le_of_ble_eq_true rfl) (fun rv uu H locs hp hGc => ?_)
    obtain ⟨rfl, rfl⟩ := hp
    refine wz ?_
    replace hG := hG.same hGc
    clear hGc
    refine gj_l2i hx hb dX11_rankOfRead_69 ?_
    refine lv_istore (lv' := [(6, .int (iI r_9)), (5, .int (iI 0)), (0, .ref (b + 0)), (1, .int (iI a1)), (2, .int (iI a2)), (3, .int (iI a3)), (4, .int (iI y_4))]) hx hb dX11_rankOfRead_70 hl (by decide) rfl (fun ls hl => ?_)
    refine lv_iconst (v := iI 0) hx hb dX11_rankOfRead_72 (by decide) ?_
    refine lv_istore (lv' := [(7, .int (iI 0)), (6, .int (iI r_9)), (5, .int (iI 0)), (0, .ref (b + 0)), (1, .int (iI a1)), (2, .int (iI a2)), (3, .int (iI a3)), (4, .int (iI y_4))]) hx hb dX11_rankOfRead_73 hl (by decide) rfl (fun ls hl => ?_)
    obtain ⟨y_13, y_14, hc_15, hM⟩ := bd2_some hM
    have hK_16 : ∀ (ce sl : Nat) (H : Heap) (locs : List Loc) (ls : Array Slot), gX D cy b s H locs S_5 ce sl S0 o2 → lv_has ls 8 [(0, .ref (b + 0)), (1, .int (iI a1)), (2, .int (iI a2)), (3, .int (iI a3)), (4, .int (iI y_4)), (5, .int (iI y_13)), (6, .int (iI y_14))] → W p l e (gRm 30 (nn o2 - nn S0) (zz o2 - zz S0)) s m args below meth c H locs ce sl (gQI D cy b s args below (nn o2 - nn S0) (zz o2 - zz S0) (fun r u => r = iI o1 ∧ u = (nn o2 - 3, eG b cy o2))) (F0 m 153 ls []) := by
      intro ce sl H locs ls hG hl
      refine lv_iload hx hb dX11_rankOfRead_153 (lv_at hl 5 rfl) ?_
      refine lv_istore (lv' := [(7, .int (iI y_13)), (0, .ref (b + 0)), (1, .int (iI a1)), (2, .int (iI a2)), (3, .int (iI a3)), (4, .int (iI y_4)), (5, .int (iI y_13)), (6, .int (iI y_14))]) hx hb dX11_rankOfRead_155 hl (by decide) rfl (fun ls hl => ?_)
      obtain ⟨t_19, y_20, S_21, hc_22, hg_23, hg_24, hM⟩ := bdG3_some hM
      have hub_25 : gle S_21 o2 := ⟨Nat.le_trans hg_24.1 gle_rfl.1, Nat.le_trans hg_24.2 gle_rfl.2⟩
      have hK_26 : ∀ (ce sl : Nat) (H : Heap) (locs : List Loc) (ls : Array Slot), t_19 = 0 → gX D cy b s H locs S_21 ce sl S0 o2 → lv_has ls 8 [(7, .int (iI y_20))] → W p l e (gRm 30 (nn o2 - nn S0) (zz o2 - zz S0)) s m args below meth c H locs ce sl (gQI D cy b s args below (nn o2 - nn S0) (zz o2 - zz S0) (fun r u => r = iI o1 ∧ u = (nn o2 - 3, eG b cy o2))) (F0 m 237 ls []) := by
        intro ce sl H locs ls ht hG hl
        subst ht
        replace hM := ifp hM rfl
        refine lv_iload hx hb dX11_rankOfRead_237 (lv_at hl 0 rfl) ?_
        cases hM
        exact g_iret S hr hlk hG.1 hG.2.1 dX11_rankOfRead_239 ⟨hG.rc, hG.rs⟩ ⟨rfl, rfl⟩
      have hK_27 : ∀ (ce sl : Nat) (H : Heap) (locs : List Loc) (ls : Array Slot), t_19 = 1 → gX D cy b s H locs S_21 ce sl S0 o2 → lv_has ls 8 [] → W p l e (gRm 30 (nn o2 - nn S0) (zz o2 - zz S0)) s m args below meth c H locs ce sl (gQI D cy b s args below (nn o2 - nn S0) (zz o2 - zz S0) (fun r u => r = iI o1 ∧ u = (nn o2 - 3, eG b cy o2))) (F0 m 246 ls []) := by
        intro ce sl H locs ls ht hG hl
        subst ht
        replace hM := ifn hM (by decide)
        refine lv_iconst (v := iI (-1)) hx hb dX11_rankOfRead_246 (by decide) ?_
        cases hM
        exact g_iret S hr hlk hG.1 hG.2.1 dX11_rankOfRead_247 ⟨hG.rc, hG.rs⟩ ⟨rfl, rfl⟩
      have loop_28 : ∀ (f : Nat) (v_17 : Int) (S_18 : St) (ce sl : Nat) (H : Heap) (locs : List Loc) (ls : Array Slot), mX11_rankOfRead_157 a1 a2 a3 y_4 y_14 f v_17 S_18 = some (t_19, y_20, S_21) → gX D cy b s H locs S_18 ce sl S0 o2 → lv_has ls 8 [(7, .int (iI v_17)), (0, .ref (b + 0)), (1, .int (iI a1)), (2, .int (iI a2)), (3, .int (iI a3)), (4, .int (iI y_4)), (6, .int (iI y_14))] → W p l e (gRm 30 (nn o2 - nn S0) (zz o2 - zz S0)) s m args below meth c H locs ce sl (gQI D cy b s args below (nn o2 - nn S0) (zz o2 - zz S0) (fun r u => r = iI o1 ∧ u = (nn o2 - 3, eG b cy o2))) (F0 m 157 ls []) := by
        clear hM
        intro f
        induction f with
        | zero => intro v_17 S_18 ce sl H locs ls hM; rw [mX11_rankOfRead_157] at hM; cases hM
        | succ f_30 ih_29 =>
          intro v_17 S_18 ce sl H locs ls hM hG hl
          rw [mX11_rankOfRead_157] at hM
          refine lv_iload hx hb dX11_rankOfRead_157 (lv_at hl 0 rfl) ?_
          refine lv_iload hx hb dX11_rankOfRead_159 (lv_at hl 6 rfl) ?_
          obtain ⟨hg_31, hM⟩ := gd_some hM
          refine gi_icmp_ge (tgt := 246) hx hb dX11_rankOfRead_161 (by decide) hg_31.1 hg_31.2 (fun c_32 => ?_) (fun c_32 => ?_)
          · replace hM := ifp hM c_32
            cases hM
            exact hK_27 _ _ H locs ls rfl hG (lv_sub hl [] rfl)
          · replace hM := ifn hM c_32
            refine lv_aload_n hx hb dX11_rankOfRead_164 rfl (lv_at hl 1 rfl) ?_
            refine m_get S hG.1 0 0 9 rfl ec_0 cpX11 wm_674 dX11_rankOfRead_165 rfl (Nat.lt_of_lt_of_le (Nat.le_of_ble_eq_true rfl) hG.2.2.2.1) (by decide) ?_
            refine lv_iload_n hx hb dX11_rankOfRead_168 rfl (lv_at hl 2 rfl) ?_
            refine lv_iload_n hx hb dX11_rankOfRead_169 rfl (lv_at hl 3 rfl) ?_
            refine lv_iload hx hb dX11_rankOfRead_170 (lv_at hl 0 rfl) ?_
            refine lv_aload_n hx hb dX11_rankOfRead_172 rfl (lv_at hl 1 rfl) ?_
            refine m_get S hG.1 0 0 16 rfl ec_0 cpX11 wm_681 dX11_rankOfRead_173 rfl (Nat.lt_of_lt_of_le (Nat.le_of_ble_eq_true rfl) hG.2.2.2.1) (by decide) ?_
            obtain ⟨S_34, hc_33, hg_35, hg_36, hM⟩ := bdG1_some hM
            have hg_37 : gle S_34 o2 := ⟨Nat.le_trans hg_36.1 hub_25.1, Nat.le_trans hg_36.2 hub_25.2⟩
            refine g_vv (As := [.int (iI a1), .int (iI a2), .int (iI v_17), .int (iI (S_18 0 16))]) (rest := []) S hG.1 hG.2.1 (vX9_spell l hG.2.2.2.1 a1 a2 v_17 (S_18 0 16) hc_33) wV_11_255 (ec_60 (b := b) (cy := cy) (X := XD b cy S_18) _) cpX9 (Nat.lt_of_lt_of_le (Nat.le_of_ble_eq_true rfl) hG.2.2.2.1) dX11_rankOfRead_176 rfl hl.1 (ar := 4) (by decide +kernel) rfl ⟨Nat.le_of_ble_eq_true rfl, Nat.le_of_ble_eq_true rfl, hG.gc hg_35 hg_37, hG.gs hg_35 hg_37⟩ (Nat.le_of_ble_eq_true rfl) (fun uu H locs hp hGc => ?_)
            obtain rfl := hp
            replace hG := hG.grow hg_35 hg_37 hGc
            clear hGc
            refine lv_aload_n hx hb dX11_rankOfRead_179 rfl (lv_at hl 1 rfl) ?_
            refine m_get S hG.1 0 0 9 rfl ec_0 cpX11 wm_674 dX11_rankOfRead_180 rfl (Nat.lt_of_lt_of_le (Nat.le_of_ble_eq_true rfl) hG.2.2.2.1) (by decide) ?_
            refine m_get S hG.1 58 60 4 rfl ec_60 cpX9 wm_501 dX11_rankOfRead_183 rfl (Nat.lt_of_lt_of_le (Nat.le_of_ble_eq_true rfl) hG.2.2.2.1) (by decide) ?_
            refine lv_iload_n hx hb dX11_rankOfRead_186 rfl (lv_at hl 4 rfl) ?_
            obtain ⟨hg_38, hM⟩ := gd_some hM
            refine gi_icmp_ne (tgt := 240) hx hb dX11_rankOfRead_187 (by decide) hg_38.1 hg_38.2 (fun c_39 => ?_) (fun c_39 => ?_)
            · replace hM := ifn hM c_39
              refine lv_iinc (v := iI (v_17 + 1)) (lv' := [(7, .int (iI (v_17 + 1))), (0, .ref (b + 0)), (1, .int (iI a1)), (2, .int (iI a2)), (3, .int (iI a3)), (4, .int (iI y_4)), (6, .int (iI y_14))]) hx hb dX11_rankOfRead_240 hl (k := 0) rfl ((iI_add v_17 (1)).trans (congrArg iI (by omega))) (by decide) rfl (fun ls hl => ?_)
              refine lv_goto (tgt := 157) hx hb dX11_rankOfRead_243 (by decide) ?_
              exact ih_29 (v_17 + 1) S_34 _ _ H locs ls hM hG (lv_sub hl [0, 1, 2, 3, 4, 5, 6] rfl)
            · replace hM := ifp hM c_39
              refine lv_aload_n hx hb dX11_rankOfRead_190 rfl (lv_at hl 1 rfl) ?_
              refine m_get S hG.1 0 0 9 rfl ec_0 cpX11 wm_674 dX11_rankOfRead_191 rfl (Nat.lt_of_lt_of_le (Nat.le_of_ble_eq_true rfl) hG.2.2.2.1) (by decide) ?_
              refine m_get S hG.1 58 60 8 rfl ec_60 cpX9 wm_511 dX11_rankOfRead_194 rfl (Nat.lt_of_lt_of_le (Nat.le_of_ble_eq_true rfl) hG.2.2.2.1) (by decide) ?_
              refine lv_iload hx hb dX11_rankOfRead_197 (lv_at hl 5 rfl) ?_
              obtain ⟨hg_40, hM⟩ := gd_some hM
              refine gi_icmp_ne (tgt := 240) hx hb dX11_rankOfRead_199 (by decide) hg_40.1 hg_40.2 (fun c_41 => ?_) (fun c_41 => ?_)
              · replace hM := ifn hM c_41
                refine lv_iinc (v := iI (v_17 + 1)) (lv' := [(7, .int (iI (v_17 + 1))), (0, .ref (b + 0)), (1, .int (iI a1)), (2, .int (iI a2)), (3, .int (iI a3)), (4, .int (iI y_4)), (6, .int (iI y_14))]) hx hb dX11_rankOfRead_240 hl (k := 0) rfl ((iI_add v_17 (1)).trans (congrArg iI (by omega))) (by decide) rfl (fun ls hl => ?_)
                refine lv_goto (tgt := 157) hx hb dX11_rankOfRead_243 (by decide) ?_
                exact ih_29 (v_17 + 1) S_34 _ _ H locs ls hM hG (lv_sub hl [0, 1, 2, 3, 4, 5, 6] rfl)
              · replace hM := ifp hM c_41
                refine lv_aload_n hx hb dX11_rankOfRead_202 rfl (lv_at hl 1 rfl) ?_
                refine m_get S hG.1 0 0 10 rfl ec_0 cpX11 wm_675 dX11_rankOfRead_203 rfl (Nat.lt_of_lt_of_le (Nat.le_of_ble_eq_true rfl) hG.2.2.2.1) (by decide) ?_
                refine lv_iload_n hx hb dX11_rankOfRead_206 rfl (lv_at hl 2 rfl) ?_
                refine lv_aload_n hx hb dX11_rankOfRead_207 rfl (lv_at hl 1 rfl) ?_
                refine m_get S hG.1 0 0 9 rfl ec_0 cpX11 wm_674 dX11_rankOfRead_208 rfl (Nat.lt_of_lt_of_le (Nat.le_of_ble_eq_true rfl) hG.2.2.2.1) (by decide) ?_
                refine m_get (v := .ref (b + ph (Int.toNat (S_34 60 3)))) S hG.1 58 60 3 rfl ec_60 cpX9 wm_499 dX11_rankOfRead_211 rfl (Nat.lt_of_lt_of_le (Nat.le_of_ble_eq_true rfl) hG.2.2.2.1) (by decide) ?_
                refine lv_iload_n hx hb dX11_rankOfRead_214 rfl (lv_at hl 4 rfl) ?_
                obtain ⟨r_43, S_44, hc_42, hg_45, hg_46, hM⟩ := bdG2_some hM
                have hg_47 : gle S_44 o2 := ⟨Nat.le_trans hg_46.1 hub_25.1, Nat.le_trans hg_46.2 hub_25.2⟩
                refine g_vi (As := [.int (iI a1), .ref (b + ph (Int.toNat (S_34 60 3))), .int (iI a3)]) (rest := []) S hG.1 hG.2.1 (vX10_read_67_dB l hG.2.2.2.1 a1 (S_34 60 3) a3 hc_42) wV_11_284 (ec_67 (b := b) (cy := cy) (X := XD b cy S_34) _) cpX10 (Nat.lt_of_lt_of_le (Nat.le_of_ble_eq_true rfl) hG.2.2.2.1) dX11_rankOfRead_215 rfl hl.1 (ar := 3) (by decide +kernel) rfl ⟨Nat.le_of_ble_eq_true rfl, Nat.le_of_ble_eq_true rfl, hG.gc hg_45 hg_47, hG.gs hg_45 hg_47⟩ (Nat.le_of_ble_eq_true rfl) (fun rv uu H locs hp hGc => ?_)
                obtain ⟨rfl, rfl⟩ := hp
                replace hG := hG.grow hg_45 hg_47 hGc
                clear hGc
                refine lv_iload_n hx hb dX11_rankOfRead_218 rfl (lv_at hl 3 rfl) ?_
                obtain ⟨hg_48, hM⟩ := gd_some hM
                refine gi_icmp_ne (tgt := 240) hx hb dX11_rankOfRead_219 (by decide) hg_48.1 hg_48.2 (fun c_49 => ?_) (fun c_49 => ?_)
                · replace hM := ifn hM c_49
                  refine lv_iinc (v := iI (v_17 + 1)) (lv' := [(7, .int (iI (v_17 + 1))), (0, .ref (b + 0)), (1, .int (iI a1)), (2, .int (iI a2)), (3, .int (iI a3)), (4, .int (iI y_4)), (6, .int (iI y_14))]) hx hb dX11_rankOfRead_240 hl (k := 0) rfl ((iI_add v_17 (1)).trans (congrArg iI (by omega))) (by decide) rfl (fun ls hl => ?_)
                  refine lv_goto (tgt := 157) hx hb dX11_rankOfRead_243 (by decide) ?_
                  exact ih_29 (v_17 + 1) S_44 _ _ H locs ls hM hG (lv_sub hl [0, 1, 2, 3, 4, 5, 6] rfl)
                · replace hM := ifp hM c_49
                  refine lv_aload_n hx hb dX11_rankOfRead_222 rfl (lv_at hl 1 rfl) ?_
                  refine m_get S hG.1 0 0 10 rfl ec_0 cpX11 wm_675 dX11_rankOfRead_223 rfl (Nat.lt_of_lt_of_le (Nat.le_of_ble_eq_true rfl) hG.2.2.2.1) (by decide) ?_
                  refine lv_aload_n hx hb dX11_rankOfRead_226 rfl (lv_at hl 1 rfl) ?_
                  refine m_get S hG.1 0 0 13 rfl ec_0 cpX11 wm_678 dX11_rankOfRead_227 rfl (Nat.lt_of_lt_of_le (Nat.le_of_ble_eq_true rfl) hG.2.2.2.1) (by decide) ?_
                  refine lv_iload_n hx hb dX11_rankOfRead_230 rfl (lv_at hl 4 rfl) ?_
                  obtain ⟨r_51, hc_50, hM⟩ := bd1_some hM
                  refine g_vi (As := [.ref (b + 78), .int (iI a3)]) (rest := []) S hG.1 hG.2.1 (vX10_holds_67_81 l hG.2.2.2.1 a3 hc_50) wV_11_300 (ec_67 (b := b) (cy := cy) (X := XD b cy S_44) _) cpX10 (Nat.lt_of_lt_of_le (Nat.le_of_ble_eq_true rfl) hG.2.2.2.1) dX11_rankOfRead_231 rfl hl.1 (ar := 2) (by decide +kernel) rfl ⟨Nat.le_of_ble_eq_true rfl, Nat.le_of_ble_eq_true rfl, hG.rc, hG.rs⟩ (Nat.le_of_ble_eq_true rfl) (fun rv uu H locs hp hGc => ?_)
                  obtain ⟨rfl, rfl⟩ := hp
                  refine wz ?_
                  replace hG := hG.same hGc
                  clear hGc
                  obtain ⟨hg_52, hM⟩ := gd_some hM
                  refine gi_if_eq (tgt := 240) hx hb dX11_rankOfRead_234 (by decide) hg_52 (fun c_53 => ?_) (fun c_53 => ?_)
                  · replace hM := ifp hM c_53
                    refine lv_iinc (v := iI (v_17 + 1)) (lv' := [(7, .int (iI (v_17 + 1))), (0, .ref (b + 0)), (1, .int (iI a1)), (2, .int (iI a2)), (3, .int (iI a3)), (4, .int (iI y_4)), (6, .int (iI y_14))]) hx hb dX11_rankOfRead_240 hl (k := 0) rfl ((iI_add v_17 (1)).trans (congrArg iI (by omega))) (by decide) rfl (fun ls hl => ?_)
                    refine lv_goto (tgt := 157) hx hb dX11_rankOfRead_243 (by decide) ?_
                    exact ih_29 (v_17 + 1) S_44 _ _ H locs ls hM hG (lv_sub hl [0, 1, 2, 3, 4, 5, 6] rfl)
                  · replace hM := ifn hM c_53
                    cases hM
                    exact hK_26 _ _ H locs ls rfl hG (lv_sub hl [0] rfl)
      exact loop_28 FU y_13 S_5 _ _ H locs ls hc_22 hG (lv_sub hl [0, 1, 2, 3, 4, 5, 7] rfl)
    have loop_54 : ∀ (f : Nat) (v_10 : Int) (v_11 : Int) (v_12 : Int) (ce sl : Nat) (H : Heap) (locs : List Loc) (ls : Array Slot), mX11_rankOfRead_75 S_5 a1 a2 a3 y_4 f v_10 v_11 v_12 = some (y_13, y_14) → gX D cy b s H locs S_5 ce sl S0 o2 → lv_has ls 8 [(7, .int (iI v_10)), (6, .int (iI v_11)), (5, .int (iI v_12)), (0, .ref (b + 0)), (1, .int (iI a1)), (2, .int (iI a2)), (3, .int (iI a3)), (4, .int (iI y_4))] → W p l e (gRm 30 (nn o2 - nn S0) (zz o2 - zz S0)) s m args below meth c H locs ce sl (gQI D cy b s args below (nn o2 - nn S0) (zz o2 - zz S0) (fun r u => r = iI o1 ∧ u = (nn o2 - 3, eG b cy o2))) (F0 m 75 ls []) := by
      clear hM
      intro f
      induction f with
      | zero => intro v_10 v_11 v_12 ce sl H locs ls hM; rw [mX11_rankOfRead_75] at hM; cases hM
      | succ f_56 ih_55 =>
        intro v_10 v_11 v_12 ce sl H locs ls hM hG hl
        rw [mX11_rankOfRead_75] at hM
        refine lv_aload_n hx hb dX11_rankOfRead_75 rfl (lv_at hl 3 rfl) ?_
        refine m_get S hG.1 0 0 2 rfl ec_0 cpX11 wm_667 dX11_rankOfRead_76 rfl (Nat.lt_of_lt_of_le (Nat.le_of_ble_eq_true rfl) hG.2.2.2.1) (by decide) ?_
        refine m_get S hG.1 2 2 10 rfl ec_2 cpX2 wm_266 dX11_rankOfRead_79 rfl (Nat.lt_of_lt_of_le (Nat.le_of_ble_eq_true rfl) hG.2.2.2.1) (by decide) ?_
        refine lv_iload_n hx hb dX11_rankOfRead_82 rfl (lv_at hl 4 rfl) ?_
        obtain ⟨hg_57, hM⟩ := gd_some hM
        refine mi_ald S hG.1 8 8 rfl ec_8 (Nat.lt_of_lt_of_le (Nat.le_of_ble_eq_true rfl) hG.2.2.2.1) dX11_rankOfRead_83 hg_57 (by decide) ?_
        refine lv_iconst (v := iI 1) hx hb dX11_rankOfRead_84 (by decide) ?_
        obtain ⟨hg_58, hM⟩ := gd_some hM
        refine gi_icmp_le (tgt := 153) hx hb dX11_rankOfRead_85 (by decide) hg_58 (by decide) (fun c_59 => ?_) (fun c_59 => ?_)
        · replace hM := ifp hM c_59
          cases hM
          exact hK_16 _ _ H locs ls hG (lv_sub hl [3, 4, 5, 6, 7, 2, 1] rfl)
        · replace hM := ifn hM c_59
          refine lv_iload hx hb dX11_rankOfRead_88 (lv_at hl 0 rfl) ?_
          refine lv_aload_n hx hb dX11_rankOfRead_90 rfl (lv_at hl 3 rfl) ?_
          refine m_get S hG.1 0 0 13 rfl ec_0 cpX11 wm_678 dX11_rankOfRead_91 rfl (Nat.lt_of_lt_of_le (Nat.le_of_ble_eq_true rfl) hG.2.2.2.1) (by decide) ?_
          refine lv_iconst (v := iI 0) hx hb dX11_rankOfRead_94 (by decide) ?_
          refine mb_ald S hG.1 78 81 rfl ec_81 (Nat.lt_of_lt_of_le (Nat.le_of_ble_eq_true rfl) hG.2.2.2.1) dX11_rankOfRead_95 (by decide) (by decide) ?_
          refine lv_bipush (v := iI 48) hx hb dX11_rankOfRead_96 (by decide) ?_
          refine gi_sub hx hb dX11_rankOfRead_98 ?_
          obtain ⟨hg_60, hM⟩ := gd_some hM
          refine gi_icmp_gt (tgt := 153) hx hb dX11_rankOfRead_99 (by decide) hg_60.1 hg_60.2 (fun c_61 => ?_) (fun c_61 => ?_)
          · replace hM := ifp hM c_61
            cases hM
            exact hK_16 _ _ H locs ls hG (lv_sub hl [3, 4, 5, 6, 7, 2, 1] rfl)
          · replace hM := ifn hM c_61
            refine lv_iload hx hb dX11_rankOfRead_102 (lv_at hl 0 rfl) ?_
            obtain ⟨z_62, hc_63, hM⟩ := bd1_some hM
            have hK_64 : ∀ (ce sl : Nat) (H : Heap) (locs : List Loc) (ls : Array Slot), gX D cy b s H locs S_5 ce sl S0 o2 → lv_has ls 8 [(7, .int (iI v_10)), (0, .ref (b + 0)), (1, .int (iI a1)), (2, .int (iI a2)), (3, .int (iI a3)), (4, .int (iI y_4))] → W p l e (gRm 30 (nn o2 - nn S0) (zz o2 - zz S0)) s m args below meth c H locs ce sl (gQI D cy b s args below (nn o2 - nn S0) (zz o2 - zz S0) (fun r u => r = iI o1 ∧ u = (nn o2 - 3, eG b cy o2))) (F0 m 128 ls [.int (iI z_62)]) := by
              intro ce sl H locs ls hG hl
              refine lv_istore (lv' := [(5, .int (iI z_62)), (7, .int (iI v_10)), (0, .ref (b + 0)), (1, .int (iI a1)), (2, .int (iI a2)), (3, .int (iI a3)), (4, .int (iI y_4))]) hx hb dX11_rankOfRead_128 hl (by decide) rfl (fun ls hl => ?_)
              refine lv_iload hx hb dX11_rankOfRead_130 (lv_at hl 0 rfl) ?_
              refine lv_aload_n hx hb dX11_rankOfRead_132 rfl (lv_at hl 2 rfl) ?_
              refine m_get S hG.1 0 0 7 rfl ec_0 cpX11 wm_672 dX11_rankOfRead_133 rfl (Nat.lt_of_lt_of_le (Nat.le_of_ble_eq_true rfl) hG.2.2.2.1) (by decide) ?_
              refine lv_iload_n hx hb dX11_rankOfRead_136 rfl (lv_at hl 3 rfl) ?_
              refine lv_iload hx hb dX11_rankOfRead_137 (lv_at hl 1 rfl) ?_
              refine lv_iload_n hx hb dX11_rankOfRead_139 rfl (lv_at hl 4 rfl) ?_
              obtain ⟨r_66, hc_65, hM⟩ := bd1_some hM
              refine g_vl (As := [.int (iI a1), .int (iI v_10), .int (iI a2)]) (rest := [.int (iI z_62)]) S hG.1 hG.2.1 (vX0_byTerm_40 l hG.2.2.2.1 a1 v_10 a2 hc_65) wV_11_231 (ec_40 (b := b) (cy := cy) (X := XD b cy S_5) _) cpX0 (Nat.lt_of_lt_of_le (Nat.le_of_ble_eq_true rfl) hG.2.2.2.1) dX11_rankOfRead_140 rfl hl.1 (ar := 3) (by decide +kernel) rfl ⟨Nat.le_of_ble_eq_true rfl, Nat.le_of_ble_eq_true rfl, hG.rc, hG.rs⟩ (Nat.le_of_ble_eq_true rfl) (fun rv uu H locs hp hGc => ?_)
              obtain ⟨rfl, rfl⟩ := hp
              refine wz ?_
              replace hG := hG.same hGc
              clear hGc
              refine gj_l2i hx hb dX11_rankOfRead_143 ?_
              refine gi_add hx hb dX11_rankOfRead_144 ?_
              refine gi_nm (fun x_67 ex_67 => ?_)
              replace hM := nx_at hM ex_67
              clear ex_67
              refine lv_istore (lv' := [(6, .int (iI x_67)), (5, .int (iI z_62)), (7, .int (iI v_10)), (0, .ref (b + 0)), (1, .int (iI a1)), (2, .int (iI a2)), (3, .int (iI a3)), (4, .int (iI y_4))]) hx hb dX11_rankOfRead_145 hl (by decide) rfl (fun ls hl => ?_)
              refine lv_iinc (v := iI (v_10 + 1)) (lv' := [(7, .int (iI (v_10 + 1))), (6, .int (iI x_67)), (5, .int (iI z_62)), (0, .ref (b + 0)), (1, .int (iI a1)), (2, .int (iI a2)), (3, .int (iI a3)), (4, .int (iI y_4))]) hx hb dX11_rankOfRead_147 hl (k := 2) rfl ((iI_add v_10 (1)).trans (congrArg iI (by omega))) (by decide) rfl (fun ls hl => ?_)
              refine lv_goto (tgt := 75) hx hb dX11_rankOfRead_150 (by decide) ?_
              exact ih_55 (v_10 + 1) x_67 z_62 _ _ H locs ls hM hG (lv_sub hl [0, 1, 2, 3, 4, 5, 6, 7] rfl)
            clear hM
            replace hM := hc_63
            refine gi_if_ne (tgt := 111) hx hb dX11_rankOfRead_104 (by decide) hg_60.1 (fun c_68 => ?_) (fun c_68 => ?_)
            · replace hM := ifn hM c_68
              refine lv_iload hx hb dX11_rankOfRead_111 (lv_at hl 2 rfl) ?_
              refine lv_aload_n hx hb dX11_rankOfRead_113 rfl (lv_at hl 3 rfl) ?_
              refine m_get S hG.1 0 0 7 rfl ec_0 cpX11 wm_672 dX11_rankOfRead_114 rfl (Nat.lt_of_lt_of_le (Nat.le_of_ble_eq_true rfl) hG.2.2.2.1) (by decide) ?_
              refine lv_iload_n hx hb dX11_rankOfRead_117 rfl (lv_at hl 4 rfl) ?_
              refine lv_iload hx hb dX11_rankOfRead_118 (lv_at hl 0 rfl) ?_
              refine lv_iconst (v := iI 1) hx hb dX11_rankOfRead_120 (by decide) ?_
              refine gi_sub hx hb dX11_rankOfRead_121 ?_
              refine lv_iload_n hx hb dX11_rankOfRead_122 rfl (lv_at hl 5 rfl) ?_
              obtain ⟨r_70, hc_69, hM⟩ := bd1_some hM
              refine g_vl (As := [.int (iI a1), .int (iI (v_10 - 1)), .int (iI a2)]) (rest := [.int (iI v_12)]) S hG.1 hG.2.1 (vX0_byTerm_40 l hG.2.2.2.1 a1 (v_10 - 1) a2 hc_69) wV_11_231 (ec_40 (b := b) (cy := cy) (X := XD b cy S_5) _) cpX0 (Nat.lt_of_lt_of_le (Nat.le_of_ble_eq_true rfl) hG.2.2.2.1) dX11_rankOfRead_123 rfl hl.1 (ar := 3) (by decide +kernel) rfl ⟨Nat.le_of_ble_eq_true rfl, Nat.le_of_ble_eq_true rfl, hG.rc, hG.rs⟩ (Nat.le_of_ble_eq_true rfl) (fun rv uu H locs hp hGc => ?_)
              obtain ⟨rfl, rfl⟩ := hp
              refine wz ?_
              replace hG := hG.same hGc
              clear hGc
              refine gj_l2i hx hb dX11_rankOfRead_126 ?_
              refine gi_add hx hb dX11_rankOfRead_127 ?_
              cases hM
              exact hK_64 _ _ H locs ls hG (lv_sub hl [0, 3, 4, 5, 6, 7] rfl)
            · replace hM := ifp hM c_68
              refine lv_iconst (v := iI 0) hx hb dX11_rankOfRead_107 (by decide) ?_
              refine lv_goto (tgt := 128) hx hb dX11_rankOfRead_108 (by decide) ?_
              cases hM
              exact hK_64 _ _ H locs ls hG (lv_sub hl [0, 3, 4, 5, 6, 7] rfl)
    exact loop_54 FU 0 r_9 0 _ _ H locs ls hc_15 hG (lv_sub hl [0, 1, 2, 3, 4, 5, 6, 7] rfl)
  have loop_71 : ∀ (f : Nat) (v_1 : Int) (v_2 : Int) (S_3 : St) (ce sl : Nat) (H : Heap) (locs : List Loc) (ls : Array Slot), mX11_rankOfRead_6 a1 a2 a3 f v_1 v_2 S_3 = some (y_4, S_5) → gX D cy b s H locs S_3 ce sl S0 o2 → lv_has ls 8 [(5, .int (iI v_1)), (4, .int (iI v_2)), (0, .ref (b + 0)), (1, .int (iI a1)), (2, .int (iI a2)), (3, .int (iI a3))] → W p l e (gRm 30 (nn o2 - nn S0) (zz o2 - zz S0)) s m args below meth c H locs ce sl (gQI D cy b s args below (nn o2 - nn S0) (zz o2 - zz S0) (fun r u => r = iI o1 ∧ u = (nn o2 - 3, eG b cy o2))) (F0 m 6 ls []) := by
    clear hM
    intro f
    induction f with
    | zero => intro v_1 v_2 S_3 ce sl H locs ls hM; rw [mX11_rankOfRead_6] at hM; cases hM
    | succ f_73 ih_72 =>
      intro v_1 v_2 S_3 ce sl H locs ls hM hG hl
      rw [mX11_rankOfRead_6] at hM
      refine lv_iload hx hb dX11_rankOfRead_6 (lv_at hl 0 rfl) ?_
      refine lv_iload_n hx hb dX11_rankOfRead_8 rfl (lv_at hl 5 rfl) ?_
      obtain ⟨hg_74, hM⟩ := gd_some hM
      refine gi_icmp_ge (tgt := 57) hx hb dX11_rankOfRead_9 (by decide) hg_74.1 hg_74.2 (fun c_75 => ?_) (fun c_75 => ?_)
      · replace hM := ifp hM c_75
        cases hM
        exact hK_7 _ _ H locs ls hG (lv_sub hl [2, 3, 4, 5, 1] rfl)
      · replace hM := ifn hM c_75
        refine lv_iload hx hb dX11_rankOfRead_12 (lv_at hl 0 rfl) ?_
        refine lv_bipush (v := iI 40) hx hb dX11_rankOfRead_14 (by decide) ?_
        refine gi_icmp_ge (tgt := 57) hx hb dX11_rankOfRead_16 (by decide) hg_74.1 (by decide) (fun c_76 => ?_) (fun c_76 => ?_)
        · replace hM := ifp hM c_76
          cases hM
          exact hK_7 _ _ H locs ls hG (lv_sub hl [2, 3, 4, 5, 1] rfl)
        · replace hM := ifn hM c_76
          refine lv_aload_n hx hb dX11_rankOfRead_19 rfl (lv_at hl 2 rfl) ?_
          refine m_get S hG.1 0 0 13 rfl ec_0 cpX11 wm_678 dX11_rankOfRead_20 rfl (Nat.lt_of_lt_of_le (Nat.le_of_ble_eq_true rfl) hG.2.2.2.1) (by decide) ?_
          refine lv_iload hx hb dX11_rankOfRead_23 (lv_at hl 0 rfl) ?_
          refine lv_aload_n hx hb dX11_rankOfRead_25 rfl (lv_at hl 2 rfl) ?_
          refine m_get S hG.1 0 0 10 rfl ec_0 cpX11 wm_675 dX11_rankOfRead_26 rfl (Nat.lt_of_lt_of_le (Nat.le_of_ble_eq_true rfl) hG.2.2.2.1) (by decide) ?_
          refine m_get S hG.1 65 67 1 rfl ec_67 cpX10 wm_559 dX11_rankOfRead_29 rfl (Nat.lt_of_lt_of_le (Nat.le_of_ble_eq_true rfl) hG.2.2.2.1) (by decide) ?_
          refine lv_iload hx hb dX11_rankOfRead_32 (lv_at hl 0 rfl) ?_
          obtain ⟨hg_77, hM⟩ := gd_some hM
          refine mb_ald S hG.1 66 68 rfl ec_68 (Nat.lt_of_lt_of_le (Nat.le_of_ble_eq_true rfl) hG.2.2.2.1) dX11_rankOfRead_34 hg_77 (by decide) ?_
          obtain ⟨hg_78, hM⟩ := gd_some hM
          refine nb_ast S hG 78 81 rfl ec_81 (by decide) dX11_rankOfRead_35 hg_77 (by decide) (nar8 hg_78) (fun H locs S_79 eS_79 hG => ?_)
          replace hM := nx_at hM eS_79
          clear eS_79
          refine lv_iload hx hb dX11_rankOfRead_36 (lv_at hl 1 rfl) ?_
          refine lv_aload_n hx hb dX11_rankOfRead_38 rfl (lv_at hl 2 rfl) ?_
          refine m_get S hG.1 0 0 13 rfl ec_0 cpX11 wm_678 dX11_rankOfRead_39 rfl (Nat.lt_of_lt_of_le (Nat.le_of_ble_eq_true rfl) hG.2.2.2.1) (by decide) ?_
          refine lv_iload hx hb dX11_rankOfRead_42 (lv_at hl 0 rfl) ?_
          refine mb_ald S hG.1 78 81 rfl ec_81 (Nat.lt_of_lt_of_le (Nat.le_of_ble_eq_true rfl) hG.2.2.2.1) dX11_rankOfRead_44 hg_77 (by decide) ?_
          obtain ⟨r_81, hc_80, hM⟩ := bd1_some hM
          refine g_si (As := [.int (iI (S_79 81 v_1))]) (rest := [.int (iI v_2)]) S hG.1 hG.2.1 (vX9_weightOf l hG.2.2.2.1 (S_79 81 v_1) hc_80) wS_11_293 dX11_rankOfRead_45 rfl hl.1 (ar := 1) (by decide +kernel) rfl ⟨Nat.le_of_ble_eq_true rfl, Nat.le_of_ble_eq_true rfl, hG.rc, hG.rs⟩ (Nat.le_of_ble_eq_true rfl) (fun rv uu H locs hp hGc => ?_)
          obtain ⟨rfl, rfl⟩ := hp
          refine wz ?_
          replace hG := hG.same hGc
          clear hGc
          refine gi_add hx hb dX11_rankOfRead_48 ?_
          refine gi_nm (fun x_82 ex_82 => ?_)
          replace hM := nx_at hM ex_82
          clear ex_82
          refine lv_istore (lv' := [(4, .int (iI x_82)), (5, .int (iI v_1)), (0, .ref (b + 0)), (1, .int (iI a1)), (2, .int (iI a2)), (3, .int (iI a3))]) hx hb dX11_rankOfRead_49 hl (by decide) rfl (fun ls hl => ?_)
          refine lv_iinc (v := iI (v_1 + 1)) (lv' := [(5, .int (iI (v_1 + 1))), (4, .int (iI x_82)), (0, .ref (b + 0)), (1, .int (iI a1)), (2, .int (iI a2)), (3, .int (iI a3))]) hx hb dX11_rankOfRead_51 hl (k := 1) rfl ((iI_add v_1 (1)).trans (congrArg iI (by omega))) (by decide) rfl (fun ls hl => ?_)
          refine lv_goto (tgt := 6) hx hb dX11_rankOfRead_54 (by decide) ?_
          exact ih_72 (v_1 + 1) x_82 S_79 _ _ H locs ls hM hG (lv_sub hl [0, 1, 2, 3, 4, 5] rfl)
  exact loop_71 FU 0 0 S0 _ _ H locs ls hc_6 hG (lv_sub hl [0, 1, 2, 3, 4, 5] rfl)
theorem wV_11_287 : gWV "GrownKinds" 287 yX11_rankOfRead cX11_rankOfRead 8 (some .int) := ⟨wm_1517, wm_1519, wm_82, wm_177, wm_1520, by decide +kernel, by decide +kernel⟩
def mX11_tells (S0 : St) (a1 : Int) : Option (Int × St) := entG S0 (fun o : Int × St => o.2) (bd1 (mX11_known S0 a1) fun r_2 => gd (inI r_2) <| if r_2 = 0 then (some ((-2), S0)) else (nx (S0 0 1) fun x_5 => nx (up S0 0 1 0) fun S_6 => bd2 (mX10_read_67_1 S_6 a1 x_5) fun r_8 S_9 => nx (msk S_9 S_6) fun S_10 => gd (inI r_8) <| if r_8 = (-1) then (some ((-4), S_10)) else (bd1 (mX0_thingsAt_40 S_10 a1 r_8) fun r_14 => gd (inL r_14) <| if r_14 ≤ 200 then (bdG2 S_10 (fun o : Int × St => o.2) (mX11_rankOfRead S_10 a1 r_8 x_5) fun r_18 S_19 => gd (inI r_18) <| if r_18 = (-1) then (some ((-4), S_19)) else (nx (up S_19 0 17 r_8) fun S_25 => nx (up S_25 0 18 r_18) fun S_26 => some (r_18, S_26))) else (some ((-3), S_10)))))
set_option maxHeartbeats 4000000 in
set_option maxRecDepth 100000 in
theorem vX11_tells (l : Launch) {D : va_G} {cy : Nat → ClassId} {b : Nat} {S0 : St} (hn : 102 ≤ nn S0 - 3) (a1 : Int) {o1 : Int} {o2 : St} (hM : mX11_tells S0 a1 = some (o1, o2)) : gI l yX11_tells cX11_tells 5 (some .int) 31 (nn o2 - nn S0) (zz o2 - zz S0) D cy b (nn S0 - 3) (eG b cy S0) [.ref (b + 0), .int (iI a1)] (fun r u => r = iI o1 ∧ u = (nn o2 - 3, eG b cy o2)) := by
  refine gI_of (by decide) (Nat.le_of_ble_eq_true rfl) ?_
  intro p e s m args below meth c S hr hlk hin hsz ls hl hG
  have hx := S.1
  have hb := S.2.1
  have hl : lv_has ls 5 [(0, .ref (b + 0)), (1, .int (iI a1))] := hl
  replace hG : gW D cy b (nn S0 - 3) s s.heap [] (eG b cy S0) := hG
  obtain ⟨H, eH⟩ : ∃ H, H = s.heap := ⟨_, rfl⟩
  obtain ⟨locs, elocs⟩ : ∃ locs : List Loc, locs = [] := ⟨_, rfl⟩
  rw [← eH, ← elocs] at hG
  rw [← eH, ← elocs]
  clear eH elocs
  unfold mX11_tells at hM
  obtain ⟨hge, hM⟩ := entG_some hM
  replace hG : gX D cy b s H locs S0 0 0 S0 o2 := gX.start hG hsz hn hge
  refine lv_aload_n hx hb dX11_tells_0 rfl (lv_at hl 0 rfl) ?_
  refine lv_iload_n hx hb dX11_tells_1 rfl (lv_at hl 1 rfl) ?_
  obtain ⟨r_2, hc_1, hM⟩ := bd1_some hM
  refine g_vi (As := [.int (iI a1)]) (rest := []) S hG.1 hG.2.1 (vX11_known l hG.2.2.2.1 a1 hc_1) wV_11_168 (ec_0 (b := b) (cy := cy) (X := XD b cy S0) _) cpX11 (Nat.lt_of_lt_of_le (Nat.le_of_ble_eq_true rfl) hG.2.2.2.1) dX11_tells_2 rfl hl.1 (ar := 1) (by decide +kernel) rfl ⟨Nat.le_of_ble_eq_true rfl, Nat.le_of_ble_eq_true rfl, hG.rc, hG.rs⟩ (Nat.le_of_ble_eq_true rfl) (fun rv uu H locs hp hGc => ?_)
  obtain ⟨rfl, rfl⟩ := hp
  refine wz ?_
  replace hG := hG.same hGc
  clear hGc
  obtain ⟨hg_3, hM⟩ := gd_some hM
  refine gi_if_ne (tgt := 11) hx hb dX11_tells_5 (by decide) hg_3 (fun c_4 => ?_) (fun c_4 => ?_)
  · replace hM := ifn hM c_4
    refine lv_aload_n hx hb dX11_tells_11 rfl (lv_at hl 0 rfl) ?_
    refine m_get S hG.1 0 0 1 rfl ec_0 cpX11 wm_666 dX11_tells_12 rfl (Nat.lt_of_lt_of_le (Nat.le_of_ble_eq_true rfl) hG.2.2.2.1) (by decide) ?_
    refine gi_nm (fun x_5 ex_5 => ?_)
    replace hM := nx_at hM ex_5
    clear ex_5
    refine lv_istore_n (lv' := [(2, .int (iI x_5)), (0, .ref (b + 0)), (1, .int (iI a1))]) hx hb dX11_tells_15 rfl hl (by decide) rfl (fun ls hl => ?_)
    refine lv_aload_n hx hb dX11_tells_16 rfl (lv_at hl 1 rfl) ?_
    refine lv_iconst (v := iI 0) hx hb dX11_tells_17 (by decide) ?_
    refine n_put S hG 0 0 1 rfl 1 0 ec_0 cpX11 wm_666 dX11_tells_18 (pf_0_1) (by decide) (by decide) (Nat.le_of_ble_eq_true rfl) rfl rfl rfl (fun H locs S_6 eS_6 hG => ?_)
    replace hM := nx_at hM eS_6
    clear eS_6
    refine lv_aload_n hx hb dX11_tells_21 rfl (lv_at hl 1 rfl) ?_
    refine m_get S hG.1 0 0 10 rfl ec_0 cpX11 wm_675 dX11_tells_22 rfl (Nat.lt_of_lt_of_le (Nat.le_of_ble_eq_true rfl) hG.2.2.2.1) (by decide) ?_
    refine lv_iload_n hx hb dX11_tells_25 rfl (lv_at hl 2 rfl) ?_
    refine lv_aload_n hx hb dX11_tells_26 rfl (lv_at hl 1 rfl) ?_
    refine m_get S hG.1 0 0 0 rfl ec_0 cpX11 wm_665 dX11_tells_27 rfl (Nat.lt_of_lt_of_le (Nat.le_of_ble_eq_true rfl) hG.2.2.2.1) (by decide) ?_
    refine lv_iload_n hx hb dX11_tells_30 rfl (lv_at hl 0 rfl) ?_
    obtain ⟨r_8, S_9, hc_7, hM⟩ := bd2_some hM
    refine g_vi (As := [.int (iI a1), .ref (b + 1), .int (iI x_5)]) (rest := []) S hG.1 hG.2.1 (vX10_read_67_1 l hG.2.2.2.1 a1 x_5 hc_7) wV_11_284 (ec_67 (b := b) (cy := cy) (X := XD b cy S_6) _) cpX10 (Nat.lt_of_lt_of_le (Nat.le_of_ble_eq_true rfl) hG.2.2.2.1) dX11_tells_31 rfl hl.1 (ar := 3) (by decide +kernel) rfl ⟨Nat.le_of_ble_eq_true rfl, Nat.le_of_ble_eq_true rfl, hG.rc, hG.rs⟩ (Nat.le_of_ble_eq_true rfl) (fun rv uu H locs hp hGc => ?_)
    obtain ⟨rfl, rfl⟩ := hp
    refine wz ?_
    replace hG := hG.back hGc
    clear hGc
    obtain ⟨S_10, eS_10⟩ : ∃ q, q = msk S_9 S_6 := ⟨_, rfl⟩
    rw [← eS_10] at hG
    replace hM := nx_at hM eS_10
    clear eS_10
    refine lv_istore_n (lv' := [(3, .int (iI r_8)), (2, .int (iI x_5)), (0, .ref (b + 0)), (1, .int (iI a1))]) hx hb dX11_tells_34 rfl hl (by decide) rfl (fun ls hl => ?_)
    refine lv_iload_n hx hb dX11_tells_35 rfl (lv_at hl 0 rfl) ?_
    refine lv_iconst (v := iI (-1)) hx hb dX11_tells_36 (by decide) ?_
    obtain ⟨hg_11, hM⟩ := gd_some hM
    refine gi_icmp_ne (tgt := 43) hx hb dX11_tells_37 (by decide) hg_11 (by decide) (fun c_12 => ?_) (fun c_12 => ?_)
    · replace hM := ifn hM c_12
      refine lv_aload_n hx hb dX11_tells_43 rfl (lv_at hl 2 rfl) ?_
      refine m_get S hG.1 0 0 7 rfl ec_0 cpX11 wm_672 dX11_tells_44 rfl (Nat.lt_of_lt_of_le (Nat.le_of_ble_eq_true rfl) hG.2.2.2.1) (by decide) ?_
      refine lv_iload_n hx hb dX11_tells_47 rfl (lv_at hl 3 rfl) ?_
      refine lv_iload_n hx hb dX11_tells_48 rfl (lv_at hl 0 rfl) ?_
      obtain ⟨r_14, hc_13, hM⟩ := bd1_some hM
      refine g_vl (As := [.int (iI a1), .int (iI r_8)]) (rest := []) S hG.1 hG.2.1 (vX0_thingsAt_40 l hG.2.2.2.1 a1 r_8 hc_13) wV_11_206 (ec_40 (b := b) (cy := cy) (X := XD b cy S_10) _) cpX0 (Nat.lt_of_lt_of_le (Nat.le_of_ble_eq_true rfl) hG.2.2.2.1) dX11_tells_49 rfl hl.1 (ar := 2) (by decide +kernel) rfl ⟨Nat.le_of_ble_eq_true rfl, Nat.le_of_ble_eq_true rfl, hG.rc, hG.rs⟩ (Nat.le_of_ble_eq_true rfl) (fun rv uu H locs hp hGc => ?_)
      obtain ⟨rfl, rfl⟩ := hp
      refine wz ?_
      replace hG := hG.same hGc
      clear hGc
      refine lv_ldc2 (v := 200) hx hb S.2.2.2.1 (S.2.2.2.2 _ wm_1268) dX11_tells_52 ?_
      refine gj_as 200 (by decide) ?_
      obtain ⟨hg_15, hM⟩ := gd_some hM
      refine gj_cmp_le (tgt := 62) hx hb dX11_tells_55 dX11_tells_56 (by decide) hg_15 (by decide) (fun c_16 => ?_) (fun c_16 => ?_)
      · replace hM := ifp hM c_16
        refine lv_aload_n hx hb dX11_tells_62 rfl (lv_at hl 2 rfl) ?_
        refine lv_iload_n hx hb dX11_tells_63 rfl (lv_at hl 3 rfl) ?_
        refine lv_iload_n hx hb dX11_tells_64 rfl (lv_at hl 0 rfl) ?_
        refine lv_iload_n hx hb dX11_tells_65 rfl (lv_at hl 1 rfl) ?_
        obtain ⟨r_18, S_19, hc_17, hg_20, hg_21, hM⟩ := bdG2_some hM
        have hg_22 : gle S_19 o2 := ⟨Nat.le_trans hg_21.1 gle_rfl.1, Nat.le_trans hg_21.2 gle_rfl.2⟩
        refine g_vi (As := [.int (iI a1), .int (iI r_8), .int (iI x_5)]) (rest := []) S hG.1 hG.2.1 (vX11_rankOfRead l hG.2.2.2.1 a1 r_8 x_5 hc_17) wV_11_287 (ec_0 (b := b) (cy := cy) (X := XD b cy S_10) _) cpX11 (Nat.lt_of_lt_of_le (Nat.le_of_ble_eq_true rfl) hG.2.2.2.1) dX11_tells_66 rfl hl.1 (ar := 3) (by decide +kernel) rfl ⟨Nat.le_of_ble_eq_true rfl, Nat.le_of_ble_eq_true rfl, hG.gc hg_20 hg_22, hG.gs hg_20 hg_22⟩ (Nat.le_of_ble_eq_true rfl) (fun rv uu H locs hp hGc => ?_)
        obtain ⟨rfl, rfl⟩ := hp
        replace hG := hG.grow hg_20 hg_22 hGc
        clear hGc
        refine lv_istore (lv' := [(4, .int (iI r_18)), (3, .int (iI r_8)), (2, .int (iI x_5)), (0, .ref (b + 0)), (1, .int (iI a1))]) hx hb dX11_tells_69 hl (by decide) rfl (fun ls hl => ?_)
        refine lv_iload hx hb dX11_tells_71 (lv_at hl 0 rfl) ?_
        refine lv_iconst (v := iI (-1)) hx hb dX11_tells_73 (by decide) ?_
        obtain ⟨hg_23, hM⟩ := gd_some hM
        refine gi_icmp_ne (tgt := 80) hx hb dX11_tells_74 (by decide) hg_23 (by decide) (fun c_24 => ?_) (fun c_24 => ?_)
        · replace hM := ifn hM c_24
          refine lv_aload_n hx hb dX11_tells_80 rfl (lv_at hl 3 rfl) ?_
          refine lv_iload_n hx hb dX11_tells_81 rfl (lv_at hl 1 rfl) ?_
          refine n_put S hG 0 0 17 rfl 17 r_8 ec_0 cpX11 wm_682 dX11_tells_82 (pf_0_17) (by decide) (by decide) (Nat.le_of_ble_eq_true rfl) rfl rfl rfl (fun H locs S_25 eS_25 hG => ?_)
          replace hM := nx_at hM eS_25
          clear eS_25
          refine lv_aload_n hx hb dX11_tells_85 rfl (lv_at hl 3 rfl) ?_
          refine lv_iload hx hb dX11_tells_86 (lv_at hl 0 rfl) ?_
          refine n_put S hG 0 0 18 rfl 18 r_18 ec_0 cpX11 wm_683 dX11_tells_88 (pf_0_18) (by decide) (by decide) (Nat.le_of_ble_eq_true rfl) rfl rfl rfl (fun H locs S_26 eS_26 hG => ?_)
          replace hM := nx_at hM eS_26
          clear eS_26
          refine lv_iload hx hb dX11_tells_91 (lv_at hl 0 rfl) ?_
          cases hM
          exact g_iret S hr hlk hG.1 hG.2.1 dX11_tells_93 ⟨hG.rc, hG.rs⟩ ⟨rfl, rfl⟩
        · replace hM := ifp hM c_24
          refine lv_bipush (v := iI (-4)) hx hb dX11_tells_77 (by decide) ?_
          cases hM
          exact g_iret S hr hlk hG.1 hG.2.1 dX11_tells_79 ⟨hG.rc, hG.rs⟩ ⟨rfl, rfl⟩
      · replace hM := ifn hM c_16
        refine lv_bipush (v := iI (-3)) hx hb dX11_tells_59 (by decide) ?_
        cases hM
        exact g_iret S hr hlk hG.1 hG.2.1 dX11_tells_61 ⟨hG.rc, hG.rs⟩ ⟨rfl, rfl⟩
    · replace hM := ifp hM c_12
      refine lv_bipush (v := iI (-4)) hx hb dX11_tells_40 (by decide) ?_
      cases hM
      exact g_iret S hr hlk hG.1 hG.2.1 dX11_tells_42 ⟨hG.rc, hG.rs⟩ ⟨rfl, rfl⟩
  · replace hM := ifp hM c_4
    refine lv_bipush (v := iI (-2)) hx hb dX11_tells_8 (by decide) ?_
    cases hM
    exact g_iret S hr hlk hG.1 hG.2.1 dX11_tells_10 ⟨hG.rc, hG.rs⟩ ⟨rfl, rfl⟩
