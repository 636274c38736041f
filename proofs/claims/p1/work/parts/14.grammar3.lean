theorem dX12_isAt_0 : decode cX12_isAt 0 = .ok (.aload_n 0, 1) := by decide +kernel
theorem dX12_isAt_1 : decode cX12_isAt 1 = .ok (.getfield 101, 3) := by decide +kernel
theorem wm_1680 : (Jvm.Cond.fieldLink "GrownKindsModel" (101 : Nat) "GrownKindsModel" "at" "I") ∈ gT := gT_in (List.mem_of_getElem? (i := 1680) (by decide +kernel)) (by decide +kernel)
theorem dX12_isAt_4 : decode cX12_isAt 4 = .ok (.aload_n 0, 1) := by decide +kernel
theorem dX12_isAt_5 : decode cX12_isAt 5 = .ok (.getfield 94, 3) := by decide +kernel
theorem dX12_isAt_8 : decode cX12_isAt 8 = .ok (.if_icmp .ge 27, 3) := by decide +kernel
theorem dX12_isAt_35 : decode cX12_isAt 35 = .ok (.iconst 0, 1) := by decide +kernel
theorem dX12_isAt_36 : decode cX12_isAt 36 = .ok (.ireturn, 1) := by decide +kernel
theorem dX12_next_0 : decode cX12_next 0 = .ok (.aload_n 0, 1) := by decide +kernel
theorem dX12_next_1 : decode cX12_next 1 = .ok (.bipush 32, 2) := by decide +kernel
theorem dX12_next_3 : decode cX12_next 3 = .ok (.bipush 32, 2) := by decide +kernel
theorem dX12_next_5 : decode cX12_next 5 = .ok (.invokevirtual 104, 3) := by decide +kernel
theorem wm_1850 : (Jvm.Cond.methodLink "GrownKindsModel" (104 : Nat) ({ cls := "GrownKindsModel", name := "isAt", desc := "(II)Z" } : Jvm.MethodName)) ∈ gT := gT_in (List.mem_of_getElem? (i := 1850) (by decide +kernel)) (by decide +kernel)
theorem wm_1852 : (Jvm.Cond.instanceMethod ({ cls := "GrownKindsModel", name := "isAt", desc := "(II)Z" } : Jvm.MethodName)) ∈ gT := gT_in (List.mem_of_getElem? (i := 1852) (by decide +kernel)) (by decide +kernel)
theorem wm_88 : Cond.selects "GrownKindsModel" ⟨"GrownKindsModel", "isAt", "(II)Z"⟩ ⟨"GrownKindsModel", "isAt", "(II)Z"⟩ ∈ gT := gT_in (List.mem_of_getElem? (i := 88) (by decide +kernel)) (by decide +kernel)
theorem wm_1853 : (Jvm.Cond.code ({ cls := "GrownKindsModel", name := "isAt", desc := "(II)Z" } : Jvm.MethodName) prog_14_method_10_code (3 : Nat) (Option.some Jvm.ClassFile.FieldType.boolean)) ∈ gT := gT_in (List.mem_of_getElem? (i := 1853) (by decide +kernel)) (by decide +kernel)
theorem dX12_next_8 : decode cX12_next 8 = .ok (.ifCond .ne 14, 3) := by decide +kernel
theorem dX12_next_11 : decode cX12_next 11 = .ok (.aload_n 0, 1) := by decide +kernel
theorem dX12_next_12 : decode cX12_next 12 = .ok (.bipush 10, 2) := by decide +kernel
theorem dX12_next_14 : decode cX12_next 14 = .ok (.bipush 10, 2) := by decide +kernel
theorem dX12_next_16 : decode cX12_next 16 = .ok (.invokevirtual 104, 3) := by decide +kernel
theorem dX12_next_19 : decode cX12_next 19 = .ok (.ifCond .eq 16, 3) := by decide +kernel
theorem dX12_next_35 : decode cX12_next 35 = .ok (.aload_n 0, 1) := by decide +kernel
theorem dX12_next_36 : decode cX12_next 36 = .ok (.aload_n 0, 1) := by decide +kernel
theorem dX12_next_37 : decode cX12_next 37 = .ok (.getfield 101, 3) := by decide +kernel
theorem dX12_next_40 : decode cX12_next 40 = .ok (.putfield 108, 3) := by decide +kernel
theorem wm_1681 : (Jvm.Cond.fieldLink "GrownKindsModel" (108 : Nat) "GrownKindsModel" "begin" "I") ∈ gT := gT_in (List.mem_of_getElem? (i := 1681) (by decide +kernel)) (by decide +kernel)
theorem dX12_next_43 : decode cX12_next 43 = .ok (.aload_n 0, 1) := by decide +kernel
theorem dX12_next_44 : decode cX12_next 44 = .ok (.iconst 0, 1) := by decide +kernel
theorem dX12_next_45 : decode cX12_next 45 = .ok (.putfield 111, 3) := by decide +kernel
theorem wm_1683 : (Jvm.Cond.fieldLink "GrownKindsModel" (111 : Nat) "GrownKindsModel" "value" "I") ∈ gT := gT_in (List.mem_of_getElem? (i := 1683) (by decide +kernel)) (by decide +kernel)
theorem dX12_next_48 : decode cX12_next 48 = .ok (.aload_n 0, 1) := by decide +kernel
theorem dX12_next_49 : decode cX12_next 49 = .ok (.getfield 101, 3) := by decide +kernel
theorem dX12_next_52 : decode cX12_next 52 = .ok (.aload_n 0, 1) := by decide +kernel
theorem dX12_next_53 : decode cX12_next 53 = .ok (.getfield 94, 3) := by decide +kernel
theorem dX12_next_56 : decode cX12_next 56 = .ok (.if_icmp .ne 11, 3) := by decide +kernel
theorem dX12_next_59 : decode cX12_next 59 = .ok (.aload_n 0, 1) := by decide +kernel
theorem dX12_next_60 : decode cX12_next 60 = .ok (.iconst 0, 1) := by decide +kernel
theorem dX12_next_61 : decode cX12_next 61 = .ok (.putfield 114, 3) := by decide +kernel
theorem wm_1682 : (Jvm.Cond.fieldLink "GrownKindsModel" (114 : Nat) "GrownKindsModel" "token" "I") ∈ gT := gT_in (List.mem_of_getElem? (i := 1682) (by decide +kernel)) (by decide +kernel)
theorem dX12_next_64 : decode cX12_next 64 = .ok (.goto 165, 3) := by decide +kernel
theorem dX12_next_229 : decode cX12_next 229 = .ok (.return_, 1) := by decide +kernel
theorem dX12_empties_0 : decode cX12_empties 0 = .ok (.iconst 0, 1) := by decide +kernel
theorem dX12_empties_1 : decode cX12_empties 1 = .ok (.istore_n 1, 1) := by decide +kernel
theorem dX12_empties_2 : decode cX12_empties 2 = .ok (.iload_n 1, 1) := by decide +kernel
theorem dX12_empties_3 : decode cX12_empties 3 = .ok (.aload_n 0, 1) := by decide +kernel
theorem dX12_empties_4 : decode cX12_empties 4 = .ok (.getfield 35, 3) := by decide +kernel
theorem dX12_empties_7 : decode cX12_empties 7 = .ok (.arraylength, 1) := by decide +kernel
theorem dX12_empties_8 : decode cX12_empties 8 = .ok (.if_icmp .ge 16, 3) := by decide +kernel
theorem dX12_empties_11 : decode cX12_empties 11 = .ok (.aload_n 0, 1) := by decide +kernel
theorem dX12_empties_12 : decode cX12_empties 12 = .ok (.getfield 35, 3) := by decide +kernel
theorem dX12_empties_15 : decode cX12_empties 15 = .ok (.iload_n 1, 1) := by decide +kernel
theorem dX12_empties_16 : decode cX12_empties 16 = .ok (.iconst 0, 1) := by decide +kernel
theorem dX12_empties_17 : decode cX12_empties 17 = .ok (.bastore, 1) := by decide +kernel
theorem dX12_empties_18 : decode cX12_empties 18 = .ok (.iinc 1 1, 3) := by decide +kernel
theorem dX12_empties_21 : decode cX12_empties 21 = .ok (.goto (-19), 3) := by decide +kernel
theorem dX12_empties_24 : decode cX12_empties 24 = .ok (.iconst 0, 1) := by decide +kernel
theorem dX12_empties_25 : decode cX12_empties 25 = .ok (.istore_n 1, 1) := by decide +kernel
theorem dX12_empties_26 : decode cX12_empties 26 = .ok (.iload_n 1, 1) := by decide +kernel
theorem dX12_empties_27 : decode cX12_empties 27 = .ok (.aload_n 0, 1) := by decide +kernel
theorem dX12_empties_28 : decode cX12_empties 28 = .ok (.getfield 35, 3) := by decide +kernel
theorem dX12_empties_31 : decode cX12_empties 31 = .ok (.arraylength, 1) := by decide +kernel
theorem dX12_empties_32 : decode cX12_empties 32 = .ok (.if_icmp .gt 70, 3) := by decide +kernel
theorem dX12_empties_35 : decode cX12_empties 35 = .ok (.iconst 0, 1) := by decide +kernel
theorem dX12_empties_36 : decode cX12_empties 36 = .ok (.istore_n 2, 1) := by decide +kernel
theorem dX12_empties_37 : decode cX12_empties 37 = .ok (.iload_n 2, 1) := by decide +kernel
theorem dX12_empties_38 : decode cX12_empties 38 = .ok (.aload_n 0, 1) := by decide +kernel
theorem dX12_empties_39 : decode cX12_empties 39 = .ok (.getfield 15, 3) := by decide +kernel
theorem dX12_empties_42 : decode cX12_empties 42 = .ok (.iconst 2, 1) := by decide +kernel
theorem dX12_empties_43 : decode cX12_empties 43 = .ok (.iaload, 1) := by decide +kernel
theorem dX12_empties_44 : decode cX12_empties 44 = .ok (.if_icmp .ge 20, 3) := by decide +kernel
theorem dX12_empties_64 : decode cX12_empties 64 = .ok (.iconst 0, 1) := by decide +kernel
theorem dX12_empties_65 : decode cX12_empties 65 = .ok (.istore_n 2, 1) := by decide +kernel
theorem dX12_empties_66 : decode cX12_empties 66 = .ok (.iload_n 2, 1) := by decide +kernel
theorem dX12_empties_67 : decode cX12_empties 67 = .ok (.aload_n 0, 1) := by decide +kernel
theorem dX12_empties_68 : decode cX12_empties 68 = .ok (.getfield 15, 3) := by decide +kernel
theorem dX12_empties_71 : decode cX12_empties 71 = .ok (.iconst 0, 1) := by decide +kernel
theorem dX12_empties_72 : decode cX12_empties 72 = .ok (.iaload, 1) := by decide +kernel
theorem dX12_empties_73 : decode cX12_empties 73 = .ok (.if_icmp .ge 23, 3) := by decide +kernel
theorem dX12_empties_96 : decode cX12_empties 96 = .ok (.iinc 1 1, 3) := by decide +kernel
theorem dX12_empties_99 : decode cX12_empties 99 = .ok (.goto (-73), 3) := by decide +kernel
theorem dX12_empties_102 : decode cX12_empties 102 = .ok (.return_, 1) := by decide +kernel
theorem dX12_wrongKind_0 : decode cX12_wrongKind 0 = .ok (.aload_n 0, 1) := by decide +kernel
theorem dX12_wrongKind_1 : decode cX12_wrongKind 1 = .ok (.invokevirtual 262, 3) := by decide +kernel
theorem wm_1933 : (Jvm.Cond.methodLink "GrownKindsModel" (262 : Nat) ({ cls := "GrownKindsModel", name := "empties", desc := "()V" } : Jvm.MethodName)) ∈ gT := gT_in (List.mem_of_getElem? (i := 1933) (by decide +kernel)) (by decide +kernel)
theorem wm_1935 : (Jvm.Cond.instanceMethod ({ cls := "GrownKindsModel", name := "empties", desc := "()V" } : Jvm.MethodName)) ∈ gT := gT_in (List.mem_of_getElem? (i := 1935) (by decide +kernel)) (by decide +kernel)
theorem wm_104 : Cond.selects "GrownKindsModel" ⟨"GrownKindsModel", "empties", "()V"⟩ ⟨"GrownKindsModel", "empties", "()V"⟩ ∈ gT := gT_in (List.mem_of_getElem? (i := 104) (by decide +kernel)) (by decide +kernel)
theorem wm_1936 : (Jvm.Cond.code ({ cls := "GrownKindsModel", name := "empties", desc := "()V" } : Jvm.MethodName) prog_14_method_44_code (3 : Nat) (Option.none : Option Jvm.ClassFile.FieldType)) ∈ gT := gT_in (List.mem_of_getElem? (i := 1936) (by decide +kernel)) (by decide +kernel)
theorem dX12_wrongKind_4 : decode cX12_wrongKind 4 = .ok (.iconst 0, 1) := by decide +kernel
theorem dX12_wrongKind_5 : decode cX12_wrongKind 5 = .ok (.istore_n 1, 1) := by decide +kernel
theorem dX12_wrongKind_6 : decode cX12_wrongKind 6 = .ok (.iload_n 1, 1) := by decide +kernel
theorem dX12_wrongKind_7 : decode cX12_wrongKind 7 = .ok (.aload_n 0, 1) := by decide +kernel
theorem dX12_wrongKind_8 : decode cX12_wrongKind 8 = .ok (.getfield 15, 3) := by decide +kernel
theorem dX12_wrongKind_11 : decode cX12_wrongKind 11 = .ok (.iconst 0, 1) := by decide +kernel
theorem dX12_wrongKind_12 : decode cX12_wrongKind 12 = .ok (.iaload, 1) := by decide +kernel
theorem dX12_wrongKind_13 : decode cX12_wrongKind 13 = .ok (.if_icmp .ge 89, 3) := by decide +kernel
theorem dX12_wrongKind_102 : decode cX12_wrongKind 102 = .ok (.iconst (-1), 1) := by decide +kernel
theorem dX12_wrongKind_103 : decode cX12_wrongKind 103 = .ok (.ireturn, 1) := by decide +kernel
theorem dX12_grammar_0 : decode cX12_grammar 0 = .ok (.iconst 0, 1) := by decide +kernel
theorem dX12_grammar_1 : decode cX12_grammar 1 = .ok (.istore_n 1, 1) := by decide +kernel
theorem dX12_grammar_2 : decode cX12_grammar 2 = .ok (.iload_n 1, 1) := by decide +kernel
theorem dX12_grammar_3 : decode cX12_grammar 3 = .ok (.sipush 228, 3) := by decide +kernel
theorem dX12_grammar_6 : decode cX12_grammar 6 = .ok (.if_icmp .ge 21, 3) := by decide +kernel
theorem dX12_grammar_27 : decode cX12_grammar 27 = .ok (.aload_n 0, 1) := by decide +kernel
theorem dX12_grammar_28 : decode cX12_grammar 28 = .ok (.invokevirtual 91, 3) := by decide +kernel
theorem dX12_grammar_31 : decode cX12_grammar 31 = .ok (.aload_n 0, 1) := by decide +kernel
theorem dX12_grammar_32 : decode cX12_grammar 32 = .ok (.iconst 0, 1) := by decide +kernel
theorem dX12_grammar_33 : decode cX12_grammar 33 = .ok (.putfield 101, 3) := by decide +kernel
theorem dX12_grammar_36 : decode cX12_grammar 36 = .ok (.aload_n 0, 1) := by decide +kernel
theorem dX12_grammar_37 : decode cX12_grammar 37 = .ok (.iconst 0, 1) := by decide +kernel
theorem dX12_grammar_38 : decode cX12_grammar 38 = .ok (.putfield 120, 3) := by decide +kernel
theorem wm_1684 : (Jvm.Cond.fieldLink "GrownKindsModel" (120 : Nat) "GrownKindsModel" "bad" "Z") ∈ gT := gT_in (List.mem_of_getElem? (i := 1684) (by decide +kernel)) (by decide +kernel)
theorem dX12_grammar_41 : decode cX12_grammar 41 = .ok (.aload_n 0, 1) := by decide +kernel
theorem dX12_grammar_42 : decode cX12_grammar 42 = .ok (.invokevirtual 173, 3) := by decide +kernel
theorem wm_1846 : (Jvm.Cond.methodLink "GrownKindsModel" (173 : Nat) ({ cls := "GrownKindsModel", name := "next", desc := "()V" } : Jvm.MethodName)) ∈ gT := gT_in (List.mem_of_getElem? (i := 1846) (by decide +kernel)) (by decide +kernel)
theorem wm_1848 : (Jvm.Cond.instanceMethod ({ cls := "GrownKindsModel", name := "next", desc := "()V" } : Jvm.MethodName)) ∈ gT := gT_in (List.mem_of_getElem? (i := 1848) (by decide +kernel)) (by decide +kernel)
theorem wm_87 : Cond.selects "GrownKindsModel" ⟨"GrownKindsModel", "next", "()V"⟩ ⟨"GrownKindsModel", "next", "()V"⟩ ∈ gT := gT_in (List.mem_of_getElem? (i := 87) (by decide +kernel)) (by decide +kernel)
theorem wm_1849 : (Jvm.Cond.code ({ cls := "GrownKindsModel", name := "next", desc := "()V" } : Jvm.MethodName) prog_14_method_11_code (1 : Nat) (Option.none : Option Jvm.ClassFile.FieldType)) ∈ gT := gT_in (List.mem_of_getElem? (i := 1849) (by decide +kernel)) (by decide +kernel)
theorem dX12_grammar_45 : decode cX12_grammar 45 = .ok (.aload_n 0, 1) := by decide +kernel
theorem dX12_grammar_46 : decode cX12_grammar 46 = .ok (.getfield 120, 3) := by decide +kernel
theorem dX12_grammar_49 : decode cX12_grammar 49 = .ok (.ifCond .ne 56, 3) := by decide +kernel
theorem dX12_grammar_52 : decode cX12_grammar 52 = .ok (.aload_n 0, 1) := by decide +kernel
theorem dX12_grammar_53 : decode cX12_grammar 53 = .ok (.getfield 114, 3) := by decide +kernel
theorem dX12_grammar_56 : decode cX12_grammar 56 = .ok (.ifCond .eq 49, 3) := by decide +kernel
theorem dX12_grammar_105 : decode cX12_grammar 105 = .ok (.aload_n 0, 1) := by decide +kernel
theorem dX12_grammar_106 : decode cX12_grammar 106 = .ok (.getfield 120, 3) := by decide +kernel
theorem dX12_grammar_109 : decode cX12_grammar 109 = .ok (.ifCond .ne 28, 3) := by decide +kernel
theorem dX12_grammar_112 : decode cX12_grammar 112 = .ok (.aload_n 0, 1) := by decide +kernel
theorem dX12_grammar_113 : decode cX12_grammar 113 = .ok (.invokevirtual 219, 3) := by decide +kernel
theorem wm_1929 : (Jvm.Cond.methodLink "GrownKindsModel" (219 : Nat) ({ cls := "GrownKindsModel", name := "wrongKind", desc := "()I" } : Jvm.MethodName)) ∈ gT := gT_in (List.mem_of_getElem? (i := 1929) (by decide +kernel)) (by decide +kernel)
theorem wm_1931 : (Jvm.Cond.instanceMethod ({ cls := "GrownKindsModel", name := "wrongKind", desc := "()I" } : Jvm.MethodName)) ∈ gT := gT_in (List.mem_of_getElem? (i := 1931) (by decide +kernel)) (by decide +kernel)
theorem wm_103 : Cond.selects "GrownKindsModel" ⟨"GrownKindsModel", "wrongKind", "()I"⟩ ⟨"GrownKindsModel", "wrongKind", "()I"⟩ ∈ gT := gT_in (List.mem_of_getElem? (i := 103) (by decide +kernel)) (by decide +kernel)
theorem wm_1932 : (Jvm.Cond.code ({ cls := "GrownKindsModel", name := "wrongKind", desc := "()I" } : Jvm.MethodName) prog_14_method_48_code (5 : Nat) (Option.some Jvm.ClassFile.FieldType.int)) ∈ gT := gT_in (List.mem_of_getElem? (i := 1932) (by decide +kernel)) (by decide +kernel)
theorem dX12_grammar_116 : decode cX12_grammar 116 = .ok (.ifCond .lt 21, 3) := by decide +kernel
theorem dX12_grammar_137 : decode cX12_grammar 137 = .ok (.aload_n 0, 1) := by decide +kernel
theorem dX12_grammar_138 : decode cX12_grammar 138 = .ok (.iconst 0, 1) := by decide +kernel
theorem dX12_grammar_139 : decode cX12_grammar 139 = .ok (.putfield 94, 3) := by decide +kernel
theorem dX12_grammar_142 : decode cX12_grammar 142 = .ok (.aload_n 0, 1) := by decide +kernel
theorem dX12_grammar_143 : decode cX12_grammar 143 = .ok (.getfield 120, 3) := by decide +kernel
theorem dX12_grammar_146 : decode cX12_grammar 146 = .ok (.ifCond .eq 33, 3) := by decide +kernel
theorem dX12_grammar_179 : decode cX12_grammar 179 = .ok (.aload_n 0, 1) := by decide +kernel
theorem dX12_grammar_180 : decode cX12_grammar 180 = .ok (.iconst 0, 1) := by decide +kernel
theorem dX12_grammar_181 : decode cX12_grammar 181 = .ok (.putfield 124, 3) := by decide +kernel
theorem dX12_grammar_184 : decode cX12_grammar 184 = .ok (.aload_n 0, 1) := by decide +kernel
theorem dX12_grammar_185 : decode cX12_grammar 185 = .ok (.iconst (-1), 1) := by decide +kernel
theorem dX12_grammar_186 : decode cX12_grammar 186 = .ok (.putfield 25, 3) := by decide +kernel
theorem dX12_grammar_189 : decode cX12_grammar 189 = .ok (.aload_n 0, 1) := by decide +kernel
theorem dX12_grammar_190 : decode cX12_grammar 190 = .ok (.iconst 0, 1) := by decide +kernel
theorem dX12_grammar_191 : decode cX12_grammar 191 = .ok (.putfield 222, 3) := by decide +kernel
theorem dX12_grammar_194 : decode cX12_grammar 194 = .ok (.aload_n 0, 1) := by decide +kernel
theorem dX12_grammar_195 : decode cX12_grammar 195 = .ok (.getfield 15, 3) := by decide +kernel
theorem dX12_grammar_198 : decode cX12_grammar 198 = .ok (.iconst 3, 1) := by decide +kernel
theorem dX12_grammar_199 : decode cX12_grammar 199 = .ok (.iaload, 1) := by decide +kernel
theorem dX12_grammar_200 : decode cX12_grammar 200 = .ok (.ireturn, 1) := by decide +kernel
theorem dX12_grammar_9 : decode cX12_grammar 9 = .ok (.aload_n 0, 1) := by decide +kernel
theorem dX12_grammar_10 : decode cX12_grammar 10 = .ok (.getfield 19, 3) := by decide +kernel
theorem dX12_grammar_13 : decode cX12_grammar 13 = .ok (.iload_n 1, 1) := by decide +kernel
theorem dX12_grammar_14 : decode cX12_grammar 14 = .ok (.aload_n 0, 1) := by decide +kernel
theorem dX12_grammar_15 : decode cX12_grammar 15 = .ok (.getfield 15, 3) := by decide +kernel
theorem dX12_grammar_18 : decode cX12_grammar 18 = .ok (.iload_n 1, 1) := by decide +kernel
theorem dX12_grammar_19 : decode cX12_grammar 19 = .ok (.iaload, 1) := by decide +kernel
theorem dX12_grammar_20 : decode cX12_grammar 20 = .ok (.iastore, 1) := by decide +kernel
theorem dX12_grammar_21 : decode cX12_grammar 21 = .ok (.iinc 1 1, 3) := by decide +kernel
theorem dX12_grammar_24 : decode cX12_grammar 24 = .ok (.goto (-22), 3) := by decide +kernel
set_option maxHeartbeats 4000000 in
set_option maxRecDepth 100000 in
theorem qX12_isAt (l : Launch) {D : va_G} {cy : Nat → ClassId} {b n : Nat} (hn : 105 ≤ n) {E : Nat → va_E} (h83 : E 83 = Z83 b cy)  (a1 : Int32) (a2 : Int32) : gI l yX12_isAt cX12_isAt 3 (some .boolean) 0 0 0 D cy b n E [.ref (b + 83), .int a1, .int a2] (fun r u => r = 0 ∧ u.1 = n ∧ u.2 = E) := by
  refine gI_of (by decide) (Nat.le_of_ble_eq_true rfl) ?_
  intro p e s m args below meth c S hr hlk hin hsz ls hl hG
  have hx := S.1
  have hb := S.2.1
  have hl : lv_has ls 3 [(0, .ref (b + 83)), (1, .int a1), (2, .int a2)] := hl
  refine lv_aload_n hx hb dX12_isAt_0 rfl (lv_at hl 0 rfl) ?_
  refine g_get S hG 83 6 h83 cpX12 wm_1680 dX12_isAt_1 rfl (by omega) (by decide) ?_
  refine lv_aload_n hx hb dX12_isAt_4 rfl (lv_at hl 0 rfl) ?_
  refine g_get S hG 83 3 h83 cpX12 wm_1677 dX12_isAt_5 rfl (by omega) (by decide) ?_
  refine lv_icmp_ge (tgt := 35) hx hb dX12_isAt_8 (by decide) (fun c_1 => ?_) (fun c_1 => absurd c_1 (by decide))
  refine lv_iconst (v := 0) hx hb dX12_isAt_35 (by decide) ?_
  exact g_zret S hr hlk hG (by omega) dX12_isAt_36 ⟨Nat.le_of_ble_eq_true rfl, Nat.le_of_ble_eq_true rfl⟩ rfl ⟨rfl, rfl, rfl⟩
theorem wV_12_104 : gWV "GrownKindsModel" 104 yX12_isAt cX12_isAt 3 (some .boolean) := ⟨wm_1850, wm_1852, wm_88, wm_187, wm_1853, by decide +kernel, by decide +kernel⟩
set_option maxHeartbeats 4000000 in
set_option maxRecDepth 100000 in
theorem qX12_next (l : Launch) {D : va_G} {cy : Nat → ClassId} {b n : Nat} (hn : 105 ≤ n) {E : Nat → va_E}  (h83 : E 83 = Z83 b cy)   : gV l yX12_next cX12_next 1 1 0 0 D cy b n E [.ref (b + 83)] (fun u => u.1 = n ∧ (∀ j, j ≠ 83 → u.2 j = E j) ∧ u.2 83 = .inr (12, [.ref (b + 84), .ref (b + 85), .ref (b + 86), .int 0, .int 0, .int (-1), .int 0, .int 0, .int 0, .int 0, .int 0, .ref (b + 87), .ref (b + 88), .ref (b + 89), .ref (b + 90), .ref (b + 91), .ref (b + 92), .ref (b + 93), .ref (b + 94), .ref (b + 95), .int 0, .int 0, .int 0, .int 0, .int 0, .int 0, .int 0, .int 0, .ref (b + 96), .ref (b + 97), .ref (b + 98), .int 0, .long 0, .ref (b + 99), .ref (b + 100), .ref (b + 101), .ref (b + 102), .ref (b + 103), .int 0, .ref (b + 104), .int 0, .int 0, .int (-1), .int (-1), .int 0, .int 0, .int 0, .int 0, .int 0, .int 0, .int 0, .int 0])) := by
  refine gV_of (by decide) (Nat.le_of_ble_eq_true rfl) ?_
  intro p e s m args below meth c S hr hlk hin hsz ls hl hG
  have hx := S.1
  have hb := S.2.1
  have hl : lv_has ls 1 [(0, .ref (b + 83))] := hl
  refine lv_aload_n hx hb dX12_next_0 rfl (lv_at hl 0 rfl) ?_
  refine lv_bipush (v := 32) hx hb dX12_next_1 (by decide) ?_
  refine lv_bipush (v := 32) hx hb dX12_next_3 (by decide) ?_
  refine g_vi (As := [.int 32, .int 32]) (rest := []) S hG (by omega) (qX12_isAt l hn h83 32 32) wV_12_104 h83 cpX12 (by omega) dX12_next_5 rfl hl.1 (ar := 2) (by decide +kernel) rfl ⟨Nat.le_of_ble_eq_true rfl, Nat.le_of_ble_eq_true rfl, Nat.le_of_ble_eq_true rfl, Nat.le_of_ble_eq_true rfl⟩ (Nat.le_of_ble_eq_true rfl) (fun r_3 u_E_1 H locs hp_2 hG => ?_)
  obtain ⟨n_E_1, E_1⟩ := u_E_1
  dsimp only at hp_2 hG
  obtain ⟨rfl, nhp_2, ehp_2⟩ := hp_2
  have hG := gW_eq2 hG nhp_2 ehp_2
  refine lv_if_ne (tgt := 22) hx hb dX12_next_8 (by decide) (fun c_4 => absurd c_4 (by decide)) (fun c_4 => ?_)
  refine lv_aload_n hx hb dX12_next_11 rfl (lv_at hl 0 rfl) ?_
  refine lv_bipush (v := 10) hx hb dX12_next_12 (by decide) ?_
  refine lv_bipush (v := 10) hx hb dX12_next_14 (by decide) ?_
  refine g_vi (As := [.int 10, .int 10]) (rest := []) S hG (by omega) (qX12_isAt l hn h83 10 10) wV_12_104 h83 cpX12 (by omega) dX12_next_16 rfl hl.1 (ar := 2) (by decide +kernel) rfl ⟨Nat.le_of_ble_eq_true rfl, Nat.le_of_ble_eq_true rfl, Nat.le_of_ble_eq_true rfl, Nat.le_of_ble_eq_true rfl⟩ (Nat.le_of_ble_eq_true rfl) (fun r_7 u_E_5 H locs hp_6 hG => ?_)
  obtain ⟨n_E_5, E_5⟩ := u_E_5
  dsimp only at hp_6 hG
  obtain ⟨rfl, nhp_6, ehp_6⟩ := hp_6
  have hG := gW_eq2 hG nhp_6 ehp_6
  refine lv_if_eq (tgt := 35) hx hb dX12_next_19 (by decide) (fun c_8 => ?_) (fun c_8 => absurd c_8 (by decide))
  refine lv_aload_n hx hb dX12_next_35 rfl (lv_at hl 0 rfl) ?_
  refine lv_aload_n hx hb dX12_next_36 rfl (lv_at hl 0 rfl) ?_
  refine g_get S hG 83 6 h83 cpX12 wm_1680 dX12_next_37 rfl (by omega) (by decide) ?_
  refine g_put (fs' := [.ref (b + 84), .ref (b + 85), .ref (b + 86), .int 0, .int 0, .int (-1), .int 0, .int 0, .int 0, .int 0, .int 0, .ref (b + 87), .ref (b + 88), .ref (b + 89), .ref (b + 90), .ref (b + 91), .ref (b + 92), .ref (b + 93), .ref (b + 94), .ref (b + 95), .int 0, .int 0, .int 0, .int 0, .int 0, .int 0, .int 0, .int 0, .ref (b + 96), .ref (b + 97), .ref (b + 98), .int 0, .long 0, .ref (b + 99), .ref (b + 100), .ref (b + 101), .ref (b + 102), .ref (b + 103), .int 0, .ref (b + 104), .int 0, .int 0, .int (-1), .int (-1), .int 0, .int 0, .int 0, .int 0, .int 0, .int 0, .int 0, .int 0]) S hG 83 7 h83 cpX12 wm_1681 dX12_next_40 rfl (by omega) (by decide) (Nat.le_of_ble_eq_true rfl) rfl rfl rfl (fun H locs hG => ?_)
  refine lv_aload_n hx hb dX12_next_43 rfl (lv_at hl 0 rfl) ?_
  refine lv_iconst (v := 0) hx hb dX12_next_44 (by decide) ?_
  refine g_put (fs' := [.ref (b + 84), .ref (b + 85), .ref (b + 86), .int 0, .int 0, .int (-1), .int 0, .int 0, .int 0, .int 0, .int 0, .ref (b + 87), .ref (b + 88), .ref (b + 89), .ref (b + 90), .ref (b + 91), .ref (b + 92), .ref (b + 93), .ref (b + 94), .ref (b + 95), .int 0, .int 0, .int 0, .int 0, .int 0, .int 0, .int 0, .int 0, .ref (b + 96), .ref (b + 97), .ref (b + 98), .int 0, .long 0, .ref (b + 99), .ref (b + 100), .ref (b + 101), .ref (b + 102), .ref (b + 103), .int 0, .ref (b + 104), .int 0, .int 0, .int (-1), .int (-1), .int 0, .int 0, .int 0, .int 0, .int 0, .int 0, .int 0, .int 0]) S hG 83 9 rfl cpX12 wm_1683 dX12_next_45 rfl (by omega) (by decide) (Nat.le_of_ble_eq_true rfl) rfl rfl rfl (fun H locs hG => ?_)
  refine lv_aload_n hx hb dX12_next_48 rfl (lv_at hl 0 rfl) ?_
  refine g_get S hG 83 6 rfl cpX12 wm_1680 dX12_next_49 rfl (by omega) (by decide) ?_
  refine lv_aload_n hx hb dX12_next_52 rfl (lv_at hl 0 rfl) ?_
  refine g_get S hG 83 3 rfl cpX12 wm_1677 dX12_next_53 rfl (by omega) (by decide) ?_
  refine lv_icmp_ne (tgt := 67) hx hb dX12_next_56 (by decide) (fun c_9 => absurd c_9 (by decide)) (fun c_9 => ?_)
  refine lv_aload_n hx hb dX12_next_59 rfl (lv_at hl 0 rfl) ?_
  refine lv_iconst (v := 0) hx hb dX12_next_60 (by decide) ?_
  refine g_put (fs' := [.ref (b + 84), .ref (b + 85), .ref (b + 86), .int 0, .int 0, .int (-1), .int 0, .int 0, .int 0, .int 0, .int 0, .ref (b + 87), .ref (b + 88), .ref (b + 89), .ref (b + 90), .ref (b + 91), .ref (b + 92), .ref (b + 93), .ref (b + 94), .ref (b + 95), .int 0, .int 0, .int 0, .int 0, .int 0, .int 0, .int 0, .int 0, .ref (b + 96), .ref (b + 97), .ref (b + 98), .int 0, .long 0, .ref (b + 99), .ref (b + 100), .ref (b + 101), .ref (b + 102), .ref (b + 103), .int 0, .ref (b + 104), .int 0, .int 0, .int (-1), .int (-1), .int 0, .int 0, .int 0, .int 0, .int 0, .int 0, .int 0, .int 0]) S hG 83 8 rfl cpX12 wm_1682 dX12_next_61 rfl (by omega) (by decide) (Nat.le_of_ble_eq_true rfl) rfl rfl rfl (fun H locs hG => ?_)
  refine lv_goto (tgt := 229) hx hb dX12_next_64 (by decide) ?_
  exact g_vret S hr hlk hG (by omega) dX12_next_229 ⟨Nat.le_of_ble_eq_true rfl, Nat.le_of_ble_eq_true rfl⟩ ⟨rfl, fun j hj83 => (upE_n (by omega)).trans ((upE_n (by omega)).trans ((upE_n (by omega)).trans (rfl))), rfl⟩
set_option maxHeartbeats 4000000 in
set_option maxRecDepth 100000 in
theorem qX12_empties (l : Launch) {D : va_G} {cy : Nat → ClassId} {b n : Nat} (hn : 105 ≤ n) {E : Nat → va_E}  (h83 : E 83 = Z83 b cy) (h84 : E 84 = Z84 b cy) (h89 : E 89 = Z89 b cy)   : gV l yX12_empties cX12_empties 3 0 0 0 D cy b n E [.ref (b + 83)] (fun u => u.1 = n ∧ (∀ j, j ≠ 89 → u.2 j = E j) ∧ (∃ f : Nat → Int32, u.2 89 = .inl (cy 3, 30, .inl f))) := by
  refine gV_of (by decide) (Nat.le_of_ble_eq_true rfl) ?_
  intro p e s m args below meth c S hr hlk hin hsz ls hl hG
  have hx := S.1
  have hb := S.2.1
  have hl : lv_has ls 3 [(0, .ref (b + 83))] := hl
  refine lv_iconst (v := 0) hx hb dX12_empties_0 (by decide) ?_
  refine lv_istore_n (lv' := [(1, .int 0), (0, .ref (b + 83))]) hx hb dX12_empties_1 rfl hl (by decide) rfl (fun ls hl => ?_)
  refine lv_iload_n hx hb dX12_empties_2 rfl (lv_at hl 0 rfl) ?_
  refine lv_aload_n hx hb dX12_empties_3 rfl (lv_at hl 1 rfl) ?_
  refine g_get S hG 83 13 h83 cpX12 wm_1687 dX12_empties_4 rfl (by omega) (by decide) ?_
  refine g_alen S hG 89 3 h89 rfl (by omega) dX12_empties_7 (v := 30) (by decide) ?_
  refine lv_icmp_ge (tgt := 24) hx hb dX12_empties_8 (by decide) (fun c_1 => absurd c_1 (by decide)) (fun c_1 => ?_)
  refine lv_aload_n hx hb dX12_empties_11 rfl (lv_at hl 1 rfl) ?_
  refine g_get S hG 83 13 h83 cpX12 wm_1687 dX12_empties_12 rfl (by omega) (by decide) ?_
  refine lv_iload_n hx hb dX12_empties_15 rfl (lv_at hl 0 rfl) ?_
  refine lv_iconst (v := 0) hx hb dX12_empties_16 (by decide) ?_
  refine g_zast S hG 89 h89 (by omega) dX12_empties_17 (by unfold vp_in; decide) (fun H locs hG => ?_)
  refine lv_iinc (v := 1) (lv' := [(1, .int 1), (0, .ref (b + 83))]) hx hb dX12_empties_18 hl (k := 0) rfl (by decide) (by decide) rfl (fun ls hl => ?_)
  refine lv_goto (tgt := 2) hx hb dX12_empties_21 (by decide) ?_
  refine lv_iload_n hx hb dX12_empties_2 rfl (lv_at hl 0 rfl) ?_
  refine lv_aload_n hx hb dX12_empties_3 rfl (lv_at hl 1 rfl) ?_
  refine g_get S hG 83 13 h83 cpX12 wm_1687 dX12_empties_4 rfl (by omega) (by decide) ?_
  refine g_alen S hG 89 3 rfl rfl (by omega) dX12_empties_7 (v := 30) (by decide) ?_
  refine lv_icmp_ge (tgt := 24) hx hb dX12_empties_8 (by decide) (fun c_2 => absurd c_2 (by decide)) (fun c_2 => ?_)
  refine lv_aload_n hx hb dX12_empties_11 rfl (lv_at hl 1 rfl) ?_
  refine g_get S hG 83 13 h83 cpX12 wm_1687 dX12_empties_12 rfl (by omega) (by decide) ?_
  refine lv_iload_n hx hb dX12_empties_15 rfl (lv_at hl 0 rfl) ?_
  refine lv_iconst (v := 0) hx hb dX12_empties_16 (by decide) ?_
  refine g_zast S hG 89 rfl (by omega) dX12_empties_17 (by unfold vp_in; decide) (fun H locs hG => ?_)
  refine lv_iinc (v := 2) (lv' := [(1, .int 2), (0, .ref (b + 83))]) hx hb dX12_empties_18 hl (k := 0) rfl (by decide) (by decide) rfl (fun ls hl => ?_)
  refine lv_goto (tgt := 2) hx hb dX12_empties_21 (by decide) ?_
  refine lv_iload_n hx hb dX12_empties_2 rfl (lv_at hl 0 rfl) ?_
  refine lv_aload_n hx hb dX12_empties_3 rfl (lv_at hl 1 rfl) ?_
  refine g_get S hG 83 13 h83 cpX12 wm_1687 dX12_empties_4 rfl (by omega) (by decide) ?_
  refine g_alen S hG 89 3 rfl rfl (by omega) dX12_empties_7 (v := 30) (by decide) ?_
  refine lv_icmp_ge (tgt := 24) hx hb dX12_empties_8 (by decide) (fun c_3 => absurd c_3 (by decide)) (fun c_3 => ?_)
  refine lv_aload_n hx hb dX12_empties_11 rfl (lv_at hl 1 rfl) ?_
  refine g_get S hG 83 13 h83 cpX12 wm_1687 dX12_empties_12 rfl (by omega) (by decide) ?_
  refine lv_iload_n hx hb dX12_empties_15 rfl (lv_at hl 0 rfl) ?_
  refine lv_iconst (v := 0) hx hb dX12_empties_16 (by decide) ?_
  refine g_zast S hG 89 rfl (by omega) dX12_empties_17 (by unfold vp_in; decide) (fun H locs hG => ?_)
  refine lv_iinc (v := 3) (lv' := [(1, .int 3), (0, .ref (b + 83))]) hx hb dX12_empties_18 hl (k := 0) rfl (by decide) (by decide) rfl (fun ls hl => ?_)
  refine lv_goto (tgt := 2) hx hb dX12_empties_21 (by decide) ?_
  refine lv_iload_n hx hb dX12_empties_2 rfl (lv_at hl 0 rfl) ?_
  refine lv_aload_n hx hb dX12_empties_3 rfl (lv_at hl 1 rfl) ?_
  refine g_get S hG 83 13 h83 cpX12 wm_1687 dX12_empties_4 rfl (by omega) (by decide) ?_
  refine g_alen S hG 89 3 rfl rfl (by omega) dX12_empties_7 (v := 30) (by decide) ?_
  refine lv_icmp_ge (tgt := 24) hx hb dX12_empties_8 (by decide) (fun c_4 => absurd c_4 (by decide)) (fun c_4 => ?_)
  refine lv_aload_n hx hb dX12_empties_11 rfl (lv_at hl 1 rfl) ?_
  refine g_get S hG 83 13 h83 cpX12 wm_1687 dX12_empties_12 rfl (by omega) (by decide) ?_
  refine lv_iload_n hx hb dX12_empties_15 rfl (lv_at hl 0 rfl) ?_
  refine lv_iconst (v := 0) hx hb dX12_empties_16 (by decide) ?_
  refine g_zast S hG 89 rfl (by omega) dX12_empties_17 (by unfold vp_in; decide) (fun H locs hG => ?_)
  refine lv_iinc (v := 4) (lv' := [(1, .int 4), (0, .ref (b + 83))]) hx hb dX12_empties_18 hl (k := 0) rfl (by decide) (by decide) rfl (fun ls hl => ?_)
  refine lv_goto (tgt := 2) hx hb dX12_empties_21 (by decide) ?_
  refine lv_iload_n hx hb dX12_empties_2 rfl (lv_at hl 0 rfl) ?_
  refine lv_aload_n hx hb dX12_empties_3 rfl (lv_at hl 1 rfl) ?_
  refine g_get S hG 83 13 h83 cpX12 wm_1687 dX12_empties_4 rfl (by omega) (by decide) ?_
  refine g_alen S hG 89 3 rfl rfl (by omega) dX12_empties_7 (v := 30) (by decide) ?_
  refine lv_icmp_ge (tgt := 24) hx hb dX12_empties_8 (by decide) (fun c_5 => absurd c_5 (by decide)) (fun c_5 => ?_)
  refine lv_aload_n hx hb dX12_empties_11 rfl (lv_at hl 1 rfl) ?_
  refine g_get S hG 83 13 h83 cpX12 wm_1687 dX12_empties_12 rfl (by omega) (by decide) ?_
  refine lv_iload_n hx hb dX12_empties_15 rfl (lv_at hl 0 rfl) ?_
  refine lv_iconst (v := 0) hx hb dX12_empties_16 (by decide) ?_
  refine g_zast S hG 89 rfl (by omega) dX12_empties_17 (by unfold vp_in; decide) (fun H locs hG => ?_)
  refine lv_iinc (v := 5) (lv' := [(1, .int 5), (0, .ref (b + 83))]) hx hb dX12_empties_18 hl (k := 0) rfl (by decide) (by decide) rfl (fun ls hl => ?_)
  refine lv_goto (tgt := 2) hx hb dX12_empties_21 (by decide) ?_
  refine lv_iload_n hx hb dX12_empties_2 rfl (lv_at hl 0 rfl) ?_
  refine lv_aload_n hx hb dX12_empties_3 rfl (lv_at hl 1 rfl) ?_
  refine g_get S hG 83 13 h83 cpX12 wm_1687 dX12_empties_4 rfl (by omega) (by decide) ?_
  refine g_alen S hG 89 3 rfl rfl (by omega) dX12_empties_7 (v := 30) (by decide) ?_
  refine lv_icmp_ge (tgt := 24) hx hb dX12_empties_8 (by decide) (fun c_6 => absurd c_6 (by decide)) (fun c_6 => ?_)
  refine lv_aload_n hx hb dX12_empties_11 rfl (lv_at hl 1 rfl) ?_
  refine g_get S hG 83 13 h83 cpX12 wm_1687 dX12_empties_12 rfl (by omega) (by decide) ?_
  refine lv_iload_n hx hb dX12_empties_15 rfl (lv_at hl 0 rfl) ?_
  refine lv_iconst (v := 0) hx hb dX12_empties_16 (by decide) ?_
  refine g_zast S hG 89 rfl (by omega) dX12_empties_17 (by unfold vp_in; decide) (fun H locs hG => ?_)
  refine lv_iinc (v := 6) (lv' := [(1, .int 6), (0, .ref (b + 83))]) hx hb dX12_empties_18 hl (k := 0) rfl (by decide) (by decide) rfl (fun ls hl => ?_)
  refine lv_goto (tgt := 2) hx hb dX12_empties_21 (by decide) ?_
  refine lv_iload_n hx hb dX12_empties_2 rfl (lv_at hl 0 rfl) ?_
  refine lv_aload_n hx hb dX12_empties_3 rfl (lv_at hl 1 rfl) ?_
  refine g_get S hG 83 13 h83 cpX12 wm_1687 dX12_empties_4 rfl (by omega) (by decide) ?_
  refine g_alen S hG 89 3 rfl rfl (by omega) dX12_empties_7 (v := 30) (by decide) ?_
  refine lv_icmp_ge (tgt := 24) hx hb dX12_empties_8 (by decide) (fun c_7 => absurd c_7 (by decide)) (fun c_7 => ?_)
  refine lv_aload_n hx hb dX12_empties_11 rfl (lv_at hl 1 rfl) ?_
  refine g_get S hG 83 13 h83 cpX12 wm_1687 dX12_empties_12 rfl (by omega) (by decide) ?_
  refine lv_iload_n hx hb dX12_empties_15 rfl (lv_at hl 0 rfl) ?_
  refine lv_iconst (v := 0) hx hb dX12_empties_16 (by decide) ?_
  refine g_zast S hG 89 rfl (by omega) dX12_empties_17 (by unfold vp_in; decide) (fun H locs hG => ?_)
  refine lv_iinc (v := 7) (lv' := [(1, .int 7), (0, .ref (b + 83))]) hx hb dX12_empties_18 hl (k := 0) rfl (by decide) (by decide) rfl (fun ls hl => ?_)
  refine lv_goto (tgt := 2) hx hb dX12_empties_21 (by decide) ?_
  refine lv_iload_n hx hb dX12_empties_2 rfl (lv_at hl 0 rfl) ?_
  refine lv_aload_n hx hb dX12_empties_3 rfl (lv_at hl 1 rfl) ?_
  refine g_get S hG 83 13 h83 cpX12 wm_1687 dX12_empties_4 rfl (by omega) (by decide) ?_
  refine g_alen S hG 89 3 rfl rfl (by omega) dX12_empties_7 (v := 30) (by decide) ?_
  refine lv_icmp_ge (tgt := 24) hx hb dX12_empties_8 (by decide) (fun c_8 => absurd c_8 (by decide)) (fun c_8 => ?_)
  refine lv_aload_n hx hb dX12_empties_11 rfl (lv_at hl 1 rfl) ?_
  refine g_get S hG 83 13 h83 cpX12 wm_1687 dX12_empties_12 rfl (by omega) (by decide) ?_
  refine lv_iload_n hx hb dX12_empties_15 rfl (lv_at hl 0 rfl) ?_
  refine lv_iconst (v := 0) hx hb dX12_empties_16 (by decide) ?_
  refine g_zast S hG 89 rfl (by omega) dX12_empties_17 (by unfold vp_in; decide) (fun H locs hG => ?_)
  refine lv_iinc (v := 8) (lv' := [(1, .int 8), (0, .ref (b + 83))]) hx hb dX12_empties_18 hl (k := 0) rfl (by decide) (by decide) rfl (fun ls hl => ?_)
  refine lv_goto (tgt := 2) hx hb dX12_empties_21 (by decide) ?_
  refine lv_iload_n hx hb dX12_empties_2 rfl (lv_at hl 0 rfl) ?_
  refine lv_aload_n hx hb dX12_empties_3 rfl (lv_at hl 1 rfl) ?_
  refine g_get S hG 83 13 h83 cpX12 wm_1687 dX12_empties_4 rfl (by omega) (by decide) ?_
  refine g_alen S hG 89 3 rfl rfl (by omega) dX12_empties_7 (v := 30) (by decide) ?_
  refine lv_icmp_ge (tgt := 24) hx hb dX12_empties_8 (by decide) (fun c_9 => absurd c_9 (by decide)) (fun c_9 => ?_)
  refine lv_aload_n hx hb dX12_empties_11 rfl (lv_at hl 1 rfl) ?_
  refine g_get S hG 83 13 h83 cpX12 wm_1687 dX12_empties_12 rfl (by omega) (by decide) ?_
  refine lv_iload_n hx hb dX12_empties_15 rfl (lv_at hl 0 rfl) ?_
  refine lv_iconst (v := 0) hx hb dX12_empties_16 (by decide) ?_
  refine g_zast S hG 89 rfl (by omega) dX12_empties_17 (by unfold vp_in; decide) (fun H locs hG => ?_)
  refine lv_iinc (v := 9) (lv' := [(1, .int 9), (0, .ref (b + 83))]) hx hb dX12_empties_18 hl (k := 0) rfl (by decide) (by decide) rfl (fun ls hl => ?_)
  refine lv_goto (tgt := 2) hx hb dX12_empties_21 (by decide) ?_
  refine lv_iload_n hx hb dX12_empties_2 rfl (lv_at hl 0 rfl) ?_
  refine lv_aload_n hx hb dX12_empties_3 rfl (lv_at hl 1 rfl) ?_
  refine g_get S hG 83 13 h83 cpX12 wm_1687 dX12_empties_4 rfl (by omega) (by decide) ?_
  refine g_alen S hG 89 3 rfl rfl (by omega) dX12_empties_7 (v := 30) (by decide) ?_
  refine lv_icmp_ge (tgt := 24) hx hb dX12_empties_8 (by decide) (fun c_10 => absurd c_10 (by decide)) (fun c_10 => ?_)
  refine lv_aload_n hx hb dX12_empties_11 rfl (lv_at hl 1 rfl) ?_
  refine g_get S hG 83 13 h83 cpX12 wm_1687 dX12_empties_12 rfl (by omega) (by decide) ?_
  refine lv_iload_n hx hb dX12_empties_15 rfl (lv_at hl 0 rfl) ?_
  refine lv_iconst (v := 0) hx hb dX12_empties_16 (by decide) ?_
  refine g_zast S hG 89 rfl (by omega) dX12_empties_17 (by unfold vp_in; decide) (fun H locs hG => ?_)
  refine lv_iinc (v := 10) (lv' := [(1, .int 10), (0, .ref (b + 83))]) hx hb dX12_empties_18 hl (k := 0) rfl (by decide) (by decide) rfl (fun ls hl => ?_)
  refine lv_goto (tgt := 2) hx hb dX12_empties_21 (by decide) ?_
  refine lv_iload_n hx hb dX12_empties_2 rfl (lv_at hl 0 rfl) ?_
  refine lv_aload_n hx hb dX12_empties_3 rfl (lv_at hl 1 rfl) ?_
  refine g_get S hG 83 13 h83 cpX12 wm_1687 dX12_empties_4 rfl (by omega) (by decide) ?_
  refine g_alen S hG 89 3 rfl rfl (by omega) dX12_empties_7 (v := 30) (by decide) ?_
  refine lv_icmp_ge (tgt := 24) hx hb dX12_empties_8 (by decide) (fun c_11 => absurd c_11 (by decide)) (fun c_11 => ?_)
  refine lv_aload_n hx hb dX12_empties_11 rfl (lv_at hl 1 rfl) ?_
  refine g_get S hG 83 13 h83 cpX12 wm_1687 dX12_empties_12 rfl (by omega) (by decide) ?_
  refine lv_iload_n hx hb dX12_empties_15 rfl (lv_at hl 0 rfl) ?_
  refine lv_iconst (v := 0) hx hb dX12_empties_16 (by decide) ?_
  refine g_zast S hG 89 rfl (by omega) dX12_empties_17 (by unfold vp_in; decide) (fun H locs hG => ?_)
  refine lv_iinc (v := 11) (lv' := [(1, .int 11), (0, .ref (b + 83))]) hx hb dX12_empties_18 hl (k := 0) rfl (by decide) (by decide) rfl (fun ls hl => ?_)
  refine lv_goto (tgt := 2) hx hb dX12_empties_21 (by decide) ?_
  refine lv_iload_n hx hb dX12_empties_2 rfl (lv_at hl 0 rfl) ?_
  refine lv_aload_n hx hb dX12_empties_3 rfl (lv_at hl 1 rfl) ?_
  refine g_get S hG 83 13 h83 cpX12 wm_1687 dX12_empties_4 rfl (by omega) (by decide) ?_
  refine g_alen S hG 89 3 rfl rfl (by omega) dX12_empties_7 (v := 30) (by decide) ?_
  refine lv_icmp_ge (tgt := 24) hx hb dX12_empties_8 (by decide) (fun c_12 => absurd c_12 (by decide)) (fun c_12 => ?_)
  refine lv_aload_n hx hb dX12_empties_11 rfl (lv_at hl 1 rfl) ?_
  refine g_get S hG 83 13 h83 cpX12 wm_1687 dX12_empties_12 rfl (by omega) (by decide) ?_
  refine lv_iload_n hx hb dX12_empties_15 rfl (lv_at hl 0 rfl) ?_
  refine lv_iconst (v := 0) hx hb dX12_empties_16 (by decide) ?_
  refine g_zast S hG 89 rfl (by omega) dX12_empties_17 (by unfold vp_in; decide) (fun H locs hG => ?_)
  refine lv_iinc (v := 12) (lv' := [(1, .int 12), (0, .ref (b + 83))]) hx hb dX12_empties_18 hl (k := 0) rfl (by decide) (by decide) rfl (fun ls hl => ?_)
  refine lv_goto (tgt := 2) hx hb dX12_empties_21 (by decide) ?_
  refine lv_iload_n hx hb dX12_empties_2 rfl (lv_at hl 0 rfl) ?_
  refine lv_aload_n hx hb dX12_empties_3 rfl (lv_at hl 1 rfl) ?_
  refine g_get S hG 83 13 h83 cpX12 wm_1687 dX12_empties_4 rfl (by omega) (by decide) ?_
  refine g_alen S hG 89 3 rfl rfl (by omega) dX12_empties_7 (v := 30) (by decide) ?_
  refine lv_icmp_ge (tgt := 24) hx hb dX12_empties_8 (by decide) (fun c_13 => absurd c_13 (by decide)) (fun c_13 => ?_)
  refine lv_aload_n hx hb dX12_empties_11 rfl (lv_at hl 1 rfl) ?_
  refine g_get S hG 83 13 h83 cpX12 wm_1687 dX12_empties_12 rfl (by omega) (by decide) ?_
  refine lv_iload_n hx hb dX12_empties_15 rfl (lv_at hl 0 rfl) ?_
  refine lv_iconst (v := 0) hx hb dX12_empties_16 (by decide) ?_
  refine g_zast S hG 89 rfl (by omega) dX12_empties_17 (by unfold vp_in; decide) (fun H locs hG => ?_)
  refine lv_iinc (v := 13) (lv' := [(1, .int 13), (0, .ref (b + 83))]) hx hb dX12_empties_18 hl (k := 0) rfl (by decide) (by decide) rfl (fun ls hl => ?_)
  refine lv_goto (tgt := 2) hx hb dX12_empties_21 (by decide) ?_
  refine lv_iload_n hx hb dX12_empties_2 rfl (lv_at hl 0 rfl) ?_
  refine lv_aload_n hx hb dX12_empties_3 rfl (lv_at hl 1 rfl) ?_
  refine g_get S hG 83 13 h83 cpX12 wm_1687 dX12_empties_4 rfl (by omega) (by decide) ?_
  refine g_alen S hG 89 3 rfl rfl (by omega) dX12_empties_7 (v := 30) (by decide) ?_
  refine lv_icmp_ge (tgt := 24) hx hb dX12_empties_8 (by decide) (fun c_14 => absurd c_14 (by decide)) (fun c_14 => ?_)
  refine lv_aload_n hx hb dX12_empties_11 rfl (lv_at hl 1 rfl) ?_
  refine g_get S hG 83 13 h83 cpX12 wm_1687 dX12_empties_12 rfl (by omega) (by decide) ?_
  refine lv_iload_n hx hb dX12_empties_15 rfl (lv_at hl 0 rfl) ?_
  refine lv_iconst (v := 0) hx hb dX12_empties_16 (by decide) ?_
  refine g_zast S hG 89 rfl (by omega) dX12_empties_17 (by unfold vp_in; decide) (fun H locs hG => ?_)
  refine lv_iinc (v := 14) (lv' := [(1, .int 14), (0, .ref (b + 83))]) hx hb dX12_empties_18 hl (k := 0) rfl (by decide) (by decide) rfl (fun ls hl => ?_)
  refine lv_goto (tgt := 2) hx hb dX12_empties_21 (by decide) ?_
  refine lv_iload_n hx hb dX12_empties_2 rfl (lv_at hl 0 rfl) ?_
  refine lv_aload_n hx hb dX12_empties_3 rfl (lv_at hl 1 rfl) ?_
  refine g_get S hG 83 13 h83 cpX12 wm_1687 dX12_empties_4 rfl (by omega) (by decide) ?_
  refine g_alen S hG 89 3 rfl rfl (by omega) dX12_empties_7 (v := 30) (by decide) ?_
  refine lv_icmp_ge (tgt := 24) hx hb dX12_empties_8 (by decide) (fun c_15 => absurd c_15 (by decide)) (fun c_15 => ?_)
  refine lv_aload_n hx hb dX12_empties_11 rfl (lv_at hl 1 rfl) ?_
  refine g_get S hG 83 13 h83 cpX12 wm_1687 dX12_empties_12 rfl (by omega) (by decide) ?_
  refine lv_iload_n hx hb dX12_empties_15 rfl (lv_at hl 0 rfl) ?_
  refine lv_iconst (v := 0) hx hb dX12_empties_16 (by decide) ?_
  refine g_zast S hG 89 rfl (by omega) dX12_empties_17 (by unfold vp_in; decide) (fun H locs hG => ?_)
  refine lv_iinc (v := 15) (lv' := [(1, .int 15), (0, .ref (b + 83))]) hx hb dX12_empties_18 hl (k := 0) rfl (by decide) (by decide) rfl (fun ls hl => ?_)
  refine lv_goto (tgt := 2) hx hb dX12_empties_21 (by decide) ?_
  refine lv_iload_n hx hb dX12_empties_2 rfl (lv_at hl 0 rfl) ?_
  refine lv_aload_n hx hb dX12_empties_3 rfl (lv_at hl 1 rfl) ?_
  refine g_get S hG 83 13 h83 cpX12 wm_1687 dX12_empties_4 rfl (by omega) (by decide) ?_
  refine g_alen S hG 89 3 rfl rfl (by omega) dX12_empties_7 (v := 30) (by decide) ?_
  refine lv_icmp_ge (tgt := 24) hx hb dX12_empties_8 (by decide) (fun c_16 => absurd c_16 (by decide)) (fun c_16 => ?_)
  refine lv_aload_n hx hb dX12_empties_11 rfl (lv_at hl 1 rfl) ?_
  refine g_get S hG 83 13 h83 cpX12 wm_1687 dX12_empties_12 rfl (by omega) (by decide) ?_
  refine lv_iload_n hx hb dX12_empties_15 rfl (lv_at hl 0 rfl) ?_
  refine lv_iconst (v := 0) hx hb dX12_empties_16 (by decide) ?_
  refine g_zast S hG 89 rfl (by omega) dX12_empties_17 (by unfold vp_in; decide) (fun H locs hG => ?_)
  refine lv_iinc (v := 16) (lv' := [(1, .int 16), (0, .ref (b + 83))]) hx hb dX12_empties_18 hl (k := 0) rfl (by decide) (by decide) rfl (fun ls hl => ?_)
  refine lv_goto (tgt := 2) hx hb dX12_empties_21 (by decide) ?_
  refine lv_iload_n hx hb dX12_empties_2 rfl (lv_at hl 0 rfl) ?_
  refine lv_aload_n hx hb dX12_empties_3 rfl (lv_at hl 1 rfl) ?_
  refine g_get S hG 83 13 h83 cpX12 wm_1687 dX12_empties_4 rfl (by omega) (by decide) ?_
  refine g_alen S hG 89 3 rfl rfl (by omega) dX12_empties_7 (v := 30) (by decide) ?_
  refine lv_icmp_ge (tgt := 24) hx hb dX12_empties_8 (by decide) (fun c_17 => absurd c_17 (by decide)) (fun c_17 => ?_)
  refine lv_aload_n hx hb dX12_empties_11 rfl (lv_at hl 1 rfl) ?_
  refine g_get S hG 83 13 h83 cpX12 wm_1687 dX12_empties_12 rfl (by omega) (by decide) ?_
  refine lv_iload_n hx hb dX12_empties_15 rfl (lv_at hl 0 rfl) ?_
  refine lv_iconst (v := 0) hx hb dX12_empties_16 (by decide) ?_
  refine g_zast S hG 89 rfl (by omega) dX12_empties_17 (by unfold vp_in; decide) (fun H locs hG => ?_)
  refine lv_iinc (v := 17) (lv' := [(1, .int 17), (0, .ref (b + 83))]) hx hb dX12_empties_18 hl (k := 0) rfl (by decide) (by decide) rfl (fun ls hl => ?_)
  refine lv_goto (tgt := 2) hx hb dX12_empties_21 (by decide) ?_
  refine lv_iload_n hx hb dX12_empties_2 rfl (lv_at hl 0 rfl) ?_
  refine lv_aload_n hx hb dX12_empties_3 rfl (lv_at hl 1 rfl) ?_
  refine g_get S hG 83 13 h83 cpX12 wm_1687 dX12_empties_4 rfl (by omega) (by decide) ?_
  refine g_alen S hG 89 3 rfl rfl (by omega) dX12_empties_7 (v := 30) (by decide) ?_
  refine lv_icmp_ge (tgt := 24) hx hb dX12_empties_8 (by decide) (fun c_18 => absurd c_18 (by decide)) (fun c_18 => ?_)
  refine lv_aload_n hx hb dX12_empties_11 rfl (lv_at hl 1 rfl) ?_
  refine g_get S hG 83 13 h83 cpX12 wm_1687 dX12_empties_12 rfl (by omega) (by decide) ?_
  refine lv_iload_n hx hb dX12_empties_15 rfl (lv_at hl 0 rfl) ?_
  refine lv_iconst (v := 0) hx hb dX12_empties_16 (by decide) ?_
  refine g_zast S hG 89 rfl (by omega) dX12_empties_17 (by unfold vp_in; decide) (fun H locs hG => ?_)
  refine lv_iinc (v := 18) (lv' := [(1, .int 18), (0, .ref (b + 83))]) hx hb dX12_empties_18 hl (k := 0) rfl (by decide) (by decide) rfl (fun ls hl => ?_)
  refine lv_goto (tgt := 2) hx hb dX12_empties_21 (by decide) ?_
  refine lv_iload_n hx hb dX12_empties_2 rfl (lv_at hl 0 rfl) ?_
  refine lv_aload_n hx hb dX12_empties_3 rfl (lv_at hl 1 rfl) ?_
  refine g_get S hG 83 13 h83 cpX12 wm_1687 dX12_empties_4 rfl (by omega) (by decide) ?_
  refine g_alen S hG 89 3 rfl rfl (by omega) dX12_empties_7 (v := 30) (by decide) ?_
  refine lv_icmp_ge (tgt := 24) hx hb dX12_empties_8 (by decide) (fun c_19 => absurd c_19 (by decide)) (fun c_19 => ?_)
  refine lv_aload_n hx hb dX12_empties_11 rfl (lv_at hl 1 rfl) ?_
  refine g_get S hG 83 13 h83 cpX12 wm_1687 dX12_empties_12 rfl (by omega) (by decide) ?_
  refine lv_iload_n hx hb dX12_empties_15 rfl (lv_at hl 0 rfl) ?_
  refine lv_iconst (v := 0) hx hb dX12_empties_16 (by decide) ?_
  refine g_zast S hG 89 rfl (by omega) dX12_empties_17 (by unfold vp_in; decide) (fun H locs hG => ?_)
  refine lv_iinc (v := 19) (lv' := [(1, .int 19), (0, .ref (b + 83))]) hx hb dX12_empties_18 hl (k := 0) rfl (by decide) (by decide) rfl (fun ls hl => ?_)
  refine lv_goto (tgt := 2) hx hb dX12_empties_21 (by decide) ?_
  refine lv_iload_n hx hb dX12_empties_2 rfl (lv_at hl 0 rfl) ?_
  refine lv_aload_n hx hb dX12_empties_3 rfl (lv_at hl 1 rfl) ?_
  refine g_get S hG 83 13 h83 cpX12 wm_1687 dX12_empties_4 rfl (by omega) (by decide) ?_
  refine g_alen S hG 89 3 rfl rfl (by omega) dX12_empties_7 (v := 30) (by decide) ?_
  refine lv_icmp_ge (tgt := 24) hx hb dX12_empties_8 (by decide) (fun c_20 => absurd c_20 (by decide)) (fun c_20 => ?_)
  refine lv_aload_n hx hb dX12_empties_11 rfl (lv_at hl 1 rfl) ?_
  refine g_get S hG 83 13 h83 cpX12 wm_1687 dX12_empties_12 rfl (by omega) (by decide) ?_
  refine lv_iload_n hx hb dX12_empties_15 rfl (lv_at hl 0 rfl) ?_
  refine lv_iconst (v := 0) hx hb dX12_empties_16 (by decide) ?_
  refine g_zast S hG 89 rfl (by omega) dX12_empties_17 (by unfold vp_in; decide) (fun H locs hG => ?_)
  refine lv_iinc (v := 20) (lv' := [(1, .int 20), (0, .ref (b + 83))]) hx hb dX12_empties_18 hl (k := 0) rfl (by decide) (by decide) rfl (fun ls hl => ?_)
  refine lv_goto (tgt := 2) hx hb dX12_empties_21 (by decide) ?_
  refine lv_iload_n hx hb dX12_empties_2 rfl (lv_at hl 0 rfl) ?_
  refine lv_aload_n hx hb dX12_empties_3 rfl (lv_at hl 1 rfl) ?_
  refine g_get S hG 83 13 h83 cpX12 wm_1687 dX12_empties_4 rfl (by omega) (by decide) ?_
  refine g_alen S hG 89 3 rfl rfl (by omega) dX12_empties_7 (v := 30) (by decide) ?_
  refine lv_icmp_ge (tgt := 24) hx hb dX12_empties_8 (by decide) (fun c_21 => absurd c_21 (by decide)) (fun c_21 => ?_)
  refine lv_aload_n hx hb dX12_empties_11 rfl (lv_at hl 1 rfl) ?_
  refine g_get S hG 83 13 h83 cpX12 wm_1687 dX12_empties_12 rfl (by omega) (by decide) ?_
  refine lv_iload_n hx hb dX12_empties_15 rfl (lv_at hl 0 rfl) ?_
  refine lv_iconst (v := 0) hx hb dX12_empties_16 (by decide) ?_
  refine g_zast S hG 89 rfl (by omega) dX12_empties_17 (by unfold vp_in; decide) (fun H locs hG => ?_)
  refine lv_iinc (v := 21) (lv' := [(1, .int 21), (0, .ref (b + 83))]) hx hb dX12_empties_18 hl (k := 0) rfl (by decide) (by decide) rfl (fun ls hl => ?_)
  refine lv_goto (tgt := 2) hx hb dX12_empties_21 (by decide) ?_
  refine lv_iload_n hx hb dX12_empties_2 rfl (lv_at hl 0 rfl) ?_
  refine lv_aload_n hx hb dX12_empties_3 rfl (lv_at hl 1 rfl) ?_
  refine g_get S hG 83 13 h83 cpX12 wm_1687 dX12_empties_4 rfl (by omega) (by decide) ?_
  refine g_alen S hG 89 3 rfl rfl (by omega) dX12_empties_7 (v := 30) (by decide) ?_
  refine lv_icmp_ge (tgt := 24) hx hb dX12_empties_8 (by decide) (fun c_22 => absurd c_22 (by decide)) (fun c_22 => ?_)
  refine lv_aload_n hx hb dX12_empties_11 rfl (lv_at hl 1 rfl) ?_
  refine g_get S hG 83 13 h83 cpX12 wm_1687 dX12_empties_12 rfl (by omega) (by decide) ?_
  refine lv_iload_n hx hb dX12_empties_15 rfl (lv_at hl 0 rfl) ?_
  refine lv_iconst (v := 0) hx hb dX12_empties_16 (by decide) ?_
  refine g_zast S hG 89 rfl (by omega) dX12_empties_17 (by unfold vp_in; decide) (fun H locs hG => ?_)
  refine lv_iinc (v := 22) (lv' := [(1, .int 22), (0, .ref (b + 83))]) hx hb dX12_empties_18 hl (k := 0) rfl (by decide) (by decide) rfl (fun ls hl => ?_)
  refine lv_goto (tgt := 2) hx hb dX12_empties_21 (by decide) ?_
  refine lv_iload_n hx hb dX12_empties_2 rfl (lv_at hl 0 rfl) ?_
  refine lv_aload_n hx hb dX12_empties_3 rfl (lv_at hl 1 rfl) ?_
  refine g_get S hG 83 13 h83 cpX12 wm_1687 dX12_empties_4 rfl (by omega) (by decide) ?_
  refine g_alen S hG 89 3 rfl rfl (by omega) dX12_empties_7 (v := 30) (by decide) ?_
  refine lv_icmp_ge (tgt := 24) hx hb dX12_empties_8 (by decide) (fun c_23 => absurd c_23 (by decide)) (fun c_23 => ?_)
  refine lv_aload_n hx hb dX12_empties_11 rfl (lv_at hl 1 rfl) ?_
  refine g_get S hG 83 13 h83 cpX12 wm_1687 dX12_empties_12 rfl (by omega) (by decide) ?_
  refine lv_iload_n hx hb dX12_empties_15 rfl (lv_at hl 0 rfl) ?_
  refine lv_iconst (v := 0) hx hb dX12_empties_16 (by decide) ?_
  refine g_zast S hG 89 rfl (by omega) dX12_empties_17 (by unfold vp_in; decide) (fun H locs hG => ?_)
  refine lv_iinc (v := 23) (lv' := [(1, .int 23), (0, .ref (b + 83))]) hx hb dX12_empties_18 hl (k := 0) rfl (by decide) (by decide) rfl (fun ls hl => ?_)
  refine lv_goto (tgt := 2) hx hb dX12_empties_21 (by decide) ?_
  refine lv_iload_n hx hb dX12_empties_2 rfl (lv_at hl 0 rfl) ?_
  refine lv_aload_n hx hb dX12_empties_3 rfl (lv_at hl 1 rfl) ?_
  refine g_get S hG 83 13 h83 cpX12 wm_1687 dX12_empties_4 rfl (by omega) (by decide) ?_
  refine g_alen S hG 89 3 rfl rfl (by omega) dX12_empties_7 (v := 30) (by decide) ?_
  refine lv_icmp_ge (tgt := 24) hx hb dX12_empties_8 (by decide) (fun c_24 => absurd c_24 (by decide)) (fun c_24 => ?_)
  refine lv_aload_n hx hb dX12_empties_11 rfl (lv_at hl 1 rfl) ?_
  refine g_get S hG 83 13 h83 cpX12 wm_1687 dX12_empties_12 rfl (by omega) (by decide) ?_
  refine lv_iload_n hx hb dX12_empties_15 rfl (lv_at hl 0 rfl) ?_
  refine lv_iconst (v := 0) hx hb dX12_empties_16 (by decide) ?_
  refine g_zast S hG 89 rfl (by omega) dX12_empties_17 (by unfold vp_in; decide) (fun H locs hG => ?_)
  refine lv_iinc (v := 24) (lv' := [(1, .int 24), (0, .ref (b + 83))]) hx hb dX12_empties_18 hl (k := 0) rfl (by decide) (by decide) rfl (fun ls hl => ?_)
  refine lv_goto (tgt := 2) hx hb dX12_empties_21 (by decide) ?_
  refine lv_iload_n hx hb dX12_empties_2 rfl (lv_at hl 0 rfl) ?_
  refine lv_aload_n hx hb dX12_empties_3 rfl (lv_at hl 1 rfl) ?_
  refine g_get S hG 83 13 h83 cpX12 wm_1687 dX12_empties_4 rfl (by omega) (by decide) ?_
  refine g_alen S hG 89 3 rfl rfl (by omega) dX12_empties_7 (v := 30) (by decide) ?_
  refine lv_icmp_ge (tgt := 24) hx hb dX12_empties_8 (by decide) (fun c_25 => absurd c_25 (by decide)) (fun c_25 => ?_)
  refine lv_aload_n hx hb dX12_empties_11 rfl (lv_at hl 1 rfl) ?_
  refine g_get S hG 83 13 h83 cpX12 wm_1687 dX12_empties_12 rfl (by omega) (by decide) ?_
  refine lv_iload_n hx hb dX12_empties_15 rfl (lv_at hl 0 rfl) ?_
  refine lv_iconst (v := 0) hx hb dX12_empties_16 (by decide) ?_
  refine g_zast S hG 89 rfl (by omega) dX12_empties_17 (by unfold vp_in; decide) (fun H locs hG => ?_)
  refine lv_iinc (v := 25) (lv' := [(1, .int 25), (0, .ref (b + 83))]) hx hb dX12_empties_18 hl (k := 0) rfl (by decide) (by decide) rfl (fun ls hl => ?_)
  refine lv_goto (tgt := 2) hx hb dX12_empties_21 (by decide) ?_
  refine lv_iload_n hx hb dX12_empties_2 rfl (lv_at hl 0 rfl) ?_
  refine lv_aload_n hx hb dX12_empties_3 rfl (lv_at hl 1 rfl) ?_
  refine g_get S hG 83 13 h83 cpX12 wm_1687 dX12_empties_4 rfl (by omega) (by decide) ?_
  refine g_alen S hG 89 3 rfl rfl (by omega) dX12_empties_7 (v := 30) (by decide) ?_
  refine lv_icmp_ge (tgt := 24) hx hb dX12_empties_8 (by decide) (fun c_26 => absurd c_26 (by decide)) (fun c_26 => ?_)
  refine lv_aload_n hx hb dX12_empties_11 rfl (lv_at hl 1 rfl) ?_
  refine g_get S hG 83 13 h83 cpX12 wm_1687 dX12_empties_12 rfl (by omega) (by decide) ?_
  refine lv_iload_n hx hb dX12_empties_15 rfl (lv_at hl 0 rfl) ?_
  refine lv_iconst (v := 0) hx hb dX12_empties_16 (by decide) ?_
  refine g_zast S hG 89 rfl (by omega) dX12_empties_17 (by unfold vp_in; decide) (fun H locs hG => ?_)
  refine lv_iinc (v := 26) (lv' := [(1, .int 26), (0, .ref (b + 83))]) hx hb dX12_empties_18 hl (k := 0) rfl (by decide) (by decide) rfl (fun ls hl => ?_)
  refine lv_goto (tgt := 2) hx hb dX12_empties_21 (by decide) ?_
  refine lv_iload_n hx hb dX12_empties_2 rfl (lv_at hl 0 rfl) ?_
  refine lv_aload_n hx hb dX12_empties_3 rfl (lv_at hl 1 rfl) ?_
  refine g_get S hG 83 13 h83 cpX12 wm_1687 dX12_empties_4 rfl (by omega) (by decide) ?_
  refine g_alen S hG 89 3 rfl rfl (by omega) dX12_empties_7 (v := 30) (by decide) ?_
  refine lv_icmp_ge (tgt := 24) hx hb dX12_empties_8 (by decide) (fun c_27 => absurd c_27 (by decide)) (fun c_27 => ?_)
  refine lv_aload_n hx hb dX12_empties_11 rfl (lv_at hl 1 rfl) ?_
  refine g_get S hG 83 13 h83 cpX12 wm_1687 dX12_empties_12 rfl (by omega) (by decide) ?_
  refine lv_iload_n hx hb dX12_empties_15 rfl (lv_at hl 0 rfl) ?_
  refine lv_iconst (v := 0) hx hb dX12_empties_16 (by decide) ?_
  refine g_zast S hG 89 rfl (by omega) dX12_empties_17 (by unfold vp_in; decide) (fun H locs hG => ?_)
  refine lv_iinc (v := 27) (lv' := [(1, .int 27), (0, .ref (b + 83))]) hx hb dX12_empties_18 hl (k := 0) rfl (by decide) (by decide) rfl (fun ls hl => ?_)
  refine lv_goto (tgt := 2) hx hb dX12_empties_21 (by decide) ?_
  refine lv_iload_n hx hb dX12_empties_2 rfl (lv_at hl 0 rfl) ?_
  refine lv_aload_n hx hb dX12_empties_3 rfl (lv_at hl 1 rfl) ?_
  refine g_get S hG 83 13 h83 cpX12 wm_1687 dX12_empties_4 rfl (by omega) (by decide) ?_
  refine g_alen S hG 89 3 rfl rfl (by omega) dX12_empties_7 (v := 30) (by decide) ?_
  refine lv_icmp_ge (tgt := 24) hx hb dX12_empties_8 (by decide) (fun c_28 => absurd c_28 (by decide)) (fun c_28 => ?_)
  refine lv_aload_n hx hb dX12_empties_11 rfl (lv_at hl 1 rfl) ?_
  refine g_get S hG 83 13 h83 cpX12 wm_1687 dX12_empties_12 rfl (by omega) (by decide) ?_
  refine lv_iload_n hx hb dX12_empties_15 rfl (lv_at hl 0 rfl) ?_
  refine lv_iconst (v := 0) hx hb dX12_empties_16 (by decide) ?_
  refine g_zast S hG 89 rfl (by omega) dX12_empties_17 (by unfold vp_in; decide) (fun H locs hG => ?_)
  refine lv_iinc (v := 28) (lv' := [(1, .int 28), (0, .ref (b + 83))]) hx hb dX12_empties_18 hl (k := 0) rfl (by decide) (by decide) rfl (fun ls hl => ?_)
  refine lv_goto (tgt := 2) hx hb dX12_empties_21 (by decide) ?_
  refine lv_iload_n hx hb dX12_empties_2 rfl (lv_at hl 0 rfl) ?_
  refine lv_aload_n hx hb dX12_empties_3 rfl (lv_at hl 1 rfl) ?_
  refine g_get S hG 83 13 h83 cpX12 wm_1687 dX12_empties_4 rfl (by omega) (by decide) ?_
  refine g_alen S hG 89 3 rfl rfl (by omega) dX12_empties_7 (v := 30) (by decide) ?_
  refine lv_icmp_ge (tgt := 24) hx hb dX12_empties_8 (by decide) (fun c_29 => absurd c_29 (by decide)) (fun c_29 => ?_)
  refine lv_aload_n hx hb dX12_empties_11 rfl (lv_at hl 1 rfl) ?_
  refine g_get S hG 83 13 h83 cpX12 wm_1687 dX12_empties_12 rfl (by omega) (by decide) ?_
  refine lv_iload_n hx hb dX12_empties_15 rfl (lv_at hl 0 rfl) ?_
  refine lv_iconst (v := 0) hx hb dX12_empties_16 (by decide) ?_
  refine g_zast S hG 89 rfl (by omega) dX12_empties_17 (by unfold vp_in; decide) (fun H locs hG => ?_)
  refine lv_iinc (v := 29) (lv' := [(1, .int 29), (0, .ref (b + 83))]) hx hb dX12_empties_18 hl (k := 0) rfl (by decide) (by decide) rfl (fun ls hl => ?_)
  refine lv_goto (tgt := 2) hx hb dX12_empties_21 (by decide) ?_
  refine lv_iload_n hx hb dX12_empties_2 rfl (lv_at hl 0 rfl) ?_
  refine lv_aload_n hx hb dX12_empties_3 rfl (lv_at hl 1 rfl) ?_
  refine g_get S hG 83 13 h83 cpX12 wm_1687 dX12_empties_4 rfl (by omega) (by decide) ?_
  refine g_alen S hG 89 3 rfl rfl (by omega) dX12_empties_7 (v := 30) (by decide) ?_
  refine lv_icmp_ge (tgt := 24) hx hb dX12_empties_8 (by decide) (fun c_30 => absurd c_30 (by decide)) (fun c_30 => ?_)
  refine lv_aload_n hx hb dX12_empties_11 rfl (lv_at hl 1 rfl) ?_
  refine g_get S hG 83 13 h83 cpX12 wm_1687 dX12_empties_12 rfl (by omega) (by decide) ?_
  refine lv_iload_n hx hb dX12_empties_15 rfl (lv_at hl 0 rfl) ?_
  refine lv_iconst (v := 0) hx hb dX12_empties_16 (by decide) ?_
  refine g_zast S hG 89 rfl (by omega) dX12_empties_17 (by unfold vp_in; decide) (fun H locs hG => ?_)
  refine lv_iinc (v := 30) (lv' := [(1, .int 30), (0, .ref (b + 83))]) hx hb dX12_empties_18 hl (k := 0) rfl (by decide) (by decide) rfl (fun ls hl => ?_)
  refine lv_goto (tgt := 2) hx hb dX12_empties_21 (by decide) ?_
  refine lv_iload_n hx hb dX12_empties_2 rfl (lv_at hl 0 rfl) ?_
  refine lv_aload_n hx hb dX12_empties_3 rfl (lv_at hl 1 rfl) ?_
  refine g_get S hG 83 13 h83 cpX12 wm_1687 dX12_empties_4 rfl (by omega) (by decide) ?_
  refine g_alen S hG 89 3 rfl rfl (by omega) dX12_empties_7 (v := 30) (by decide) ?_
  refine lv_icmp_ge (tgt := 24) hx hb dX12_empties_8 (by decide) (fun c_31 => ?_) (fun c_31 => absurd c_31 (by decide))
  refine lv_iconst (v := 0) hx hb dX12_empties_24 (by decide) ?_
  refine lv_istore_n (lv' := [(1, .int 0), (0, .ref (b + 83))]) hx hb dX12_empties_25 rfl hl (by decide) rfl (fun ls hl => ?_)
  refine lv_iload_n hx hb dX12_empties_26 rfl (lv_at hl 0 rfl) ?_
  refine lv_aload_n hx hb dX12_empties_27 rfl (lv_at hl 1 rfl) ?_
  refine g_get S hG 83 13 h83 cpX12 wm_1687 dX12_empties_28 rfl (by omega) (by decide) ?_
  refine g_alen S hG 89 3 rfl rfl (by omega) dX12_empties_31 (v := 30) (by decide) ?_
  refine lv_icmp_gt (tgt := 102) hx hb dX12_empties_32 (by decide) (fun c_32 => absurd c_32 (by decide)) (fun c_32 => ?_)
  refine lv_iconst (v := 0) hx hb dX12_empties_35 (by decide) ?_
  refine lv_istore_n (lv' := [(2, .int 0), (1, .int 0), (0, .ref (b + 83))]) hx hb dX12_empties_36 rfl hl (by decide) rfl (fun ls hl => ?_)
  refine lv_iload_n hx hb dX12_empties_37 rfl (lv_at hl 0 rfl) ?_
  refine lv_aload_n hx hb dX12_empties_38 rfl (lv_at hl 2 rfl) ?_
  refine g_get S hG 83 0 h83 cpX12 wm_1674 dX12_empties_39 rfl (by omega) (by decide) ?_
  refine lv_iconst (v := 2) hx hb dX12_empties_42 (by decide) ?_
  refine g_iald S hG 84 h84 (by omega) dX12_empties_43 (by unfold vp_in; decide) ?_
  refine lv_topi (fun x_33 ex_33 => ?_)
  obtain rfl : x_33 = 0 := ex_33.trans (by decide)
  refine lv_icmp_ge (tgt := 64) hx hb dX12_empties_44 (by decide) (fun c_34 => ?_) (fun c_34 => absurd c_34 (by decide))
  refine lv_iconst (v := 0) hx hb dX12_empties_64 (by decide) ?_
  refine lv_istore_n (lv' := [(2, .int 0), (1, .int 0), (0, .ref (b + 83))]) hx hb dX12_empties_65 rfl hl (by decide) rfl (fun ls hl => ?_)
  refine lv_iload_n hx hb dX12_empties_66 rfl (lv_at hl 0 rfl) ?_
  refine lv_aload_n hx hb dX12_empties_67 rfl (lv_at hl 2 rfl) ?_
  refine g_get S hG 83 0 h83 cpX12 wm_1674 dX12_empties_68 rfl (by omega) (by decide) ?_
  refine lv_iconst (v := 0) hx hb dX12_empties_71 (by decide) ?_
  refine g_iald S hG 84 h84 (by omega) dX12_empties_72 (by unfold vp_in; decide) ?_
  refine lv_topi (fun x_35 ex_35 => ?_)
  obtain rfl : x_35 = 0 := ex_35.trans (by decide)
  refine lv_icmp_ge (tgt := 96) hx hb dX12_empties_73 (by decide) (fun c_36 => ?_) (fun c_36 => absurd c_36 (by decide))
  refine lv_iinc (v := 1) (lv' := [(1, .int 1), (2, .int 0), (0, .ref (b + 83))]) hx hb dX12_empties_96 hl (k := 1) rfl (by decide) (by decide) rfl (fun ls hl => ?_)
  refine lv_goto (tgt := 26) hx hb dX12_empties_99 (by decide) ?_
  refine lv_iload_n hx hb dX12_empties_26 rfl (lv_at hl 0 rfl) ?_
  refine lv_aload_n hx hb dX12_empties_27 rfl (lv_at hl 2 rfl) ?_
  refine g_get S hG 83 13 h83 cpX12 wm_1687 dX12_empties_28 rfl (by omega) (by decide) ?_
  refine g_alen S hG 89 3 rfl rfl (by omega) dX12_empties_31 (v := 30) (by decide) ?_
  refine lv_icmp_gt (tgt := 102) hx hb dX12_empties_32 (by decide) (fun c_37 => absurd c_37 (by decide)) (fun c_37 => ?_)
  refine lv_iconst (v := 0) hx hb dX12_empties_35 (by decide) ?_
  refine lv_istore_n (lv' := [(2, .int 0), (1, .int 1), (0, .ref (b + 83))]) hx hb dX12_empties_36 rfl hl (by decide) rfl (fun ls hl => ?_)
  refine lv_iload_n hx hb dX12_empties_37 rfl (lv_at hl 0 rfl) ?_
  refine lv_aload_n hx hb dX12_empties_38 rfl (lv_at hl 2 rfl) ?_
  refine g_get S hG 83 0 h83 cpX12 wm_1674 dX12_empties_39 rfl (by omega) (by decide) ?_
  refine lv_iconst (v := 2) hx hb dX12_empties_42 (by decide) ?_
  refine g_iald S hG 84 h84 (by omega) dX12_empties_43 (by unfold vp_in; decide) ?_
  refine lv_topi (fun x_38 ex_38 => ?_)
  obtain rfl : x_38 = 0 := ex_38.trans (by decide)
  refine lv_icmp_ge (tgt := 64) hx hb dX12_empties_44 (by decide) (fun c_39 => ?_) (fun c_39 => absurd c_39 (by decide))
  refine lv_iconst (v := 0) hx hb dX12_empties_64 (by decide) ?_
  refine lv_istore_n (lv' := [(2, .int 0), (1, .int 1), (0, .ref (b + 83))]) hx hb dX12_empties_65 rfl hl (by decide) rfl (fun ls hl => ?_)
  refine lv_iload_n hx hb dX12_empties_66 rfl (lv_at hl 0 rfl) ?_
  refine lv_aload_n hx hb dX12_empties_67 rfl (lv_at hl 2 rfl) ?_
  refine g_get S hG 83 0 h83 cpX12 wm_1674 dX12_empties_68 rfl (by omega) (by decide) ?_
  refine lv_iconst (v := 0) hx hb dX12_empties_71 (by decide) ?_
  refine g_iald S hG 84 h84 (by omega) dX12_empties_72 (by unfold vp_in; decide) ?_
  refine lv_topi (fun x_40 ex_40 => ?_)
  obtain rfl : x_40 = 0 := ex_40.trans (by decide)
  refine lv_icmp_ge (tgt := 96) hx hb dX12_empties_73 (by decide) (fun c_41 => ?_) (fun c_41 => absurd c_41 (by decide))
  refine lv_iinc (v := 2) (lv' := [(1, .int 2), (2, .int 0), (0, .ref (b + 83))]) hx hb dX12_empties_96 hl (k := 1) rfl (by decide) (by decide) rfl (fun ls hl => ?_)
  refine lv_goto (tgt := 26) hx hb dX12_empties_99 (by decide) ?_
  refine lv_iload_n hx hb dX12_empties_26 rfl (lv_at hl 0 rfl) ?_
  refine lv_aload_n hx hb dX12_empties_27 rfl (lv_at hl 2 rfl) ?_
  refine g_get S hG 83 13 h83 cpX12 wm_1687 dX12_empties_28 rfl (by omega) (by decide) ?_
  refine g_alen S hG 89 3 rfl rfl (by omega) dX12_empties_31 (v := 30) (by decide) ?_
  refine lv_icmp_gt (tgt := 102) hx hb dX12_empties_32 (by decide) (fun c_42 => absurd c_42 (by decide)) (fun c_42 => ?_)
  refine lv_iconst (v := 0) hx hb dX12_empties_35 (by decide) ?_
  refine lv_istore_n (lv' := [(2, .int 0), (1, .int 2), (0, .ref (b + 83))]) hx hb dX12_empties_36 rfl hl (by decide) rfl (fun ls hl => ?_)
  refine lv_iload_n hx hb dX12_empties_37 rfl (lv_at hl 0 rfl) ?_
  refine lv_aload_n hx hb dX12_empties_38 rfl (lv_at hl 2 rfl) ?_
  refine g_get S hG 83 0 h83 cpX12 wm_1674 dX12_empties_39 rfl (by omega) (by decide) ?_
  refine lv_iconst (v := 2) hx hb dX12_empties_42 (by decide) ?_
  refine g_iald S hG 84 h84 (by omega) dX12_empties_43 (by unfold vp_in; decide) ?_
  refine lv_topi (fun x_43 ex_43 => ?_)
  obtain rfl : x_43 = 0 := ex_43.trans (by decide)
  refine lv_icmp_ge (tgt := 64) hx hb dX12_empties_44 (by decide) (fun c_44 => ?_) (fun c_44 => absurd c_44 (by decide))
  refine lv_iconst (v := 0) hx hb dX12_empties_64 (by decide) ?_
  refine lv_istore_n (lv' := [(2, .int 0), (1, .int 2), (0, .ref (b + 83))]) hx hb dX12_empties_65 rfl hl (by decide) rfl (fun ls hl => ?_)
  refine lv_iload_n hx hb dX12_empties_66 rfl (lv_at hl 0 rfl) ?_
  refine lv_aload_n hx hb dX12_empties_67 rfl (lv_at hl 2 rfl) ?_
  refine g_get S hG 83 0 h83 cpX12 wm_1674 dX12_empties_68 rfl (by omega) (by decide) ?_
  refine lv_iconst (v := 0) hx hb dX12_empties_71 (by decide) ?_
  refine g_iald S hG 84 h84 (by omega) dX12_empties_72 (by unfold vp_in; decide) ?_
  refine lv_topi (fun x_45 ex_45 => ?_)
  obtain rfl : x_45 = 0 := ex_45.trans (by decide)
  refine lv_icmp_ge (tgt := 96) hx hb dX12_empties_73 (by decide) (fun c_46 => ?_) (fun c_46 => absurd c_46 (by decide))
  refine lv_iinc (v := 3) (lv' := [(1, .int 3), (2, .int 0), (0, .ref (b + 83))]) hx hb dX12_empties_96 hl (k := 1) rfl (by decide) (by decide) rfl (fun ls hl => ?_)
  refine lv_goto (tgt := 26) hx hb dX12_empties_99 (by decide) ?_
  refine lv_iload_n hx hb dX12_empties_26 rfl (lv_at hl 0 rfl) ?_
  refine lv_aload_n hx hb dX12_empties_27 rfl (lv_at hl 2 rfl) ?_
  refine g_get S hG 83 13 h83 cpX12 wm_1687 dX12_empties_28 rfl (by omega) (by decide) ?_
  refine g_alen S hG 89 3 rfl rfl (by omega) dX12_empties_31 (v := 30) (by decide) ?_
  refine lv_icmp_gt (tgt := 102) hx hb dX12_empties_32 (by decide) (fun c_47 => absurd c_47 (by decide)) (fun c_47 => ?_)
  refine lv_iconst (v := 0) hx hb dX12_empties_35 (by decide) ?_
  refine lv_istore_n (lv' := [(2, .int 0), (1, .int 3), (0, .ref (b + 83))]) hx hb dX12_empties_36 rfl hl (by decide) rfl (fun ls hl => ?_)
  refine lv_iload_n hx hb dX12_empties_37 rfl (lv_at hl 0 rfl) ?_
  refine lv_aload_n hx hb dX12_empties_38 rfl (lv_at hl 2 rfl) ?_
  refine g_get S hG 83 0 h83 cpX12 wm_1674 dX12_empties_39 rfl (by omega) (by decide) ?_
  refine lv_iconst (v := 2) hx hb dX12_empties_42 (by decide) ?_
  refine g_iald S hG 84 h84 (by omega) dX12_empties_43 (by unfold vp_in; decide) ?_
  refine lv_topi (fun x_48 ex_48 => ?_)
  obtain rfl : x_48 = 0 := ex_48.trans (by decide)
  refine lv_icmp_ge (tgt := 64) hx hb dX12_empties_44 (by decide) (fun c_49 => ?_) (fun c_49 => absurd c_49 (by decide))
  refine lv_iconst (v := 0) hx hb dX12_empties_64 (by decide) ?_
  refine lv_istore_n (lv' := [(2, .int 0), (1, .int 3), (0, .ref (b + 83))]) hx hb dX12_empties_65 rfl hl (by decide) rfl (fun ls hl => ?_)
  refine lv_iload_n hx hb dX12_empties_66 rfl (lv_at hl 0 rfl) ?_
  refine lv_aload_n hx hb dX12_empties_67 rfl (lv_at hl 2 rfl) ?_
  refine g_get S hG 83 0 h83 cpX12 wm_1674 dX12_empties_68 rfl (by omega) (by decide) ?_
  refine lv_iconst (v := 0) hx hb dX12_empties_71 (by decide) ?_
  refine g_iald S hG 84 h84 (by omega) dX12_empties_72 (by unfold vp_in; decide) ?_
  refine lv_topi (fun x_50 ex_50 => ?_)
  obtain rfl : x_50 = 0 := ex_50.trans (by decide)
  refine lv_icmp_ge (tgt := 96) hx hb dX12_empties_73 (by decide) (fun c_51 => ?_) (fun c_51 => absurd c_51 (by decide))
  refine lv_iinc (v := 4) (lv' := [(1, .int 4), (2, .int 0), (0, .ref (b + 83))]) hx hb dX12_empties_96 hl (k := 1) rfl (by decide) (by decide) rfl (fun ls hl => ?_)
  refine lv_goto (tgt := 26) hx hb dX12_empties_99 (by decide) ?_
  refine lv_iload_n hx hb dX12_empties_26 rfl (lv_at hl 0 rfl) ?_
  refine lv_aload_n hx hb dX12_empties_27 rfl (lv_at hl 2 rfl) ?_
  refine g_get S hG 83 13 h83 cpX12 wm_1687 dX12_empties_28 rfl (by omega) (by decide) ?_
  refine g_alen S hG 89 3 rfl rfl (by omega) dX12_empties_31 (v := 30) (by decide) ?_
  refine lv_icmp_gt (tgt := 102) hx hb dX12_empties_32 (by decide) (fun c_52 => absurd c_52 (by decide)) (fun c_52 => ?_)
  refine lv_iconst (v := 0) hx hb dX12_empties_35 (by decide) ?_
  refine lv_istore_n (lv' := [(2, .int 0), (1, .int 4), (0, .ref (b + 83))]) hx hb dX12_empties_36 rfl hl (by decide) rfl (fun ls hl => ?_)
  refine lv_iload_n hx hb dX12_empties_37 rfl (lv_at hl 0 rfl) ?_
  refine lv_aload_n hx hb dX12_empties_38 rfl (lv_at hl 2 rfl) ?_
  refine g_get S hG 83 0 h83 cpX12 wm_1674 dX12_empties_39 rfl (by omega) (by decide) ?_
  refine lv_iconst (v := 2) hx hb dX12_empties_42 (by decide) ?_
  refine g_iald S hG 84 h84 (by omega) dX12_empties_43 (by unfold vp_in; decide) ?_
  refine lv_topi (fun x_53 ex_53 => ?_)
  obtain rfl : x_53 = 0 := ex_53.trans (by decide)
  refine lv_icmp_ge (tgt := 64) hx hb dX12_empties_44 (by decide) (fun c_54 => ?_) (fun c_54 => absurd c_54 (by decide))
  refine lv_iconst (v := 0) hx hb dX12_empties_64 (by decide) ?_
  refine lv_istore_n (lv' := [(2, .int 0), (1, .int 4), (0, .ref (b + 83))]) hx hb dX12_empties_65 rfl hl (by decide) rfl (fun ls hl => ?_)
  refine lv_iload_n hx hb dX12_empties_66 rfl (lv_at hl 0 rfl) ?_
  refine lv_aload_n hx hb dX12_empties_67 rfl (lv_at hl 2 rfl) ?_
  refine g_get S hG 83 0 h83 cpX12 wm_1674 dX12_empties_68 rfl (by omega) (by decide) ?_
  refine lv_iconst (v := 0) hx hb dX12_empties_71 (by decide) ?_
  refine g_iald S hG 84 h84 (by omega) dX12_empties_72 (by unfold vp_in; decide) ?_
  refine lv_topi (fun x_55 ex_55 => ?_)
  obtain rfl : x_55 = 0 := ex_55.trans (by decide)
  refine lv_icmp_ge (tgt := 96) hx hb dX12_empties_73 (by decide) (fun c_56 => ?_) (fun c_56 => absurd c_56 (by decide))
  refine lv_iinc (v := 5) (lv' := [(1, .int 5), (2, .int 0), (0, .ref (b + 83))]) hx hb dX12_empties_96 hl (k := 1) rfl (by decide) (by decide) rfl (fun ls hl => ?_)
  refine lv_goto (tgt := 26) hx hb dX12_empties_99 (by decide) ?_
  refine lv_iload_n hx hb dX12_empties_26 rfl (lv_at hl 0 rfl) ?_
  refine lv_aload_n hx hb dX12_empties_27 rfl (lv_at hl 2 rfl) ?_
  refine g_get S hG 83 13 h83 cpX12 wm_1687 dX12_empties_28 rfl (by omega) (by decide) ?_
  refine g_alen S hG 89 3 rfl rfl (by omega) dX12_empties_31 (v := 30) (by decide) ?_
  refine lv_icmp_gt (tgt := 102) hx hb dX12_empties_32 (by decide) (fun c_57 => absurd c_57 (by decide)) (fun c_57 => ?_)
  refine lv_iconst (v := 0) hx hb dX12_empties_35 (by decide) ?_
  refine lv_istore_n (lv' := [(2, .int 0), (1, .int 5), (0, .ref (b + 83))]) hx hb dX12_empties_36 rfl hl (by decide) rfl (fun ls hl => ?_)
  refine lv_iload_n hx hb dX12_empties_37 rfl (lv_at hl 0 rfl) ?_
  refine lv_aload_n hx hb dX12_empties_38 rfl (lv_at hl 2 rfl) ?_
  refine g_get S hG 83 0 h83 cpX12 wm_1674 dX12_empties_39 rfl (by omega) (by decide) ?_
  refine lv_iconst (v := 2) hx hb dX12_empties_42 (by decide) ?_
  refine g_iald S hG 84 h84 (by omega) dX12_empties_43 (by unfold vp_in; decide) ?_
  refine lv_topi (fun x_58 ex_58 => ?_)
  obtain rfl : x_58 = 0 := ex_58.trans (by decide)
  refine lv_icmp_ge (tgt := 64) hx hb dX12_empties_44 (by decide) (fun c_59 => ?_) (fun c_59 => absurd c_59 (by decide))
  refine lv_iconst (v := 0) hx hb dX12_empties_64 (by decide) ?_
  refine lv_istore_n (lv' := [(2, .int 0), (1, .int 5), (0, .ref (b + 83))]) hx hb dX12_empties_65 rfl hl (by decide) rfl (fun ls hl => ?_)
  refine lv_iload_n hx hb dX12_empties_66 rfl (lv_at hl 0 rfl) ?_
  refine lv_aload_n hx hb dX12_empties_67 rfl (lv_at hl 2 rfl) ?_
  refine g_get S hG 83 0 h83 cpX12 wm_1674 dX12_empties_68 rfl (by omega) (by decide) ?_
  refine lv_iconst (v := 0) hx hb dX12_empties_71 (by decide) ?_
  refine g_iald S hG 84 h84 (by omega) dX12_empties_72 (by unfold vp_in; decide) ?_
  refine lv_topi (fun x_60 ex_60 => ?_)
  obtain rfl : x_60 = 0 := ex_60.trans (by decide)
  refine lv_icmp_ge (tgt := 96) hx hb dX12_empties_73 (by decide) (fun c_61 => ?_) (fun c_61 => absurd c_61 (by decide))
  refine lv_iinc (v := 6) (lv' := [(1, .int 6), (2, .int 0), (0, .ref (b + 83))]) hx hb dX12_empties_96 hl (k := 1) rfl (by decide) (by decide) rfl (fun ls hl => ?_)
  refine lv_goto (tgt := 26) hx hb dX12_empties_99 (by decide) ?_
  refine lv_iload_n hx hb dX12_empties_26 rfl (lv_at hl 0 rfl) ?_
  refine lv_aload_n hx hb dX12_empties_27 rfl (lv_at hl 2 rfl) ?_
  refine g_get S hG 83 13 h83 cpX12 wm_1687 dX12_empties_28 rfl (by omega) (by decide) ?_
  refine g_alen S hG 89 3 rfl rfl (by omega) dX12_empties_31 (v := 30) (by decide) ?_
  refine lv_icmp_gt (tgt := 102) hx hb dX12_empties_32 (by decide) (fun c_62 => absurd c_62 (by decide)) (fun c_62 => ?_)
  refine lv_iconst (v := 0) hx hb dX12_empties_35 (by decide) ?_
  refine lv_istore_n (lv' := [(2, .int 0), (1, .int 6), (0, .ref (b + 83))]) hx hb dX12_empties_36 rfl hl (by decide) rfl (fun ls hl => ?_)
  refine lv_iload_n hx hb dX12_empties_37 rfl (lv_at hl 0 rfl) ?_
  refine lv_aload_n hx hb dX12_empties_38 rfl (lv_at hl 2 rfl) ?_
  refine g_get S hG 83 0 h83 cpX12 wm_1674 dX12_empties_39 rfl (by omega) (by decide) ?_
  refine lv_iconst (v := 2) hx hb dX12_empties_42 (by decide) ?_
  refine g_iald S hG 84 h84 (by omega) dX12_empties_43 (by unfold vp_in; decide) ?_
  refine lv_topi (fun x_63 ex_63 => ?_)
  obtain rfl : x_63 = 0 := ex_63.trans (by decide)
  refine lv_icmp_ge (tgt := 64) hx hb dX12_empties_44 (by decide) (fun c_64 => ?_) (fun c_64 => absurd c_64 (by decide))
  refine lv_iconst (v := 0) hx hb dX12_empties_64 (by decide) ?_
  refine lv_istore_n (lv' := [(2, .int 0), (1, .int 6), (0, .ref (b + 83))]) hx hb dX12_empties_65 rfl hl (by decide) rfl (fun ls hl => ?_)
  refine lv_iload_n hx hb dX12_empties_66 rfl (lv_at hl 0 rfl) ?_
  refine lv_aload_n hx hb dX12_empties_67 rfl (lv_at hl 2 rfl) ?_
  refine g_get S hG 83 0 h83 cpX12 wm_1674 dX12_empties_68 rfl (by omega) (by decide) ?_
  refine lv_iconst (v := 0) hx hb dX12_empties_71 (by decide) ?_
  refine g_iald S hG 84 h84 (by omega) dX12_empties_72 (by unfold vp_in; decide) ?_
  refine lv_topi (fun x_65 ex_65 => ?_)
  obtain rfl : x_65 = 0 := ex_65.trans (by decide)
  refine lv_icmp_ge (tgt := 96) hx hb dX12_empties_73 (by decide) (fun c_66 => ?_) (fun c_66 => absurd c_66 (by decide))
  refine lv_iinc (v := 7) (lv' := [(1, .int 7), (2, .int 0), (0, .ref (b + 83))]) hx hb dX12_empties_96 hl (k := 1) rfl (by decide) (by decide) rfl (fun ls hl => ?_)
  refine lv_goto (tgt := 26) hx hb dX12_empties_99 (by decide) ?_
  refine lv_iload_n hx hb dX12_empties_26 rfl (lv_at hl 0 rfl) ?_
  refine lv_aload_n hx hb dX12_empties_27 rfl (lv_at hl 2 rfl) ?_
  refine g_get S hG 83 13 h83 cpX12 wm_1687 dX12_empties_28 rfl (by omega) (by decide) ?_
  refine g_alen S hG 89 3 rfl rfl (by omega) dX12_empties_31 (v := 30) (by decide) ?_
  refine lv_icmp_gt (tgt := 102) hx hb dX12_empties_32 (by decide) (fun c_67 => absurd c_67 (by decide)) (fun c_67 => ?_)
  refine lv_iconst (v := 0) hx hb dX12_empties_35 (by decide) ?_
  refine lv_istore_n (lv' := [(2, .int 0), (1, .int 7), (0, .ref (b + 83))]) hx hb dX12_empties_36 rfl hl (by decide) rfl (fun ls hl => ?_)
  refine lv_iload_n hx hb dX12_empties_37 rfl (lv_at hl 0 rfl) ?_
  refine lv_aload_n hx hb dX12_empties_38 rfl (lv_at hl 2 rfl) ?_
  refine g_get S hG 83 0 h83 cpX12 wm_1674 dX12_empties_39 rfl (by omega) (by decide) ?_
  refine lv_iconst (v := 2) hx hb dX12_empties_42 (by decide) ?_
  refine g_iald S hG 84 h84 (by omega) dX12_empties_43 (by unfold vp_in; decide) ?_
  refine lv_topi (fun x_68 ex_68 => ?_)
  obtain rfl : x_68 = 0 := ex_68.trans (by decide)
  refine lv_icmp_ge (tgt := 64) hx hb dX12_empties_44 (by decide) (fun c_69 => ?_) (fun c_69 => absurd c_69 (by decide))
  refine lv_iconst (v := 0) hx hb dX12_empties_64 (by decide) ?_
  refine lv_istore_n (lv' := [(2, .int 0), (1, .int 7), (0, .ref (b + 83))]) hx hb dX12_empties_65 rfl hl (by decide) rfl (fun ls hl => ?_)
  refine lv_iload_n hx hb dX12_empties_66 rfl (lv_at hl 0 rfl) ?_
  refine lv_aload_n hx hb dX12_empties_67 rfl (lv_at hl 2 rfl) ?_
  refine g_get S hG 83 0 h83 cpX12 wm_1674 dX12_empties_68 rfl (by omega) (by decide) ?_
  refine lv_iconst (v := 0) hx hb dX12_empties_71 (by decide) ?_
  refine g_iald S hG 84 h84 (by omega) dX12_empties_72 (by unfold vp_in; decide) ?_
  refine lv_topi (fun x_70 ex_70 => ?_)
  obtain rfl : x_70 = 0 := ex_70.trans (by decide)
  refine lv_icmp_ge (tgt := 96) hx hb dX12_empties_73 (by decide) (fun c_71 => ?_) (fun c_71 => absurd c_71 (by decide))
  refine lv_iinc (v := 8) (lv' := [(1, .int 8), (2, .int 0), (0, .ref (b + 83))]) hx hb dX12_empties_96 hl (k := 1) rfl (by decide) (by decide) rfl (fun ls hl => ?_)
  refine lv_goto (tgt := 26) hx hb dX12_empties_99 (by decide) ?_
  refine lv_iload_n hx hb dX12_empties_26 rfl (lv_at hl 0 rfl) ?_
  refine lv_aload_n hx hb dX12_empties_27 rfl (lv_at hl 2 rfl) ?_
  refine g_get S hG 83 13 h83 cpX12 wm_1687 dX12_empties_28 rfl (by omega) (by decide) ?_
  refine g_alen S hG 89 3 rfl rfl (by omega) dX12_empties_31 (v := 30) (by decide) ?_
  refine lv_icmp_gt (tgt := 102) hx hb dX12_empties_32 (by decide) (fun c_72 => absurd c_72 (by decide)) (fun c_72 => ?_)
  refine lv_iconst (v := 0) hx hb dX12_empties_35 (by decide) ?_
  refine lv_istore_n (lv' := [(2, .int 0), (1, .int 8), (0, .ref (b + 83))]) hx hb dX12_empties_36 rfl hl (by decide) rfl (fun ls hl => ?_)
  refine lv_iload_n hx hb dX12_empties_37 rfl (lv_at hl 0 rfl) ?_
  refine lv_aload_n hx hb dX12_empties_38 rfl (lv_at hl 2 rfl) ?_
  refine g_get S hG 83 0 h83 cpX12 wm_1674 dX12_empties_39 rfl (by omega) (by decide) ?_
  refine lv_iconst (v := 2) hx hb dX12_empties_42 (by decide) ?_
  refine g_iald S hG 84 h84 (by omega) dX12_empties_43 (by unfold vp_in; decide) ?_
  refine lv_topi (fun x_73 ex_73 => ?_)
  obtain rfl : x_73 = 0 := ex_73.trans (by decide)
  refine lv_icmp_ge (tgt := 64) hx hb dX12_empties_44 (by decide) (fun c_74 => ?_) (fun c_74 => absurd c_74 (by decide))
  refine lv_iconst (v := 0) hx hb dX12_empties_64 (by decide) ?_
  refine lv_istore_n (lv' := [(2, .int 0), (1, .int 8), (0, .ref (b + 83))]) hx hb dX12_empties_65 rfl hl (by decide) rfl (fun ls hl => ?_)
  refine lv_iload_n hx hb dX12_empties_66 rfl (lv_at hl 0 rfl) ?_
  refine lv_aload_n hx hb dX12_empties_67 rfl (lv_at hl 2 rfl) ?_
  refine g_get S hG 83 0 h83 cpX12 wm_1674 dX12_empties_68 rfl (by omega) (by decide) ?_
  refine lv_iconst (v := 0) hx hb dX12_empties_71 (by decide) ?_
  refine g_iald S hG 84 h84 (by omega) dX12_empties_72 (by unfold vp_in; decide) ?_
  refine lv_topi (fun x_75 ex_75 => ?_)
  obtain rfl : x_75 = 0 := ex_75.trans (by decide)
  refine lv_icmp_ge (tgt := 96) hx hb dX12_empties_73 (by decide) (fun c_76 => ?_) (fun c_76 => absurd c_76 (by decide))
  refine lv_iinc (v := 9) (lv' := [(1, .int 9), (2, .int 0), (0, .ref (b + 83))]) hx hb dX12_empties_96 hl (k := 1) rfl (by decide) (by decide) rfl (fun ls hl => ?_)
  refine lv_goto (tgt := 26) hx hb dX12_empties_99 (by decide) ?_
  refine lv_iload_n hx hb dX12_empties_26 rfl (lv_at hl 0 rfl) ?_
  refine lv_aload_n hx hb dX12_empties_27 rfl (lv_at hl 2 rfl) ?_
  refine g_get S hG 83 13 h83 cpX12 wm_1687 dX12_empties_28 rfl (by omega) (by decide) ?_
  refine g_alen S hG 89 3 rfl rfl (by omega) dX12_empties_31 (v := 30) (by decide) ?_
  refine lv_icmp_gt (tgt := 102) hx hb dX12_empties_32 (by decide) (fun c_77 => absurd c_77 (by decide)) (fun c_77 => ?_)
  refine lv_iconst (v := 0) hx hb dX12_empties_35 (by decide) ?_
  refine lv_istore_n (lv' := [(2, .int 0), (1, .int 9), (0, .ref (b + 83))]) hx hb dX12_empties_36 rfl hl (by decide) rfl (fun ls hl => ?_)
  refine lv_iload_n hx hb dX12_empties_37 rfl (lv_at hl 0 rfl) ?_
  refine lv_aload_n hx hb dX12_empties_38 rfl (lv_at hl 2 rfl) ?_
  refine g_get S hG 83 0 h83 cpX12 wm_1674 dX12_empties_39 rfl (by omega) (by decide) ?_
  refine lv_iconst (v := 2) hx hb dX12_empties_42 (by decide) ?_
  refine g_iald S hG 84 h84 (by omega) dX12_empties_43 (by unfold vp_in; decide) ?_
  refine lv_topi (fun x_78 ex_78 => ?_)
  obtain rfl : x_78 = 0 := ex_78.trans (by decide)
  refine lv_icmp_ge (tgt := 64) hx hb dX12_empties_44 (by decide) (fun c_79 => ?_) (fun c_79 => absurd c_79 (by decide))
  refine lv_iconst (v := 0) hx hb dX12_empties_64 (by decide) ?_
  refine lv_istore_n (lv' := [(2, .int 0), (1, .int 9), (0, .ref (b + 83))]) hx hb dX12_empties_65 rfl hl (by decide) rfl (fun ls hl => ?_)
  refine lv_iload_n hx hb dX12_empties_66 rfl (lv_at hl 0 rfl) ?_
  refine lv_aload_n hx hb dX12_empties_67 rfl (lv_at hl 2 rfl) ?_
  refine g_get S hG 83 0 h83 cpX12 wm_1674 dX12_empties_68 rfl (by omega) (by decide) ?_
  refine lv_iconst (v := 0) hx hb dX12_empties_71 (by decide) ?_
  refine g_iald S hG 84 h84 (by omega) dX12_empties_72 (by unfold vp_in; decide) ?_
  refine lv_topi (fun x_80 ex_80 => ?_)
  obtain rfl : x_80 = 0 := ex_80.trans (by decide)
  refine lv_icmp_ge (tgt := 96) hx hb dX12_empties_73 (by decide) (fun c_81 => ?_) (fun c_81 => absurd c_81 (by decide))
  refine lv_iinc (v := 10) (lv' := [(1, .int 10), (2, .int 0), (0, .ref (b + 83))]) hx hb dX12_empties_96 hl (k := 1) rfl (by decide) (by decide) rfl (fun ls hl => ?_)
  refine lv_goto (tgt := 26) hx hb dX12_empties_99 (by decide) ?_
  refine lv_iload_n hx hb dX12_empties_26 rfl (lv_at hl 0 rfl) ?_
  refine lv_aload_n hx hb dX12_empties_27 rfl (lv_at hl 2 rfl) ?_
  refine g_get S hG 83 13 h83 cpX12 wm_1687 dX12_empties_28 rfl (by omega) (by decide) ?_
  refine g_alen S hG 89 3 rfl rfl (by omega) dX12_empties_31 (v := 30) (by decide) ?_
  refine lv_icmp_gt (tgt := 102) hx hb dX12_empties_32 (by decide) (fun c_82 => absurd c_82 (by decide)) (fun c_82 => ?_)
  refine lv_iconst (v := 0) hx hb dX12_empties_35 (by decide) ?_
  refine lv_istore_n (lv' := [(2, .int 0), (1, .int 10), (0, .ref (b + 83))]) hx hb dX12_empties_36 rfl hl (by decide) rfl (fun ls hl => ?_)
  refine lv_iload_n hx hb dX12_empties_37 rfl (lv_at hl 0 rfl) ?_
  refine lv_aload_n hx hb dX12_empties_38 rfl (lv_at hl 2 rfl) ?_
  refine g_get S hG 83 0 h83 cpX12 wm_1674 dX12_empties_39 rfl (by omega) (by decide) ?_
  refine lv_iconst (v := 2) hx hb dX12_empties_42 (by decide) ?_
  refine g_iald S hG 84 h84 (by omega) dX12_empties_43 (by unfold vp_in; decide) ?_
  refine lv_topi (fun x_83 ex_83 => ?_)
  obtain rfl : x_83 = 0 := ex_83.trans (by decide)
  refine lv_icmp_ge (tgt := 64) hx hb dX12_empties_44 (by decide) (fun c_84 => ?_) (fun c_84 => absurd c_84 (by decide))
  refine lv_iconst (v := 0) hx hb dX12_empties_64 (by decide) ?_
  refine lv_istore_n (lv' := [(2, .int 0), (1, .int 10), (0, .ref (b + 83))]) hx hb dX12_empties_65 rfl hl (by decide) rfl (fun ls hl => ?_)
  refine lv_iload_n hx hb dX12_empties_66 rfl (lv_at hl 0 rfl) ?_
  refine lv_aload_n hx hb dX12_empties_67 rfl (lv_at hl 2 rfl) ?_
  refine g_get S hG 83 0 h83 cpX12 wm_1674 dX12_empties_68 rfl (by omega) (by decide) ?_
  refine lv_iconst (v := 0) hx hb dX12_empties_71 (by decide) ?_
  refine g_iald S hG 84 h84 (by omega) dX12_empties_72 (by unfold vp_in; decide) ?_
  refine lv_topi (fun x_85 ex_85 => ?_)
  obtain rfl : x_85 = 0 := ex_85.trans (by decide)
  refine lv_icmp_ge (tgt := 96) hx hb dX12_empties_73 (by decide) (fun c_86 => ?_) (fun c_86 => absurd c_86 (by decide))
  refine lv_iinc (v := 11) (lv' := [(1, .int 11), (2, .int 0), (0, .ref (b + 83))]) hx hb dX12_empties_96 hl (k := 1) rfl (by decide) (by decide) rfl (fun ls hl => ?_)
  refine lv_goto (tgt := 26) hx hb dX12_empties_99 (by decide) ?_
  refine lv_iload_n hx hb dX12_empties_26 rfl (lv_at hl 0 rfl) ?_
  refine lv_aload_n hx hb dX12_empties_27 rfl (lv_at hl 2 rfl) ?_
  refine g_get S hG 83 13 h83 cpX12 wm_1687 dX12_empties_28 rfl (by omega) (by decide) ?_
  refine g_alen S hG 89 3 rfl rfl (by omega) dX12_empties_31 (v := 30) (by decide) ?_
  refine lv_icmp_gt (tgt := 102) hx hb dX12_empties_32 (by decide) (fun c_87 => absurd c_87 (by decide)) (fun c_87 => ?_)
  refine lv_iconst (v := 0) hx hb dX12_empties_35 (by decide) ?_
  refine lv_istore_n (lv' := [(2, .int 0), (1, .int 11), (0, .ref (b + 83))]) hx hb dX12_empties_36 rfl hl (by decide) rfl (fun ls hl => ?_)
  refine lv_iload_n hx hb dX12_empties_37 rfl (lv_at hl 0 rfl) ?_
  refine lv_aload_n hx hb dX12_empties_38 rfl (lv_at hl 2 rfl) ?_
  refine g_get S hG 83 0 h83 cpX12 wm_1674 dX12_empties_39 rfl (by omega) (by decide) ?_
  refine lv_iconst (v := 2) hx hb dX12_empties_42 (by decide) ?_
  refine g_iald S hG 84 h84 (by omega) dX12_empties_43 (by unfold vp_in; decide) ?_
  refine lv_topi (fun x_88 ex_88 => ?_)
  obtain rfl : x_88 = 0 := ex_88.trans (by decide)
  refine lv_icmp_ge (tgt := 64) hx hb dX12_empties_44 (by decide) (fun c_89 => ?_) (fun c_89 => absurd c_89 (by decide))
  refine lv_iconst (v := 0) hx hb dX12_empties_64 (by decide) ?_
  refine lv_istore_n (lv' := [(2, .int 0), (1, .int 11), (0, .ref (b + 83))]) hx hb dX12_empties_65 rfl hl (by decide) rfl (fun ls hl => ?_)
  refine lv_iload_n hx hb dX12_empties_66 rfl (lv_at hl 0 rfl) ?_
  refine lv_aload_n hx hb dX12_empties_67 rfl (lv_at hl 2 rfl) ?_
  refine g_get S hG 83 0 h83 cpX12 wm_1674 dX12_empties_68 rfl (by omega) (by decide) ?_
  refine lv_iconst (v := 0) hx hb dX12_empties_71 (by decide) ?_
  refine g_iald S hG 84 h84 (by omega) dX12_empties_72 (by unfold vp_in; decide) ?_
  refine lv_topi (fun x_90 ex_90 => ?_)
  obtain rfl : x_90 = 0 := ex_90.trans (by decide)
  refine lv_icmp_ge (tgt := 96) hx hb dX12_empties_73 (by decide) (fun c_91 => ?_) (fun c_91 => absurd c_91 (by decide))
  refine lv_iinc (v := 12) (lv' := [(1, .int 12), (2, .int 0), (0, .ref (b + 83))]) hx hb dX12_empties_96 hl (k := 1) rfl (by decide) (by decide) rfl (fun ls hl => ?_)
  refine lv_goto (tgt := 26) hx hb dX12_empties_99 (by decide) ?_
  refine lv_iload_n hx hb dX12_empties_26 rfl (lv_at hl 0 rfl) ?_
  refine lv_aload_n hx hb dX12_empties_27 rfl (lv_at hl 2 rfl) ?_
  refine g_get S hG 83 13 h83 cpX12 wm_1687 dX12_empties_28 rfl (by omega) (by decide) ?_
  refine g_alen S hG 89 3 rfl rfl (by omega) dX12_empties_31 (v := 30) (by decide) ?_
  refine lv_icmp_gt (tgt := 102) hx hb dX12_empties_32 (by decide) (fun c_92 => absurd c_92 (by decide)) (fun c_92 => ?_)
  refine lv_iconst (v := 0) hx hb dX12_empties_35 (by decide) ?_
  refine lv_istore_n (lv' := [(2, .int 0), (1, .int 12), (0, .ref (b + 83))]) hx hb dX12_empties_36 rfl hl (by decide) rfl (fun ls hl => ?_)
  refine lv_iload_n hx hb dX12_empties_37 rfl (lv_at hl 0 rfl) ?_
  refine lv_aload_n hx hb dX12_empties_38 rfl (lv_at hl 2 rfl) ?_
  refine g_get S hG 83 0 h83 cpX12 wm_1674 dX12_empties_39 rfl (by omega) (by decide) ?_
  refine lv_iconst (v := 2) hx hb dX12_empties_42 (by decide) ?_
  refine g_iald S hG 84 h84 (by omega) dX12_empties_43 (by unfold vp_in; decide) ?_
  refine lv_topi (fun x_93 ex_93 => ?_)
  obtain rfl : x_93 = 0 := ex_93.trans (by decide)
  refine lv_icmp_ge (tgt := 64) hx hb dX12_empties_44 (by decide) (fun c_94 => ?_) (fun c_94 => absurd c_94 (by decide))
  refine lv_iconst (v := 0) hx hb dX12_empties_64 (by decide) ?_
  refine lv_istore_n (lv' := [(2, .int 0), (1, .int 12), (0, .ref (b + 83))]) hx hb dX12_empties_65 rfl hl (by decide) rfl (fun ls hl => ?_)
  refine lv_iload_n hx hb dX12_empties_66 rfl (lv_at hl 0 rfl) ?_
  refine lv_aload_n hx hb dX12_empties_67 rfl (lv_at hl 2 rfl) ?_
  refine g_get S hG 83 0 h83 cpX12 wm_1674 dX12_empties_68 rfl (by omega) (by decide) ?_
  refine lv_iconst (v := 0) hx hb dX12_empties_71 (by decide) ?_
  refine g_iald S hG 84 h84 (by omega) dX12_empties_72 (by unfold vp_in; decide) ?_
  refine lv_topi (fun x_95 ex_95 => ?_)
  obtain rfl : x_95 = 0 := ex_95.trans (by decide)
  refine lv_icmp_ge (tgt := 96) hx hb dX12_empties_73 (by decide) (fun c_96 => ?_) (fun c_96 => absurd c_96 (by decide))
  refine lv_iinc (v := 13) (lv' := [(1, .int 13), (2, .int 0), (0, .ref (b + 83))]) hx hb dX12_empties_96 hl (k := 1) rfl (by decide) (by decide) rfl (fun ls hl => ?_)
  refine lv_goto (tgt := 26) hx hb dX12_empties_99 (by decide) ?_
  refine lv_iload_n hx hb dX12_empties_26 rfl (lv_at hl 0 rfl) ?_
  refine lv_aload_n hx hb dX12_empties_27 rfl (lv_at hl 2 rfl) ?_
  refine g_get S hG 83 13 h83 cpX12 wm_1687 dX12_empties_28 rfl (by omega) (by decide) ?_
  refine g_alen S hG 89 3 rfl rfl (by omega) dX12_empties_31 (v := 30) (by decide) ?_
  refine lv_icmp_gt (tgt := 102) hx hb dX12_empties_32 (by decide) (fun c_97 => absurd c_97 (by decide)) (fun c_97 => ?_)
  refine lv_iconst (v := 0) hx hb dX12_empties_35 (by decide) ?_
  refine lv_istore_n (lv' := [(2, .int 0), (1, .int 13), (0, .ref (b + 83))]) hx hb dX12_empties_36 rfl hl (by decide) rfl (fun ls hl => ?_)
  refine lv_iload_n hx hb dX12_empties_37 rfl (lv_at hl 0 rfl) ?_
  refine lv_aload_n hx hb dX12_empties_38 rfl (lv_at hl 2 rfl) ?_
  refine g_get S hG 83 0 h83 cpX12 wm_1674 dX12_empties_39 rfl (by omega) (by decide) ?_
  refine lv_iconst (v := 2) hx hb dX12_empties_42 (by decide) ?_
  refine g_iald S hG 84 h84 (by omega) dX12_empties_43 (by unfold vp_in; decide) ?_
  refine lv_topi (fun x_98 ex_98 => ?_)
  obtain rfl : x_98 = 0 := ex_98.trans (by decide)
  refine lv_icmp_ge (tgt := 64) hx hb dX12_empties_44 (by decide) (fun c_99 => ?_) (fun c_99 => absurd c_99 (by decide))
  refine lv_iconst (v := 0) hx hb dX12_empties_64 (by decide) ?_
  refine lv_istore_n (lv' := [(2, .int 0), (1, .int 13), (0, .ref (b + 83))]) hx hb dX12_empties_65 rfl hl (by decide) rfl (fun ls hl => ?_)
  refine lv_iload_n hx hb dX12_empties_66 rfl (lv_at hl 0 rfl) ?_
  refine lv_aload_n hx hb dX12_empties_67 rfl (lv_at hl 2 rfl) ?_
  refine g_get S hG 83 0 h83 cpX12 wm_1674 dX12_empties_68 rfl (by omega) (by decide) ?_
  refine lv_iconst (v := 0) hx hb dX12_empties_71 (by decide) ?_
  refine g_iald S hG 84 h84 (by omega) dX12_empties_72 (by unfold vp_in; decide) ?_
  refine lv_topi (fun x_100 ex_100 => ?_)
  obtain rfl : x_100 = 0 := ex_100.trans (by decide)
  refine lv_icmp_ge (tgt := 96) hx hb dX12_empties_73 (by decide) (fun c_101 => ?_) (fun c_101 => absurd c_101 (by decide))
  refine lv_iinc (v := 14) (lv' := [(1, .int 14), (2, .int 0), (0, .ref (b + 83))]) hx hb dX12_empties_96 hl (k := 1) rfl (by decide) (by decide) rfl (fun ls hl => ?_)
  refine lv_goto (tgt := 26) hx hb dX12_empties_99 (by decide) ?_
  refine lv_iload_n hx hb dX12_empties_26 rfl (lv_at hl 0 rfl) ?_
  refine lv_aload_n hx hb dX12_empties_27 rfl (lv_at hl 2 rfl) ?_
  refine g_get S hG 83 13 h83 cpX12 wm_1687 dX12_empties_28 rfl (by omega) (by decide) ?_
  refine g_alen S hG 89 3 rfl rfl (by omega) dX12_empties_31 (v := 30) (by decide) ?_
  refine lv_icmp_gt (tgt := 102) hx hb dX12_empties_32 (by decide) (fun c_102 => absurd c_102 (by decide)) (fun c_102 => ?_)
  refine lv_iconst (v := 0) hx hb dX12_empties_35 (by decide) ?_
  refine lv_istore_n (lv' := [(2, .int 0), (1, .int 14), (0, .ref (b + 83))]) hx hb dX12_empties_36 rfl hl (by decide) rfl (fun ls hl => ?_)
  refine lv_iload_n hx hb dX12_empties_37 rfl (lv_at hl 0 rfl) ?_
  refine lv_aload_n hx hb dX12_empties_38 rfl (lv_at hl 2 rfl) ?_
  refine g_get S hG 83 0 h83 cpX12 wm_1674 dX12_empties_39 rfl (by omega) (by decide) ?_
  refine lv_iconst (v := 2) hx hb dX12_empties_42 (by decide) ?_
  refine g_iald S hG 84 h84 (by omega) dX12_empties_43 (by unfold vp_in; decide) ?_
  refine lv_topi (fun x_103 ex_103 => ?_)
  obtain rfl : x_103 = 0 := ex_103.trans (by decide)
  refine lv_icmp_ge (tgt := 64) hx hb dX12_empties_44 (by decide) (fun c_104 => ?_) (fun c_104 => absurd c_104 (by decide))
  refine lv_iconst (v := 0) hx hb dX12_empties_64 (by decide) ?_
  refine lv_istore_n (lv' := [(2, .int 0), (1, .int 14), (0, .ref (b + 83))]) hx hb dX12_empties_65 rfl hl (by decide) rfl (fun ls hl => ?_)
  refine lv_iload_n hx hb dX12_empties_66 rfl (lv_at hl 0 rfl) ?_
  refine lv_aload_n hx hb dX12_empties_67 rfl (lv_at hl 2 rfl) ?_
  refine g_get S hG 83 0 h83 cpX12 wm_1674 dX12_empties_68 rfl (by omega) (by decide) ?_
  refine lv_iconst (v := 0) hx hb dX12_empties_71 (by decide) ?_
  refine g_iald S hG 84 h84 (by omega) dX12_empties_72 (by unfold vp_in; decide) ?_
  refine lv_topi (fun x_105 ex_105 => ?_)
  obtain rfl : x_105 = 0 := ex_105.trans (by decide)
  refine lv_icmp_ge (tgt := 96) hx hb dX12_empties_73 (by decide) (fun c_106 => ?_) (fun c_106 => absurd c_106 (by decide))
  refine lv_iinc (v := 15) (lv' := [(1, .int 15), (2, .int 0), (0, .ref (b + 83))]) hx hb dX12_empties_96 hl (k := 1) rfl (by decide) (by decide) rfl (fun ls hl => ?_)
  refine lv_goto (tgt := 26) hx hb dX12_empties_99 (by decide) ?_
  refine lv_iload_n hx hb dX12_empties_26 rfl (lv_at hl 0 rfl) ?_
  refine lv_aload_n hx hb dX12_empties_27 rfl (lv_at hl 2 rfl) ?_
  refine g_get S hG 83 13 h83 cpX12 wm_1687 dX12_empties_28 rfl (by omega) (by decide) ?_
  refine g_alen S hG 89 3 rfl rfl (by omega) dX12_empties_31 (v := 30) (by decide) ?_
  refine lv_icmp_gt (tgt := 102) hx hb dX12_empties_32 (by decide) (fun c_107 => absurd c_107 (by decide)) (fun c_107 => ?_)
  refine lv_iconst (v := 0) hx hb dX12_empties_35 (by decide) ?_
  refine lv_istore_n (lv' := [(2, .int 0), (1, .int 15), (0, .ref (b + 83))]) hx hb dX12_empties_36 rfl hl (by decide) rfl (fun ls hl => ?_)
  refine lv_iload_n hx hb dX12_empties_37 rfl (lv_at hl 0 rfl) ?_
  refine lv_aload_n hx hb dX12_empties_38 rfl (lv_at hl 2 rfl) ?_
  refine g_get S hG 83 0 h83 cpX12 wm_1674 dX12_empties_39 rfl (by omega) (by decide) ?_
  refine lv_iconst (v := 2) hx hb dX12_empties_42 (by decide) ?_
  refine g_iald S hG 84 h84 (by omega) dX12_empties_43 (by unfold vp_in; decide) ?_
  refine lv_topi (fun x_108 ex_108 => ?_)
  obtain rfl : x_108 = 0 := ex_108.trans (by decide)
  refine lv_icmp_ge (tgt := 64) hx hb dX12_empties_44 (by decide) (fun c_109 => ?_) (fun c_109 => absurd c_109 (by decide))
  refine lv_iconst (v := 0) hx hb dX12_empties_64 (by decide) ?_
  refine lv_istore_n (lv' := [(2, .int 0), (1, .int 15), (0, .ref (b + 83))]) hx hb dX12_empties_65 rfl hl (by decide) rfl (fun ls hl => ?_)
  refine lv_iload_n hx hb dX12_empties_66 rfl (lv_at hl 0 rfl) ?_
  refine lv_aload_n hx hb dX12_empties_67 rfl (lv_at hl 2 rfl) ?_
  refine g_get S hG 83 0 h83 cpX12 wm_1674 dX12_empties_68 rfl (by omega) (by decide) ?_
  refine lv_iconst (v := 0) hx hb dX12_empties_71 (by decide) ?_
  refine g_iald S hG 84 h84 (by omega) dX12_empties_72 (by unfold vp_in; decide) ?_
  refine lv_topi (fun x_110 ex_110 => ?_)
  obtain rfl : x_110 = 0 := ex_110.trans (by decide)
  refine lv_icmp_ge (tgt := 96) hx hb dX12_empties_73 (by decide) (fun c_111 => ?_) (fun c_111 => absurd c_111 (by decide))
  refine lv_iinc (v := 16) (lv' := [(1, .int 16), (2, .int 0), (0, .ref (b + 83))]) hx hb dX12_empties_96 hl (k := 1) rfl (by decide) (by decide) rfl (fun ls hl => ?_)
  refine lv_goto (tgt := 26) hx hb dX12_empties_99 (by decide) ?_
  refine lv_iload_n hx hb dX12_empties_26 rfl (lv_at hl 0 rfl) ?_
  refine lv_aload_n hx hb dX12_empties_27 rfl (lv_at hl 2 rfl) ?_
  refine g_get S hG 83 13 h83 cpX12 wm_1687 dX12_empties_28 rfl (by omega) (by decide) ?_
  refine g_alen S hG 89 3 rfl rfl (by omega) dX12_empties_31 (v := 30) (by decide) ?_
  refine lv_icmp_gt (tgt := 102) hx hb dX12_empties_32 (by decide) (fun c_112 => absurd c_112 (by decide)) (fun c_112 => ?_)
  refine lv_iconst (v := 0) hx hb dX12_empties_35 (by decide) ?_
  refine lv_istore_n (lv' := [(2, .int 0), (1, .int 16), (0, .ref (b + 83))]) hx hb dX12_empties_36 rfl hl (by decide) rfl (fun ls hl => ?_)
  refine lv_iload_n hx hb dX12_empties_37 rfl (lv_at hl 0 rfl) ?_
  refine lv_aload_n hx hb dX12_empties_38 rfl (lv_at hl 2 rfl) ?_
  refine g_get S hG 83 0 h83 cpX12 wm_1674 dX12_empties_39 rfl (by omega) (by decide) ?_
  refine lv_iconst (v := 2) hx hb dX12_empties_42 (by decide) ?_
  refine g_iald S hG 84 h84 (by omega) dX12_empties_43 (by unfold vp_in; decide) ?_
  refine lv_topi (fun x_113 ex_113 => ?_)
  obtain rfl : x_113 = 0 := ex_113.trans (by decide)
  refine lv_icmp_ge (tgt := 64) hx hb dX12_empties_44 (by decide) (fun c_114 => ?_) (fun c_114 => absurd c_114 (by decide))
  refine lv_iconst (v := 0) hx hb dX12_empties_64 (by decide) ?_
  refine lv_istore_n (lv' := [(2, .int 0), (1, .int 16), (0, .ref (b + 83))]) hx hb dX12_empties_65 rfl hl (by decide) rfl (fun ls hl => ?_)
  refine lv_iload_n hx hb dX12_empties_66 rfl (lv_at hl 0 rfl) ?_
  refine lv_aload_n hx hb dX12_empties_67 rfl (lv_at hl 2 rfl) ?_
  refine g_get S hG 83 0 h83 cpX12 wm_1674 dX12_empties_68 rfl (by omega) (by decide) ?_
  refine lv_iconst (v := 0) hx hb dX12_empties_71 (by decide) ?_
  refine g_iald S hG 84 h84 (by omega) dX12_empties_72 (by unfold vp_in; decide) ?_
  refine lv_topi (fun x_115 ex_115 => ?_)
  obtain rfl : x_115 = 0 := ex_115.trans (by decide)
  refine lv_icmp_ge (tgt := 96) hx hb dX12_empties_73 (by decide) (fun c_116 => ?_) (fun c_116 => absurd c_116 (by decide))
  refine lv_iinc (v := 17) (lv' := [(1, .int 17), (2, .int 0), (0, .ref (b + 83))]) hx hb dX12_empties_96 hl (k := 1) rfl (by decide) (by decide) rfl (fun ls hl => ?_)
  refine lv_goto (tgt := 26) hx hb dX12_empties_99 (by decide) ?_
  refine lv_iload_n hx hb dX12_empties_26 rfl (lv_at hl 0 rfl) ?_
  refine lv_aload_n hx hb dX12_empties_27 rfl (lv_at hl 2 rfl) ?_
  refine g_get S hG 83 13 h83 cpX12 wm_1687 dX12_empties_28 rfl (by omega) (by decide) ?_
  refine g_alen S hG 89 3 rfl rfl (by omega) dX12_empties_31 (v := 30) (by decide) ?_
  refine lv_icmp_gt (tgt := 102) hx hb dX12_empties_32 (by decide) (fun c_117 => absurd c_117 (by decide)) (fun c_117 => ?_)
  refine lv_iconst (v := 0) hx hb dX12_empties_35 (by decide) ?_
  refine lv_istore_n (lv' := [(2, .int 0), (1, .int 17), (0, .ref (b + 83))]) hx hb dX12_empties_36 rfl hl (by decide) rfl (fun ls hl => ?_)
  refine lv_iload_n hx hb dX12_empties_37 rfl (lv_at hl 0 rfl) ?_
  refine lv_aload_n hx hb dX12_empties_38 rfl (lv_at hl 2 rfl) ?_
  refine g_get S hG 83 0 h83 cpX12 wm_1674 dX12_empties_39 rfl (by omega) (by decide) ?_
  refine lv_iconst (v := 2) hx hb dX12_empties_42 (by decide) ?_
  refine g_iald S hG 84 h84 (by omega) dX12_empties_43 (by unfold vp_in; decide) ?_
  refine lv_topi (fun x_118 ex_118 => ?_)
  obtain rfl : x_118 = 0 := ex_118.trans (by decide)
  refine lv_icmp_ge (tgt := 64) hx hb dX12_empties_44 (by decide) (fun c_119 => ?_) (fun c_119 => absurd c_119 (by decide))
  refine lv_iconst (v := 0) hx hb dX12_empties_64 (by decide) ?_
  refine lv_istore_n (lv' := [(2, .int 0), (1, .int 17), (0, .ref (b + 83))]) hx hb dX12_empties_65 rfl hl (by decide) rfl (fun ls hl => ?_)
  refine lv_iload_n hx hb dX12_empties_66 rfl (lv_at hl 0 rfl) ?_
  refine lv_aload_n hx hb dX12_empties_67 rfl (lv_at hl 2 rfl) ?_
  refine g_get S hG 83 0 h83 cpX12 wm_1674 dX12_empties_68 rfl (by omega) (by decide) ?_
  refine lv_iconst (v := 0) hx hb dX12_empties_71 (by decide) ?_
  refine g_iald S hG 84 h84 (by omega) dX12_empties_72 (by unfold vp_in; decide) ?_
  refine lv_topi (fun x_120 ex_120 => ?_)
  obtain rfl : x_120 = 0 := ex_120.trans (by decide)
  refine lv_icmp_ge (tgt := 96) hx hb dX12_empties_73 (by decide) (fun c_121 => ?_) (fun c_121 => absurd c_121 (by decide))
  refine lv_iinc (v := 18) (lv' := [(1, .int 18), (2, .int 0), (0, .ref (b + 83))]) hx hb dX12_empties_96 hl (k := 1) rfl (by decide) (by decide) rfl (fun ls hl => ?_)
  refine lv_goto (tgt := 26) hx hb dX12_empties_99 (by decide) ?_
  refine lv_iload_n hx hb dX12_empties_26 rfl (lv_at hl 0 rfl) ?_
  refine lv_aload_n hx hb dX12_empties_27 rfl (lv_at hl 2 rfl) ?_
  refine g_get S hG 83 13 h83 cpX12 wm_1687 dX12_empties_28 rfl (by omega) (by decide) ?_
  refine g_alen S hG 89 3 rfl rfl (by omega) dX12_empties_31 (v := 30) (by decide) ?_
  refine lv_icmp_gt (tgt := 102) hx hb dX12_empties_32 (by decide) (fun c_122 => absurd c_122 (by decide)) (fun c_122 => ?_)
  refine lv_iconst (v := 0) hx hb dX12_empties_35 (by decide) ?_
  refine lv_istore_n (lv' := [(2, .int 0), (1, .int 18), (0, .ref (b + 83))]) hx hb dX12_empties_36 rfl hl (by decide) rfl (fun ls hl => ?_)
  refine lv_iload_n hx hb dX12_empties_37 rfl (lv_at hl 0 rfl) ?_
  refine lv_aload_n hx hb dX12_empties_38 rfl (lv_at hl 2 rfl) ?_
  refine g_get S hG 83 0 h83 cpX12 wm_1674 dX12_empties_39 rfl (by omega) (by decide) ?_
  refine lv_iconst (v := 2) hx hb dX12_empties_42 (by decide) ?_
  refine g_iald S hG 84 h84 (by omega) dX12_empties_43 (by unfold vp_in; decide) ?_
  refine lv_topi (fun x_123 ex_123 => ?_)
  obtain rfl : x_123 = 0 := ex_123.trans (by decide)
  refine lv_icmp_ge (tgt := 64) hx hb dX12_empties_44 (by decide) (fun c_124 => ?_) (fun c_124 => absurd c_124 (by decide))
  refine lv_iconst (v := 0) hx hb dX12_empties_64 (by decide) ?_
  refine lv_istore_n (lv' := [(2, .int 0), (1, .int 18), (0, .ref (b + 83))]) hx hb dX12_empties_65 rfl hl (by decide) rfl (fun ls hl => ?_)
  refine lv_iload_n hx hb dX12_empties_66 rfl (lv_at hl 0 rfl) ?_
  refine lv_aload_n hx hb dX12_empties_67 rfl (lv_at hl 2 rfl) ?_
  refine g_get S hG 83 0 h83 cpX12 wm_1674 dX12_empties_68 rfl (by omega) (by decide) ?_
  refine lv_iconst (v := 0) hx hb dX12_empties_71 (by decide) ?_
  refine g_iald S hG 84 h84 (by omega) dX12_empties_72 (by unfold vp_in; decide) ?_
  refine lv_topi (fun x_125 ex_125 => ?_)
  obtain rfl : x_125 = 0 := ex_125.trans (by decide)
  refine lv_icmp_ge (tgt := 96) hx hb dX12_empties_73 (by decide) (fun c_126 => ?_) (fun c_126 => absurd c_126 (by decide))
  refine lv_iinc (v := 19) (lv' := [(1, .int 19), (2, .int 0), (0, .ref (b + 83))]) hx hb dX12_empties_96 hl (k := 1) rfl (by decide) (by decide) rfl (fun ls hl => ?_)
  refine lv_goto (tgt := 26) hx hb dX12_empties_99 (by decide) ?_
  refine lv_iload_n hx hb dX12_empties_26 rfl (lv_at hl 0 rfl) ?_
  refine lv_aload_n hx hb dX12_empties_27 rfl (lv_at hl 2 rfl) ?_
  refine g_get S hG 83 13 h83 cpX12 wm_1687 dX12_empties_28 rfl (by omega) (by decide) ?_
  refine g_alen S hG 89 3 rfl rfl (by omega) dX12_empties_31 (v := 30) (by decide) ?_
  refine lv_icmp_gt (tgt := 102) hx hb dX12_empties_32 (by decide) (fun c_127 => absurd c_127 (by decide)) (fun c_127 => ?_)
  refine lv_iconst (v := 0) hx hb dX12_empties_35 (by decide) ?_
  refine lv_istore_n (lv' := [(2, .int 0), (1, .int 19), (0, .ref (b + 83))]) hx hb dX12_empties_36 rfl hl (by decide) rfl (fun ls hl => ?_)
  refine lv_iload_n hx hb dX12_empties_37 rfl (lv_at hl 0 rfl) ?_
  refine lv_aload_n hx hb dX12_empties_38 rfl (lv_at hl 2 rfl) ?_
  refine g_get S hG 83 0 h83 cpX12 wm_1674 dX12_empties_39 rfl (by omega) (by decide) ?_
  refine lv_iconst (v := 2) hx hb dX12_empties_42 (by decide) ?_
  refine g_iald S hG 84 h84 (by omega) dX12_empties_43 (by unfold vp_in; decide) ?_
  refine lv_topi (fun x_128 ex_128 => ?_)
  obtain rfl : x_128 = 0 := ex_128.trans (by decide)
  refine lv_icmp_ge (tgt := 64) hx hb dX12_empties_44 (by decide) (fun c_129 => ?_) (fun c_129 => absurd c_129 (by decide))
  refine lv_iconst (v := 0) hx hb dX12_empties_64 (by decide) ?_
  refine lv_istore_n (lv' := [(2, .int 0), (1, .int 19), (0, .ref (b + 83))]) hx hb dX12_empties_65 rfl hl (by decide) rfl (fun ls hl => ?_)
  refine lv_iload_n hx hb dX12_empties_66 rfl (lv_at hl 0 rfl) ?_
  refine lv_aload_n hx hb dX12_empties_67 rfl (lv_at hl 2 rfl) ?_
  refine g_get S hG 83 0 h83 cpX12 wm_1674 dX12_empties_68 rfl (by omega) (by decide) ?_
  refine lv_iconst (v := 0) hx hb dX12_empties_71 (by decide) ?_
  refine g_iald S hG 84 h84 (by omega) dX12_empties_72 (by unfold vp_in; decide) ?_
  refine lv_topi (fun x_130 ex_130 => ?_)
  obtain rfl : x_130 = 0 := ex_130.trans (by decide)
  refine lv_icmp_ge (tgt := 96) hx hb dX12_empties_73 (by decide) (fun c_131 => ?_) (fun c_131 => absurd c_131 (by decide))
  refine lv_iinc (v := 20) (lv' := [(1, .int 20), (2, .int 0), (0, .ref (b + 83))]) hx hb dX12_empties_96 hl (k := 1) rfl (by decide) (by decide) rfl (fun ls hl => ?_)
  refine lv_goto (tgt := 26) hx hb dX12_empties_99 (by decide) ?_
  refine lv_iload_n hx hb dX12_empties_26 rfl (lv_at hl 0 rfl) ?_
  refine lv_aload_n hx hb dX12_empties_27 rfl (lv_at hl 2 rfl) ?_
  refine g_get S hG 83 13 h83 cpX12 wm_1687 dX12_empties_28 rfl (by omega) (by decide) ?_
  refine g_alen S hG 89 3 rfl rfl (by omega) dX12_empties_31 (v := 30) (by decide) ?_
  refine lv_icmp_gt (tgt := 102) hx hb dX12_empties_32 (by decide) (fun c_132 => absurd c_132 (by decide)) (fun c_132 => ?_)
  refine lv_iconst (v := 0) hx hb dX12_empties_35 (by decide) ?_
  refine lv_istore_n (lv' := [(2, .int 0), (1, .int 20), (0, .ref (b + 83))]) hx hb dX12_empties_36 rfl hl (by decide) rfl (fun ls hl => ?_)
  refine lv_iload_n hx hb dX12_empties_37 rfl (lv_at hl 0 rfl) ?_
  refine lv_aload_n hx hb dX12_empties_38 rfl (lv_at hl 2 rfl) ?_
  refine g_get S hG 83 0 h83 cpX12 wm_1674 dX12_empties_39 rfl (by omega) (by decide) ?_
  refine lv_iconst (v := 2) hx hb dX12_empties_42 (by decide) ?_
  refine g_iald S hG 84 h84 (by omega) dX12_empties_43 (by unfold vp_in; decide) ?_
  refine lv_topi (fun x_133 ex_133 => ?_)
  obtain rfl : x_133 = 0 := ex_133.trans (by decide)
  refine lv_icmp_ge (tgt := 64) hx hb dX12_empties_44 (by decide) (fun c_134 => ?_) (fun c_134 => absurd c_134 (by decide))
  refine lv_iconst (v := 0) hx hb dX12_empties_64 (by decide) ?_
  refine lv_istore_n (lv' := [(2, .int 0), (1, .int 20), (0, .ref (b + 83))]) hx hb dX12_empties_65 rfl hl (by decide) rfl (fun ls hl => ?_)
  refine lv_iload_n hx hb dX12_empties_66 rfl (lv_at hl 0 rfl) ?_
  refine lv_aload_n hx hb dX12_empties_67 rfl (lv_at hl 2 rfl) ?_
  refine g_get S hG 83 0 h83 cpX12 wm_1674 dX12_empties_68 rfl (by omega) (by decide) ?_
  refine lv_iconst (v := 0) hx hb dX12_empties_71 (by decide) ?_
  refine g_iald S hG 84 h84 (by omega) dX12_empties_72 (by unfold vp_in; decide) ?_
  refine lv_topi (fun x_135 ex_135 => ?_)
  obtain rfl : x_135 = 0 := ex_135.trans (by decide)
  refine lv_icmp_ge (tgt := 96) hx hb dX12_empties_73 (by decide) (fun c_136 => ?_) (fun c_136 => absurd c_136 (by decide))
  refine lv_iinc (v := 21) (lv' := [(1, .int 21), (2, .int 0), (0, .ref (b + 83))]) hx hb dX12_empties_96 hl (k := 1) rfl (by decide) (by decide) rfl (fun ls hl => ?_)
  refine lv_goto (tgt := 26) hx hb dX12_empties_99 (by decide) ?_
  refine lv_iload_n hx hb dX12_empties_26 rfl (lv_at hl 0 rfl) ?_
  refine lv_aload_n hx hb dX12_empties_27 rfl (lv_at hl 2 rfl) ?_
  refine g_get S hG 83 13 h83 cpX12 wm_1687 dX12_empties_28 rfl (by omega) (by decide) ?_
  refine g_alen S hG 89 3 rfl rfl (by omega) dX12_empties_31 (v := 30) (by decide) ?_
  refine lv_icmp_gt (tgt := 102) hx hb dX12_empties_32 (by decide) (fun c_137 => absurd c_137 (by decide)) (fun c_137 => ?_)
  refine lv_iconst (v := 0) hx hb dX12_empties_35 (by decide) ?_
  refine lv_istore_n (lv' := [(2, .int 0), (1, .int 21), (0, .ref (b + 83))]) hx hb dX12_empties_36 rfl hl (by decide) rfl (fun ls hl => ?_)
  refine lv_iload_n hx hb dX12_empties_37 rfl (lv_at hl 0 rfl) ?_
  refine lv_aload_n hx hb dX12_empties_38 rfl (lv_at hl 2 rfl) ?_
  refine g_get S hG 83 0 h83 cpX12 wm_1674 dX12_empties_39 rfl (by omega) (by decide) ?_
  refine lv_iconst (v := 2) hx hb dX12_empties_42 (by decide) ?_
  refine g_iald S hG 84 h84 (by omega) dX12_empties_43 (by unfold vp_in; decide) ?_
  refine lv_topi (fun x_138 ex_138 => ?_)
  obtain rfl : x_138 = 0 := ex_138.trans (by decide)
  refine lv_icmp_ge (tgt := 64) hx hb dX12_empties_44 (by decide) (fun c_139 => ?_) (fun c_139 => absurd c_139 (by decide))
  refine lv_iconst (v := 0) hx hb dX12_empties_64 (by decide) ?_
  refine lv_istore_n (lv' := [(2, .int 0), (1, .int 21), (0, .ref (b + 83))]) hx hb dX12_empties_65 rfl hl (by decide) rfl (fun ls hl => ?_)
  refine lv_iload_n hx hb dX12_empties_66 rfl (lv_at hl 0 rfl) ?_
  refine lv_aload_n hx hb dX12_empties_67 rfl (lv_at hl 2 rfl) ?_
  refine g_get S hG 83 0 h83 cpX12 wm_1674 dX12_empties_68 rfl (by omega) (by decide) ?_
  refine lv_iconst (v := 0) hx hb dX12_empties_71 (by decide) ?_
  refine g_iald S hG 84 h84 (by omega) dX12_empties_72 (by unfold vp_in; decide) ?_
  refine lv_topi (fun x_140 ex_140 => ?_)
  obtain rfl : x_140 = 0 := ex_140.trans (by decide)
  refine lv_icmp_ge (tgt := 96) hx hb dX12_empties_73 (by decide) (fun c_141 => ?_) (fun c_141 => absurd c_141 (by decide))
  refine lv_iinc (v := 22) (lv' := [(1, .int 22), (2, .int 0), (0, .ref (b + 83))]) hx hb dX12_empties_96 hl (k := 1) rfl (by decide) (by decide) rfl (fun ls hl => ?_)
  refine lv_goto (tgt := 26) hx hb dX12_empties_99 (by decide) ?_
  refine lv_iload_n hx hb dX12_empties_26 rfl (lv_at hl 0 rfl) ?_
  refine lv_aload_n hx hb dX12_empties_27 rfl (lv_at hl 2 rfl) ?_
  refine g_get S hG 83 13 h83 cpX12 wm_1687 dX12_empties_28 rfl (by omega) (by decide) ?_
  refine g_alen S hG 89 3 rfl rfl (by omega) dX12_empties_31 (v := 30) (by decide) ?_
  refine lv_icmp_gt (tgt := 102) hx hb dX12_empties_32 (by decide) (fun c_142 => absurd c_142 (by decide)) (fun c_142 => ?_)
  refine lv_iconst (v := 0) hx hb dX12_empties_35 (by decide) ?_
  refine lv_istore_n (lv' := [(2, .int 0), (1, .int 22), (0, .ref (b + 83))]) hx hb dX12_empties_36 rfl hl (by decide) rfl (fun ls hl => ?_)
  refine lv_iload_n hx hb dX12_empties_37 rfl (lv_at hl 0 rfl) ?_
  refine lv_aload_n hx hb dX12_empties_38 rfl (lv_at hl 2 rfl) ?_
  refine g_get S hG 83 0 h83 cpX12 wm_1674 dX12_empties_39 rfl (by omega) (by decide) ?_
  refine lv_iconst (v := 2) hx hb dX12_empties_42 (by decide) ?_
  refine g_iald S hG 84 h84 (by omega) dX12_empties_43 (by unfold vp_in; decide) ?_
  refine lv_topi (fun x_143 ex_143 => ?_)
  obtain rfl : x_143 = 0 := ex_143.trans (by decide)
  refine lv_icmp_ge (tgt := 64) hx hb dX12_empties_44 (by decide) (fun c_144 => ?_) (fun c_144 => absurd c_144 (by decide))
  refine lv_iconst (v := 0) hx hb dX12_empties_64 (by decide) ?_
  refine lv_istore_n (lv' := [(2, .int 0), (1, .int 22), (0, .ref (b + 83))]) hx hb dX12_empties_65 rfl hl (by decide) rfl (fun ls hl => ?_)
  refine lv_iload_n hx hb dX12_empties_66 rfl (lv_at hl 0 rfl) ?_
  refine lv_aload_n hx hb dX12_empties_67 rfl (lv_at hl 2 rfl) ?_
  refine g_get S hG 83 0 h83 cpX12 wm_1674 dX12_empties_68 rfl (by omega) (by decide) ?_
  refine lv_iconst (v := 0) hx hb dX12_empties_71 (by decide) ?_
  refine g_iald S hG 84 h84 (by omega) dX12_empties_72 (by unfold vp_in; decide) ?_
  refine lv_topi (fun x_145 ex_145 => ?_)
  obtain rfl : x_145 = 0 := ex_145.trans (by decide)
  refine lv_icmp_ge (tgt := 96) hx hb dX12_empties_73 (by decide) (fun c_146 => ?_) (fun c_146 => absurd c_146 (by decide))
  refine lv_iinc (v := 23) (lv' := [(1, .int 23), (2, .int 0), (0, .ref (b + 83))]) hx hb dX12_empties_96 hl (k := 1) rfl (by decide) (by decide) rfl (fun ls hl => ?_)
  refine lv_goto (tgt := 26) hx hb dX12_empties_99 (by decide) ?_
  refine lv_iload_n hx hb dX12_empties_26 rfl (lv_at hl 0 rfl) ?_
  refine lv_aload_n hx hb dX12_empties_27 rfl (lv_at hl 2 rfl) ?_
  refine g_get S hG 83 13 h83 cpX12 wm_1687 dX12_empties_28 rfl (by omega) (by decide) ?_
  refine g_alen S hG 89 3 rfl rfl (by omega) dX12_empties_31 (v := 30) (by decide) ?_
  refine lv_icmp_gt (tgt := 102) hx hb dX12_empties_32 (by decide) (fun c_147 => absurd c_147 (by decide)) (fun c_147 => ?_)
  refine lv_iconst (v := 0) hx hb dX12_empties_35 (by decide) ?_
  refine lv_istore_n (lv' := [(2, .int 0), (1, .int 23), (0, .ref (b + 83))]) hx hb dX12_empties_36 rfl hl (by decide) rfl (fun ls hl => ?_)
  refine lv_iload_n hx hb dX12_empties_37 rfl (lv_at hl 0 rfl) ?_
  refine lv_aload_n hx hb dX12_empties_38 rfl (lv_at hl 2 rfl) ?_
  refine g_get S hG 83 0 h83 cpX12 wm_1674 dX12_empties_39 rfl (by omega) (by decide) ?_
  refine lv_iconst (v := 2) hx hb dX12_empties_42 (by decide) ?_
  refine g_iald S hG 84 h84 (by omega) dX12_empties_43 (by unfold vp_in; decide) ?_
  refine lv_topi (fun x_148 ex_148 => ?_)
  obtain rfl : x_148 = 0 := ex_148.trans (by decide)
  refine lv_icmp_ge (tgt := 64) hx hb dX12_empties_44 (by decide) (fun c_149 => ?_) (fun c_149 => absurd c_149 (by decide))
  refine lv_iconst (v := 0) hx hb dX12_empties_64 (by decide) ?_
  refine lv_istore_n (lv' := [(2, .int 0), (1, .int 23), (0, .ref (b + 83))]) hx hb dX12_empties_65 rfl hl (by decide) rfl (fun ls hl => ?_)
  refine lv_iload_n hx hb dX12_empties_66 rfl (lv_at hl 0 rfl) ?_
  refine lv_aload_n hx hb dX12_empties_67 rfl (lv_at hl 2 rfl) ?_
  refine g_get S hG 83 0 h83 cpX12 wm_1674 dX12_empties_68 rfl (by omega) (by decide) ?_
  refine lv_iconst (v := 0) hx hb dX12_empties_71 (by decide) ?_
  refine g_iald S hG 84 h84 (by omega) dX12_empties_72 (by unfold vp_in; decide) ?_
  refine lv_topi (fun x_150 ex_150 => ?_)
  obtain rfl : x_150 = 0 := ex_150.trans (by decide)
  refine lv_icmp_ge (tgt := 96) hx hb dX12_empties_73 (by decide) (fun c_151 => ?_) (fun c_151 => absurd c_151 (by decide))
  refine lv_iinc (v := 24) (lv' := [(1, .int 24), (2, .int 0), (0, .ref (b + 83))]) hx hb dX12_empties_96 hl (k := 1) rfl (by decide) (by decide) rfl (fun ls hl => ?_)
  refine lv_goto (tgt := 26) hx hb dX12_empties_99 (by decide) ?_
  refine lv_iload_n hx hb dX12_empties_26 rfl (lv_at hl 0 rfl) ?_
  refine lv_aload_n hx hb dX12_empties_27 rfl (lv_at hl 2 rfl) ?_
  refine g_get S hG 83 13 h83 cpX12 wm_1687 dX12_empties_28 rfl (by omega) (by decide) ?_
  refine g_alen S hG 89 3 rfl rfl (by omega) dX12_empties_31 (v := 30) (by decide) ?_
  refine lv_icmp_gt (tgt := 102) hx hb dX12_empties_32 (by decide) (fun c_152 => absurd c_152 (by decide)) (fun c_152 => ?_)
  refine lv_iconst (v := 0) hx hb dX12_empties_35 (by decide) ?_
  refine lv_istore_n (lv' := [(2, .int 0), (1, .int 24), (0, .ref (b + 83))]) hx hb dX12_empties_36 rfl hl (by decide) rfl (fun ls hl => ?_)
  refine lv_iload_n hx hb dX12_empties_37 rfl (lv_at hl 0 rfl) ?_
  refine lv_aload_n hx hb dX12_empties_38 rfl (lv_at hl 2 rfl) ?_
  refine g_get S hG 83 0 h83 cpX12 wm_1674 dX12_empties_39 rfl (by omega) (by decide) ?_
  refine lv_iconst (v := 2) hx hb dX12_empties_42 (by decide) ?_
  refine g_iald S hG 84 h84 (by omega) dX12_empties_43 (by unfold vp_in; decide) ?_
  refine lv_topi (fun x_153 ex_153 => ?_)
  obtain rfl : x_153 = 0 := ex_153.trans (by decide)
  refine lv_icmp_ge (tgt := 64) hx hb dX12_empties_44 (by decide) (fun c_154 => ?_) (fun c_154 => absurd c_154 (by decide))
  refine lv_iconst (v := 0) hx hb dX12_empties_64 (by decide) ?_
  refine lv_istore_n (lv' := [(2, .int 0), (1, .int 24), (0, .ref (b + 83))]) hx hb dX12_empties_65 rfl hl (by decide) rfl (fun ls hl => ?_)
  refine lv_iload_n hx hb dX12_empties_66 rfl (lv_at hl 0 rfl) ?_
  refine lv_aload_n hx hb dX12_empties_67 rfl (lv_at hl 2 rfl) ?_
  refine g_get S hG 83 0 h83 cpX12 wm_1674 dX12_empties_68 rfl (by omega) (by decide) ?_
  refine lv_iconst (v := 0) hx hb dX12_empties_71 (by decide) ?_
  refine g_iald S hG 84 h84 (by omega) dX12_empties_72 (by unfold vp_in; decide) ?_
  refine lv_topi (fun x_155 ex_155 => ?_)
  obtain rfl : x_155 = 0 := ex_155.trans (by decide)
  refine lv_icmp_ge (tgt := 96) hx hb dX12_empties_73 (by decide) (fun c_156 => ?_) (fun c_156 => absurd c_156 (by decide))
  refine lv_iinc (v := 25) (lv' := [(1, .int 25), (2, .int 0), (0, .ref (b + 83))]) hx hb dX12_empties_96 hl (k := 1) rfl (by decide) (by decide) rfl (fun ls hl => ?_)
  refine lv_goto (tgt := 26) hx hb dX12_empties_99 (by decide) ?_
  refine lv_iload_n hx hb dX12_empties_26 rfl (lv_at hl 0 rfl) ?_
  refine lv_aload_n hx hb dX12_empties_27 rfl (lv_at hl 2 rfl) ?_
  refine g_get S hG 83 13 h83 cpX12 wm_1687 dX12_empties_28 rfl (by omega) (by decide) ?_
  refine g_alen S hG 89 3 rfl rfl (by omega) dX12_empties_31 (v := 30) (by decide) ?_
  refine lv_icmp_gt (tgt := 102) hx hb dX12_empties_32 (by decide) (fun c_157 => absurd c_157 (by decide)) (fun c_157 => ?_)
  refine lv_iconst (v := 0) hx hb dX12_empties_35 (by decide) ?_
  refine lv_istore_n (lv' := [(2, .int 0), (1, .int 25), (0, .ref (b + 83))]) hx hb dX12_empties_36 rfl hl (by decide) rfl (fun ls hl => ?_)
  refine lv_iload_n hx hb dX12_empties_37 rfl (lv_at hl 0 rfl) ?_
  refine lv_aload_n hx hb dX12_empties_38 rfl (lv_at hl 2 rfl) ?_
  refine g_get S hG 83 0 h83 cpX12 wm_1674 dX12_empties_39 rfl (by omega) (by decide) ?_
  refine lv_iconst (v := 2) hx hb dX12_empties_42 (by decide) ?_
  refine g_iald S hG 84 h84 (by omega) dX12_empties_43 (by unfold vp_in; decide) ?_
  refine lv_topi (fun x_158 ex_158 => ?_)
  obtain rfl : x_158 = 0 := ex_158.trans (by decide)
  refine lv_icmp_ge (tgt := 64) hx hb dX12_empties_44 (by decide) (fun c_159 => ?_) (fun c_159 => absurd c_159 (by decide))
  refine lv_iconst (v := 0) hx hb dX12_empties_64 (by decide) ?_
  refine lv_istore_n (lv' := [(2, .int 0), (1, .int 25), (0, .ref (b + 83))]) hx hb dX12_empties_65 rfl hl (by decide) rfl (fun ls hl => ?_)
  refine lv_iload_n hx hb dX12_empties_66 rfl (lv_at hl 0 rfl) ?_
  refine lv_aload_n hx hb dX12_empties_67 rfl (lv_at hl 2 rfl) ?_
  refine g_get S hG 83 0 h83 cpX12 wm_1674 dX12_empties_68 rfl (by omega) (by decide) ?_
  refine lv_iconst (v := 0) hx hb dX12_empties_71 (by decide) ?_
  refine g_iald S hG 84 h84 (by omega) dX12_empties_72 (by unfold vp_in; decide) ?_
  refine lv_topi (fun x_160 ex_160 => ?_)
  obtain rfl : x_160 = 0 := ex_160.trans (by decide)
  refine lv_icmp_ge (tgt := 96) hx hb dX12_empties_73 (by decide) (fun c_161 => ?_) (fun c_161 => absurd c_161 (by decide))
  refine lv_iinc (v := 26) (lv' := [(1, .int 26), (2, .int 0), (0, .ref (b + 83))]) hx hb dX12_empties_96 hl (k := 1) rfl (by decide) (by decide) rfl (fun ls hl => ?_)
  refine lv_goto (tgt := 26) hx hb dX12_empties_99 (by decide) ?_
  refine lv_iload_n hx hb dX12_empties_26 rfl (lv_at hl 0 rfl) ?_
  refine lv_aload_n hx hb dX12_empties_27 rfl (lv_at hl 2 rfl) ?_
  refine g_get S hG 83 13 h83 cpX12 wm_1687 dX12_empties_28 rfl (by omega) (by decide) ?_
  refine g_alen S hG 89 3 rfl rfl (by omega) dX12_empties_31 (v := 30) (by decide) ?_
  refine lv_icmp_gt (tgt := 102) hx hb dX12_empties_32 (by decide) (fun c_162 => absurd c_162 (by decide)) (fun c_162 => ?_)
  refine lv_iconst (v := 0) hx hb dX12_empties_35 (by decide) ?_
  refine lv_istore_n (lv' := [(2, .int 0), (1, .int 26), (0, .ref (b + 83))]) hx hb dX12_empties_36 rfl hl (by decide) rfl (fun ls hl => ?_)
  refine lv_iload_n hx hb dX12_empties_37 rfl (lv_at hl 0 rfl) ?_
  refine lv_aload_n hx hb dX12_empties_38 rfl (lv_at hl 2 rfl) ?_
  refine g_get S hG 83 0 h83 cpX12 wm_1674 dX12_empties_39 rfl (by omega) (by decide) ?_
  refine lv_iconst (v := 2) hx hb dX12_empties_42 (by decide) ?_
  refine g_iald S hG 84 h84 (by omega) dX12_empties_43 (by unfold vp_in; decide) ?_
  refine lv_topi (fun x_163 ex_163 => ?_)
  obtain rfl : x_163 = 0 := ex_163.trans (by decide)
  refine lv_icmp_ge (tgt := 64) hx hb dX12_empties_44 (by decide) (fun c_164 => ?_) (fun c_164 => absurd c_164 (by decide))
  refine lv_iconst (v := 0) hx hb dX12_empties_64 (by decide) ?_
  refine lv_istore_n (lv' := [(2, .int 0), (1, .int 26), (0, .ref (b + 83))]) hx hb dX12_empties_65 rfl hl (by decide) rfl (fun ls hl => ?_)
  refine lv_iload_n hx hb dX12_empties_66 rfl (lv_at hl 0 rfl) ?_
  refine lv_aload_n hx hb dX12_empties_67 rfl (lv_at hl 2 rfl) ?_
  refine g_get S hG 83 0 h83 cpX12 wm_1674 dX12_empties_68 rfl (by omega) (by decide) ?_
  refine lv_iconst (v := 0) hx hb dX12_empties_71 (by decide) ?_
  refine g_iald S hG 84 h84 (by omega) dX12_empties_72 (by unfold vp_in; decide) ?_
  refine lv_topi (fun x_165 ex_165 => ?_)
  obtain rfl : x_165 = 0 := ex_165.trans (by decide)
  refine lv_icmp_ge (tgt := 96) hx hb dX12_empties_73 (by decide) (fun c_166 => ?_) (fun c_166 => absurd c_166 (by decide))
  refine lv_iinc (v := 27) (lv' := [(1, .int 27), (2, .int 0), (0, .ref (b + 83))]) hx hb dX12_empties_96 hl (k := 1) rfl (by decide) (by decide) rfl (fun ls hl => ?_)
  refine lv_goto (tgt := 26) hx hb dX12_empties_99 (by decide) ?_
  refine lv_iload_n hx hb dX12_empties_26 rfl (lv_at hl 0 rfl) ?_
  refine lv_aload_n hx hb dX12_empties_27 rfl (lv_at hl 2 rfl) ?_
  refine g_get S hG 83 13 h83 cpX12 wm_1687 dX12_empties_28 rfl (by omega) (by decide) ?_
  refine g_alen S hG 89 3 rfl rfl (by omega) dX12_empties_31 (v := 30) (by decide) ?_
  refine lv_icmp_gt (tgt := 102) hx hb dX12_empties_32 (by decide) (fun c_167 => absurd c_167 (by decide)) (fun c_167 => ?_)
  refine lv_iconst (v := 0) hx hb dX12_empties_35 (by decide) ?_
  refine lv_istore_n (lv' := [(2, .int 0), (1, .int 27), (0, .ref (b + 83))]) hx hb dX12_empties_36 rfl hl (by decide) rfl (fun ls hl => ?_)
  refine lv_iload_n hx hb dX12_empties_37 rfl (lv_at hl 0 rfl) ?_
  refine lv_aload_n hx hb dX12_empties_38 rfl (lv_at hl 2 rfl) ?_
  refine g_get S hG 83 0 h83 cpX12 wm_1674 dX12_empties_39 rfl (by omega) (by decide) ?_
  refine lv_iconst (v := 2) hx hb dX12_empties_42 (by decide) ?_
  refine g_iald S hG 84 h84 (by omega) dX12_empties_43 (by unfold vp_in; decide) ?_
  refine lv_topi (fun x_168 ex_168 => ?_)
  obtain rfl : x_168 = 0 := ex_168.trans (by decide)
  refine lv_icmp_ge (tgt := 64) hx hb dX12_empties_44 (by decide) (fun c_169 => ?_) (fun c_169 => absurd c_169 (by decide))
  refine lv_iconst (v := 0) hx hb dX12_empties_64 (by decide) ?_
  refine lv_istore_n (lv' := [(2, .int 0), (1, .int 27), (0, .ref (b + 83))]) hx hb dX12_empties_65 rfl hl (by decide) rfl (fun ls hl => ?_)
  refine lv_iload_n hx hb dX12_empties_66 rfl (lv_at hl 0 rfl) ?_
  refine lv_aload_n hx hb dX12_empties_67 rfl (lv_at hl 2 rfl) ?_
  refine g_get S hG 83 0 h83 cpX12 wm_1674 dX12_empties_68 rfl (by omega) (by decide) ?_
  refine lv_iconst (v := 0) hx hb dX12_empties_71 (by decide) ?_
  refine g_iald S hG 84 h84 (by omega) dX12_empties_72 (by unfold vp_in; decide) ?_
  refine lv_topi (fun x_170 ex_170 => ?_)
  obtain rfl : x_170 = 0 := ex_170.trans (by decide)
  refine lv_icmp_ge (tgt := 96) hx hb dX12_empties_73 (by decide) (fun c_171 => ?_) (fun c_171 => absurd c_171 (by decide))
  refine lv_iinc (v := 28) (lv' := [(1, .int 28), (2, .int 0), (0, .ref (b + 83))]) hx hb dX12_empties_96 hl (k := 1) rfl (by decide) (by decide) rfl (fun ls hl => ?_)
  refine lv_goto (tgt := 26) hx hb dX12_empties_99 (by decide) ?_
  refine lv_iload_n hx hb dX12_empties_26 rfl (lv_at hl 0 rfl) ?_
  refine lv_aload_n hx hb dX12_empties_27 rfl (lv_at hl 2 rfl) ?_
  refine g_get S hG 83 13 h83 cpX12 wm_1687 dX12_empties_28 rfl (by omega) (by decide) ?_
  refine g_alen S hG 89 3 rfl rfl (by omega) dX12_empties_31 (v := 30) (by decide) ?_
  refine lv_icmp_gt (tgt := 102) hx hb dX12_empties_32 (by decide) (fun c_172 => absurd c_172 (by decide)) (fun c_172 => ?_)
  refine lv_iconst (v := 0) hx hb dX12_empties_35 (by decide) ?_
  refine lv_istore_n (lv' := [(2, .int 0), (1, .int 28), (0, .ref (b + 83))]) hx hb dX12_empties_36 rfl hl (by decide) rfl (fun ls hl => ?_)
  refine lv_iload_n hx hb dX12_empties_37 rfl (lv_at hl 0 rfl) ?_
  refine lv_aload_n hx hb dX12_empties_38 rfl (lv_at hl 2 rfl) ?_
  refine g_get S hG 83 0 h83 cpX12 wm_1674 dX12_empties_39 rfl (by omega) (by decide) ?_
  refine lv_iconst (v := 2) hx hb dX12_empties_42 (by decide) ?_
  refine g_iald S hG 84 h84 (by omega) dX12_empties_43 (by unfold vp_in; decide) ?_
  refine lv_topi (fun x_173 ex_173 => ?_)
  obtain rfl : x_173 = 0 := ex_173.trans (by decide)
  refine lv_icmp_ge (tgt := 64) hx hb dX12_empties_44 (by decide) (fun c_174 => ?_) (fun c_174 => absurd c_174 (by decide))
  refine lv_iconst (v := 0) hx hb dX12_empties_64 (by decide) ?_
  refine lv_istore_n (lv' := [(2, .int 0), (1, .int 28), (0, .ref (b + 83))]) hx hb dX12_empties_65 rfl hl (by decide) rfl (fun ls hl => ?_)
  refine lv_iload_n hx hb dX12_empties_66 rfl (lv_at hl 0 rfl) ?_
  refine lv_aload_n hx hb dX12_empties_67 rfl (lv_at hl 2 rfl) ?_
  refine g_get S hG 83 0 h83 cpX12 wm_1674 dX12_empties_68 rfl (by omega) (by decide) ?_
  refine lv_iconst (v := 0) hx hb dX12_empties_71 (by decide) ?_
  refine g_iald S hG 84 h84 (by omega) dX12_empties_72 (by unfold vp_in; decide) ?_
  refine lv_topi (fun x_175 ex_175 => ?_)
  obtain rfl : x_175 = 0 := ex_175.trans (by decide)
  refine lv_icmp_ge (tgt := 96) hx hb dX12_empties_73 (by decide) (fun c_176 => ?_) (fun c_176 => absurd c_176 (by decide))
  refine lv_iinc (v := 29) (lv' := [(1, .int 29), (2, .int 0), (0, .ref (b + 83))]) hx hb dX12_empties_96 hl (k := 1) rfl (by decide) (by decide) rfl (fun ls hl => ?_)
  refine lv_goto (tgt := 26) hx hb dX12_empties_99 (by decide) ?_
  refine lv_iload_n hx hb dX12_empties_26 rfl (lv_at hl 0 rfl) ?_
  refine lv_aload_n hx hb dX12_empties_27 rfl (lv_at hl 2 rfl) ?_
  refine g_get S hG 83 13 h83 cpX12 wm_1687 dX12_empties_28 rfl (by omega) (by decide) ?_
  refine g_alen S hG 89 3 rfl rfl (by omega) dX12_empties_31 (v := 30) (by decide) ?_
  refine lv_icmp_gt (tgt := 102) hx hb dX12_empties_32 (by decide) (fun c_177 => absurd c_177 (by decide)) (fun c_177 => ?_)
  refine lv_iconst (v := 0) hx hb dX12_empties_35 (by decide) ?_
  refine lv_istore_n (lv' := [(2, .int 0), (1, .int 29), (0, .ref (b + 83))]) hx hb dX12_empties_36 rfl hl (by decide) rfl (fun ls hl => ?_)
  refine lv_iload_n hx hb dX12_empties_37 rfl (lv_at hl 0 rfl) ?_
  refine lv_aload_n hx hb dX12_empties_38 rfl (lv_at hl 2 rfl) ?_
  refine g_get S hG 83 0 h83 cpX12 wm_1674 dX12_empties_39 rfl (by omega) (by decide) ?_
  refine lv_iconst (v := 2) hx hb dX12_empties_42 (by decide) ?_
  refine g_iald S hG 84 h84 (by omega) dX12_empties_43 (by unfold vp_in; decide) ?_
  refine lv_topi (fun x_178 ex_178 => ?_)
  obtain rfl : x_178 = 0 := ex_178.trans (by decide)
  refine lv_icmp_ge (tgt := 64) hx hb dX12_empties_44 (by decide) (fun c_179 => ?_) (fun c_179 => absurd c_179 (by decide))
  refine lv_iconst (v := 0) hx hb dX12_empties_64 (by decide) ?_
  refine lv_istore_n (lv' := [(2, .int 0), (1, .int 29), (0, .ref (b + 83))]) hx hb dX12_empties_65 rfl hl (by decide) rfl (fun ls hl => ?_)
  refine lv_iload_n hx hb dX12_empties_66 rfl (lv_at hl 0 rfl) ?_
  refine lv_aload_n hx hb dX12_empties_67 rfl (lv_at hl 2 rfl) ?_
  refine g_get S hG 83 0 h83 cpX12 wm_1674 dX12_empties_68 rfl (by omega) (by decide) ?_
  refine lv_iconst (v := 0) hx hb dX12_empties_71 (by decide) ?_
  refine g_iald S hG 84 h84 (by omega) dX12_empties_72 (by unfold vp_in; decide) ?_
  refine lv_topi (fun x_180 ex_180 => ?_)
  obtain rfl : x_180 = 0 := ex_180.trans (by decide)
  refine lv_icmp_ge (tgt := 96) hx hb dX12_empties_73 (by decide) (fun c_181 => ?_) (fun c_181 => absurd c_181 (by decide))
  refine lv_iinc (v := 30) (lv' := [(1, .int 30), (2, .int 0), (0, .ref (b + 83))]) hx hb dX12_empties_96 hl (k := 1) rfl (by decide) (by decide) rfl (fun ls hl => ?_)
  refine lv_goto (tgt := 26) hx hb dX12_empties_99 (by decide) ?_
  refine lv_iload_n hx hb dX12_empties_26 rfl (lv_at hl 0 rfl) ?_
  refine lv_aload_n hx hb dX12_empties_27 rfl (lv_at hl 2 rfl) ?_
  refine g_get S hG 83 13 h83 cpX12 wm_1687 dX12_empties_28 rfl (by omega) (by decide) ?_
  refine g_alen S hG 89 3 rfl rfl (by omega) dX12_empties_31 (v := 30) (by decide) ?_
  refine lv_icmp_gt (tgt := 102) hx hb dX12_empties_32 (by decide) (fun c_182 => absurd c_182 (by decide)) (fun c_182 => ?_)
  refine lv_iconst (v := 0) hx hb dX12_empties_35 (by decide) ?_
  refine lv_istore_n (lv' := [(2, .int 0), (1, .int 30), (0, .ref (b + 83))]) hx hb dX12_empties_36 rfl hl (by decide) rfl (fun ls hl => ?_)
  refine lv_iload_n hx hb dX12_empties_37 rfl (lv_at hl 0 rfl) ?_
  refine lv_aload_n hx hb dX12_empties_38 rfl (lv_at hl 2 rfl) ?_
  refine g_get S hG 83 0 h83 cpX12 wm_1674 dX12_empties_39 rfl (by omega) (by decide) ?_
  refine lv_iconst (v := 2) hx hb dX12_empties_42 (by decide) ?_
  refine g_iald S hG 84 h84 (by omega) dX12_empties_43 (by unfold vp_in; decide) ?_
  refine lv_topi (fun x_183 ex_183 => ?_)
  obtain rfl : x_183 = 0 := ex_183.trans (by decide)
  refine lv_icmp_ge (tgt := 64) hx hb dX12_empties_44 (by decide) (fun c_184 => ?_) (fun c_184 => absurd c_184 (by decide))
  refine lv_iconst (v := 0) hx hb dX12_empties_64 (by decide) ?_
  refine lv_istore_n (lv' := [(2, .int 0), (1, .int 30), (0, .ref (b + 83))]) hx hb dX12_empties_65 rfl hl (by decide) rfl (fun ls hl => ?_)
  refine lv_iload_n hx hb dX12_empties_66 rfl (lv_at hl 0 rfl) ?_
  refine lv_aload_n hx hb dX12_empties_67 rfl (lv_at hl 2 rfl) ?_
  refine g_get S hG 83 0 h83 cpX12 wm_1674 dX12_empties_68 rfl (by omega) (by decide) ?_
  refine lv_iconst (v := 0) hx hb dX12_empties_71 (by decide) ?_
  refine g_iald S hG 84 h84 (by omega) dX12_empties_72 (by unfold vp_in; decide) ?_
  refine lv_topi (fun x_185 ex_185 => ?_)
  obtain rfl : x_185 = 0 := ex_185.trans (by decide)
  refine lv_icmp_ge (tgt := 96) hx hb dX12_empties_73 (by decide) (fun c_186 => ?_) (fun c_186 => absurd c_186 (by decide))
  refine lv_iinc (v := 31) (lv' := [(1, .int 31), (2, .int 0), (0, .ref (b + 83))]) hx hb dX12_empties_96 hl (k := 1) rfl (by decide) (by decide) rfl (fun ls hl => ?_)
  refine lv_goto (tgt := 26) hx hb dX12_empties_99 (by decide) ?_
  refine lv_iload_n hx hb dX12_empties_26 rfl (lv_at hl 0 rfl) ?_
  refine lv_aload_n hx hb dX12_empties_27 rfl (lv_at hl 2 rfl) ?_
  refine g_get S hG 83 13 h83 cpX12 wm_1687 dX12_empties_28 rfl (by omega) (by decide) ?_
  refine g_alen S hG 89 3 rfl rfl (by omega) dX12_empties_31 (v := 30) (by decide) ?_
  refine lv_icmp_gt (tgt := 102) hx hb dX12_empties_32 (by decide) (fun c_187 => ?_) (fun c_187 => absurd c_187 (by decide))
  exact g_vret S hr hlk hG (by omega) dX12_empties_102 ⟨Nat.le_of_ble_eq_true rfl, Nat.le_of_ble_eq_true rfl⟩ ⟨rfl, fun j hj89 => (upE_n (by omega)).trans ((upE_n (by omega)).trans ((upE_n (by omega)).trans ((upE_n (by omega)).trans ((upE_n (by omega)).trans ((upE_n (by omega)).trans ((upE_n (by omega)).trans ((upE_n (by omega)).trans ((upE_n (by omega)).trans ((upE_n (by omega)).trans ((upE_n (by omega)).trans ((upE_n (by omega)).trans ((upE_n (by omega)).trans ((upE_n (by omega)).trans ((upE_n (by omega)).trans ((upE_n (by omega)).trans ((upE_n (by omega)).trans ((upE_n (by omega)).trans ((upE_n (by omega)).trans ((upE_n (by omega)).trans ((upE_n (by omega)).trans ((upE_n (by omega)).trans ((upE_n (by omega)).trans ((upE_n (by omega)).trans ((upE_n (by omega)).trans ((upE_n (by omega)).trans ((upE_n (by omega)).trans ((upE_n (by omega)).trans ((upE_n (by omega)).trans ((upE_n (by omega)).trans (rfl)))))))))))))))))))))))))))))), ⟨_, rfl⟩⟩
theorem wV_12_262 : gWV "GrownKindsModel" 262 yX12_empties cX12_empties 3 none := ⟨wm_1933, wm_1935, wm_104, wm_187, wm_1936, by decide +kernel, by decide +kernel⟩
set_option maxHeartbeats 4000000 in
set_option maxRecDepth 100000 in
theorem qX12_wrongKind (l : Launch) {D : va_G} {cy : Nat → ClassId} {b n : Nat} (hn : 105 ≤ n) {E : Nat → va_E}  (h83 : E 83 = Z83 b cy) (h84 : E 84 = Z84 b cy) (h89 : E 89 = Z89 b cy)   : gI l yX12_wrongKind cX12_wrongKind 5 (some .int) 1 0 0 D cy b n E [.ref (b + 83)] (fun r u => r = (-1) ∧ u.1 = n ∧ (∀ j, j ≠ 89 → u.2 j = E j) ∧ (∃ f : Nat → Int32, u.2 89 = .inl (cy 3, 30, .inl f))) := by
  refine gI_of (by decide) (Nat.le_of_ble_eq_true rfl) ?_
  intro p e s m args below meth c S hr hlk hin hsz ls hl hG
  have hx := S.1
  have hb := S.2.1
  have hl : lv_has ls 5 [(0, .ref (b + 83))] := hl
  refine lv_aload_n hx hb dX12_wrongKind_0 rfl (lv_at hl 0 rfl) ?_
  refine g_vv (As := []) (rest := []) S hG (by omega) (qX12_empties l hn (by exact h83) (by exact h84) (by exact h89) ) wV_12_262 h83 cpX12 (by omega) dX12_wrongKind_1 rfl hl.1 (ar := 0) (by decide +kernel) rfl ⟨Nat.le_of_ble_eq_true rfl, Nat.le_of_ble_eq_true rfl, Nat.le_of_ble_eq_true rfl, Nat.le_of_ble_eq_true rfl⟩ (Nat.le_of_ble_eq_true rfl) (fun u_E_1 H locs hp_2 hG => ?_)
  obtain ⟨n_E_1, E_1⟩ := u_E_1
  dsimp only at hp_2 hG
  obtain ⟨en_4, hlo_3, ⟨F_6, g_5⟩⟩ := hp_2
  have hG := gW_eq2 hG en_4 rfl
  refine lv_iconst (v := 0) hx hb dX12_wrongKind_4 (by decide) ?_
  refine lv_istore_n (lv' := [(1, .int 0), (0, .ref (b + 83))]) hx hb dX12_wrongKind_5 rfl hl (by decide) rfl (fun ls hl => ?_)
  refine lv_iload_n hx hb dX12_wrongKind_6 rfl (lv_at hl 0 rfl) ?_
  refine lv_aload_n hx hb dX12_wrongKind_7 rfl (lv_at hl 1 rfl) ?_
  refine g_get S hG 83 0 ((hlo_3 83 (by decide) ).trans h83) cpX12 wm_1674 dX12_wrongKind_8 rfl (by omega) (by decide) ?_
  refine lv_iconst (v := 0) hx hb dX12_wrongKind_11 (by decide) ?_
  refine g_iald S hG 84 ((hlo_3 84 (by decide) ).trans h84) (by omega) dX12_wrongKind_12 (by unfold vp_in; decide) ?_
  refine lv_topi (fun x_7 ex_7 => ?_)
  obtain rfl : x_7 = 0 := ex_7.trans (by decide)
  refine lv_icmp_ge (tgt := 102) hx hb dX12_wrongKind_13 (by decide) (fun c_8 => ?_) (fun c_8 => absurd c_8 (by decide))
  refine lv_iconst (v := (-1)) hx hb dX12_wrongKind_102 (by decide) ?_
  exact g_iret S hr hlk hG (by omega) dX12_wrongKind_103 ⟨Nat.le_of_ble_eq_true rfl, Nat.le_of_ble_eq_true rfl⟩ ⟨rfl, rfl, fun j hj89 => (hlo_3 j (by omega) ).trans (rfl), ⟨_, g_5⟩⟩
theorem wV_12_173 : gWV "GrownKindsModel" 173 yX12_next cX12_next 1 none := ⟨wm_1846, wm_1848, wm_87, wm_187, wm_1849, by decide +kernel, by decide +kernel⟩
theorem wV_12_219 : gWV "GrownKindsModel" 219 yX12_wrongKind cX12_wrongKind 5 (some .int) := ⟨wm_1929, wm_1931, wm_103, wm_187, wm_1932, by decide +kernel, by decide +kernel⟩
set_option maxHeartbeats 4000000 in
set_option maxRecDepth 100000 in
theorem qX12_grammar (l : Launch) {D : va_G} {cy : Nat → ClassId} {b n : Nat} (hn : 105 ≤ n) {E : Nat → va_E}  (h83 : E 83 = Z83 b cy) (h84 : E 84 = Z84 b cy) (h85 : E 85 = Z85 b cy) (h89 : E 89 = Z89 b cy)   : gI l yX12_grammar cX12_grammar 2 (some .int) 2 0 0 D cy b n E [.ref (b + 83)] (fun r _ => r = 0) := by
  refine gI_of (by decide) (Nat.le_of_ble_eq_true rfl) ?_
  intro p e s m args below meth c S hr hlk hin hsz ls hl hG
  have hx := S.1
  have hb := S.2.1
  have hl : lv_has ls 2 [(0, .ref (b + 83))] := hl
  refine lv_iconst (v := 0) hx hb dX12_grammar_0 (by decide) ?_
  refine lv_istore_n (lv' := [(1, .int 0), (0, .ref (b + 83))]) hx hb dX12_grammar_1 rfl hl (by decide) rfl (fun ls hl => ?_)
  have loop : ∀ (t k : Nat) (f : Nat → Int32) (H : Heap) (locs : List Loc) (ls : Array Slot), k ≤ 228 → 229 ≤ k + t → gW D cy b n s H locs (upE E 85 (.inl (cy 1, 228, .inl f))) → lv_has ls 2 [(1, .int (nI k)), (0, .ref (b + 83))] → W p l e (gRm 2 0 0) s m args below meth c H locs 0 0 (gQI D cy b s args below 0 0 (fun r _ => r = 0)) (F0 m 2 ls []) := by
    intro t
    induction t with
    | zero => intro k f H locs ls h1 h2; exact absurd h2 (by omega)
    | succ t ih =>
      intro k f H locs ls hk ht hG hl
      refine lv_iload_n hx hb dX12_grammar_2 rfl (lv_at hl 0 rfl) ?_
      refine lv_sipush (v := 228) hx hb dX12_grammar_3 (by decide) ?_
      refine lv_icmp_ge (tgt := 27) hx hb dX12_grammar_6 (by decide) (fun c1 => ?_) (fun c1 => ?_)
      · refine lv_aload_n hx hb dX12_grammar_27 rfl (lv_at hl 1 rfl) ?_
        refine g_vv (As := []) (rest := []) S hG (by omega) (qX12_clears l hn (by exact h83) rfl (by exact h84)) wV_12_91 h83 cpX12 (by omega) dX12_grammar_28 rfl hl.1 (ar := 0) (by decide +kernel) rfl ⟨Nat.le_of_ble_eq_true rfl, Nat.le_of_ble_eq_true rfl, Nat.le_of_ble_eq_true rfl, Nat.le_of_ble_eq_true rfl⟩ (Nat.le_of_ble_eq_true rfl) (fun u_E_1 H locs hp_2 hG => ?_)
        obtain ⟨n_E_1, E_1⟩ := u_E_1
        dsimp only at hp_2 hG
        obtain ⟨nhp_2, rfl⟩ := hp_2
        have hG := gW_eq2 hG nhp_2 rfl
        refine lv_aload_n hx hb dX12_grammar_31 rfl (lv_at hl 1 rfl) ?_
        refine lv_iconst (v := 0) hx hb dX12_grammar_32 (by decide) ?_
        refine g_put (fs' := [.ref (b + 84), .ref (b + 85), .ref (b + 86), .int 0, .int 0, .int (-1), .int 0, .int 0, .int 0, .int 0, .int 0, .ref (b + 87), .ref (b + 88), .ref (b + 89), .ref (b + 90), .ref (b + 91), .ref (b + 92), .ref (b + 93), .ref (b + 94), .ref (b + 95), .int 0, .int 0, .int 0, .int 0, .int 0, .int 0, .int 0, .int 0, .ref (b + 96), .ref (b + 97), .ref (b + 98), .int 0, .long 0, .ref (b + 99), .ref (b + 100), .ref (b + 101), .ref (b + 102), .ref (b + 103), .int 0, .ref (b + 104), .int 0, .int 0, .int (-1), .int (-1), .int 0, .int 0, .int 0, .int 0, .int 0, .int 0, .int 0, .int 0]) S hG 83 6 h83 cpX12 wm_1680 dX12_grammar_33 rfl (by omega) (by decide) (Nat.le_of_ble_eq_true rfl) rfl rfl rfl (fun H locs hG => ?_)
        refine lv_aload_n hx hb dX12_grammar_36 rfl (lv_at hl 1 rfl) ?_
        refine lv_iconst (v := 0) hx hb dX12_grammar_37 (by decide) ?_
        refine g_put (fs' := [.ref (b + 84), .ref (b + 85), .ref (b + 86), .int 0, .int 0, .int (-1), .int 0, .int 0, .int 0, .int 0, .int 0, .ref (b + 87), .ref (b + 88), .ref (b + 89), .ref (b + 90), .ref (b + 91), .ref (b + 92), .ref (b + 93), .ref (b + 94), .ref (b + 95), .int 0, .int 0, .int 0, .int 0, .int 0, .int 0, .int 0, .int 0, .ref (b + 96), .ref (b + 97), .ref (b + 98), .int 0, .long 0, .ref (b + 99), .ref (b + 100), .ref (b + 101), .ref (b + 102), .ref (b + 103), .int 0, .ref (b + 104), .int 0, .int 0, .int (-1), .int (-1), .int 0, .int 0, .int 0, .int 0, .int 0, .int 0, .int 0, .int 0]) S hG 83 10 rfl cpX12 wm_1684 dX12_grammar_38 rfl (by omega) (by decide) (Nat.le_of_ble_eq_true rfl) rfl rfl rfl (fun H locs hG => ?_)
        refine lv_aload_n hx hb dX12_grammar_41 rfl (lv_at hl 1 rfl) ?_
        refine g_vv (As := []) (rest := []) S hG (by omega) (qX12_next l hn (by exact rfl) ) wV_12_173 rfl cpX12 (by omega) dX12_grammar_42 rfl hl.1 (ar := 0) (by decide +kernel) rfl ⟨Nat.le_of_ble_eq_true rfl, Nat.le_of_ble_eq_true rfl, Nat.le_of_ble_eq_true rfl, Nat.le_of_ble_eq_true rfl⟩ (Nat.le_of_ble_eq_true rfl) (fun u_E_3 H locs hp_4 hG => ?_)
        obtain ⟨n_E_3, E_3⟩ := u_E_3
        dsimp only at hp_4 hG
        obtain ⟨en_6, hlo_5, g_7⟩ := hp_4
        have hG := gW_eq2 hG en_6 rfl
        refine lv_aload_n hx hb dX12_grammar_45 rfl (lv_at hl 1 rfl) ?_
        refine g_get S hG 83 10 g_7 cpX12 wm_1684 dX12_grammar_46 rfl (by omega) (by decide) ?_
        refine lv_if_ne (tgt := 105) hx hb dX12_grammar_49 (by decide) (fun c_8 => absurd c_8 (by decide)) (fun c_8 => ?_)
        refine lv_aload_n hx hb dX12_grammar_52 rfl (lv_at hl 1 rfl) ?_
        refine g_get S hG 83 8 g_7 cpX12 wm_1682 dX12_grammar_53 rfl (by omega) (by decide) ?_
        refine lv_if_eq (tgt := 105) hx hb dX12_grammar_56 (by decide) (fun c_9 => ?_) (fun c_9 => absurd c_9 (by decide))
        refine lv_aload_n hx hb dX12_grammar_105 rfl (lv_at hl 1 rfl) ?_
        refine g_get S hG 83 10 g_7 cpX12 wm_1684 dX12_grammar_106 rfl (by omega) (by decide) ?_
        refine lv_if_ne (tgt := 137) hx hb dX12_grammar_109 (by decide) (fun c_10 => absurd c_10 (by decide)) (fun c_10 => ?_)
        refine lv_aload_n hx hb dX12_grammar_112 rfl (lv_at hl 1 rfl) ?_
        refine g_vi (As := []) (rest := []) S hG (by omega) (qX12_wrongKind l hn (by exact g_7) (by exact ((hlo_5 84 (by decide) ).trans rfl)) (by exact ((hlo_5 89 (by decide) ).trans h89)) ) wV_12_219 g_7 cpX12 (by omega) dX12_grammar_113 rfl hl.1 (ar := 0) (by decide +kernel) rfl ⟨Nat.le_of_ble_eq_true rfl, Nat.le_of_ble_eq_true rfl, Nat.le_of_ble_eq_true rfl, Nat.le_of_ble_eq_true rfl⟩ (Nat.le_of_ble_eq_true rfl) (fun r_13 u_E_11 H locs hp_12 hG => ?_)
        obtain ⟨n_E_11, E_11⟩ := u_E_11
        dsimp only at hp_12 hG
        obtain ⟨rfl, en_15, hlo_14, ⟨F_17, g_16⟩⟩ := hp_12
        have hG := gW_eq2 hG en_15 rfl
        refine lv_if_lt (tgt := 137) hx hb dX12_grammar_116 (by decide) (fun c_18 => ?_) (fun c_18 => absurd c_18 (by decide))
        refine lv_aload_n hx hb dX12_grammar_137 rfl (lv_at hl 1 rfl) ?_
        refine lv_iconst (v := 0) hx hb dX12_grammar_138 (by decide) ?_
        refine g_put (fs' := [.ref (b + 84), .ref (b + 85), .ref (b + 86), .int 0, .int 0, .int (-1), .int 0, .int 0, .int 0, .int 0, .int 0, .ref (b + 87), .ref (b + 88), .ref (b + 89), .ref (b + 90), .ref (b + 91), .ref (b + 92), .ref (b + 93), .ref (b + 94), .ref (b + 95), .int 0, .int 0, .int 0, .int 0, .int 0, .int 0, .int 0, .int 0, .ref (b + 96), .ref (b + 97), .ref (b + 98), .int 0, .long 0, .ref (b + 99), .ref (b + 100), .ref (b + 101), .ref (b + 102), .ref (b + 103), .int 0, .ref (b + 104), .int 0, .int 0, .int (-1), .int (-1), .int 0, .int 0, .int 0, .int 0, .int 0, .int 0, .int 0, .int 0]) S hG 83 3 ((hlo_14 83 (by decide) ).trans g_7) cpX12 wm_1677 dX12_grammar_139 rfl (by omega) (by decide) (Nat.le_of_ble_eq_true rfl) rfl rfl rfl (fun H locs hG => ?_)
        refine lv_aload_n hx hb dX12_grammar_142 rfl (lv_at hl 1 rfl) ?_
        refine g_get S hG 83 10 rfl cpX12 wm_1684 dX12_grammar_143 rfl (by omega) (by decide) ?_
        refine lv_if_eq (tgt := 179) hx hb dX12_grammar_146 (by decide) (fun c_19 => ?_) (fun c_19 => absurd c_19 (by decide))
        refine lv_aload_n hx hb dX12_grammar_179 rfl (lv_at hl 1 rfl) ?_
        refine lv_iconst (v := 0) hx hb dX12_grammar_180 (by decide) ?_
        refine g_put (fs' := [.ref (b + 84), .ref (b + 85), .ref (b + 86), .int 0, .int 0, .int (-1), .int 0, .int 0, .int 0, .int 0, .int 0, .ref (b + 87), .ref (b + 88), .ref (b + 89), .ref (b + 90), .ref (b + 91), .ref (b + 92), .ref (b + 93), .ref (b + 94), .ref (b + 95), .int 0, .int 0, .int 0, .int 0, .int 0, .int 0, .int 0, .int 0, .ref (b + 96), .ref (b + 97), .ref (b + 98), .int 0, .long 0, .ref (b + 99), .ref (b + 100), .ref (b + 101), .ref (b + 102), .ref (b + 103), .int 0, .ref (b + 104), .int 0, .int 0, .int (-1), .int (-1), .int 0, .int 0, .int 0, .int 0, .int 0, .int 0, .int 0, .int 0]) S hG 83 4 rfl cpX12 wm_1678 dX12_grammar_181 rfl (by omega) (by decide) (Nat.le_of_ble_eq_true rfl) rfl rfl rfl (fun H locs hG => ?_)
        refine lv_aload_n hx hb dX12_grammar_184 rfl (lv_at hl 1 rfl) ?_
        refine lv_iconst (v := (-1)) hx hb dX12_grammar_185 (by decide) ?_
        refine g_put (fs' := [.ref (b + 84), .ref (b + 85), .ref (b + 86), .int 0, .int 0, .int (-1), .int 0, .int 0, .int 0, .int 0, .int 0, .ref (b + 87), .ref (b + 88), .ref (b + 89), .ref (b + 90), .ref (b + 91), .ref (b + 92), .ref (b + 93), .ref (b + 94), .ref (b + 95), .int 0, .int 0, .int 0, .int 0, .int 0, .int 0, .int 0, .int 0, .ref (b + 96), .ref (b + 97), .ref (b + 98), .int 0, .long 0, .ref (b + 99), .ref (b + 100), .ref (b + 101), .ref (b + 102), .ref (b + 103), .int 0, .ref (b + 104), .int 0, .int 0, .int (-1), .int (-1), .int 0, .int 0, .int 0, .int 0, .int 0, .int 0, .int 0, .int 0]) S hG 83 5 rfl cpX12 wm_1679 dX12_grammar_186 rfl (by omega) (by decide) (Nat.le_of_ble_eq_true rfl) rfl rfl rfl (fun H locs hG => ?_)
        refine lv_aload_n hx hb dX12_grammar_189 rfl (lv_at hl 1 rfl) ?_
        refine lv_iconst (v := 0) hx hb dX12_grammar_190 (by decide) ?_
        refine g_put (fs' := [.ref (b + 84), .ref (b + 85), .ref (b + 86), .int 0, .int 0, .int (-1), .int 0, .int 0, .int 0, .int 0, .int 0, .ref (b + 87), .ref (b + 88), .ref (b + 89), .ref (b + 90), .ref (b + 91), .ref (b + 92), .ref (b + 93), .ref (b + 94), .ref (b + 95), .int 0, .int 0, .int 0, .int 0, .int 0, .int 0, .int 0, .int 0, .ref (b + 96), .ref (b + 97), .ref (b + 98), .int 0, .long 0, .ref (b + 99), .ref (b + 100), .ref (b + 101), .ref (b + 102), .ref (b + 103), .int 0, .ref (b + 104), .int 0, .int 0, .int (-1), .int (-1), .int 0, .int 0, .int 0, .int 0, .int 0, .int 0, .int 0, .int 0]) S hG 83 45 rfl cpX12 wm_1719 dX12_grammar_191 rfl (by omega) (by decide) (Nat.le_of_ble_eq_true rfl) rfl rfl rfl (fun H locs hG => ?_)
        refine lv_aload_n hx hb dX12_grammar_194 rfl (lv_at hl 1 rfl) ?_
        refine g_get S hG 83 0 rfl cpX12 wm_1674 dX12_grammar_195 rfl (by omega) (by decide) ?_
        refine lv_iconst (v := 3) hx hb dX12_grammar_198 (by decide) ?_
        refine g_iald S hG 84 ((hlo_14 84 (by decide) ).trans ((hlo_5 84 (by decide) ).trans rfl)) (by omega) dX12_grammar_199 (by unfold vp_in; decide) ?_
        refine lv_topi (fun x_20 ex_20 => ?_)
        obtain rfl : x_20 = 0 := ex_20.trans (by decide)
        exact g_iret S hr hlk hG (by omega) dX12_grammar_200 ⟨Nat.le_of_ble_eq_true rfl, Nat.le_of_ble_eq_true rfl⟩ rfl
      · have hk2 : k < 228 := by have := mt (i32_k (N := 228) rfl (by omega) (by omega)).mpr c1; omega
        refine lv_aload_n hx hb dX12_grammar_9 rfl (lv_at hl 1 rfl) ?_
        refine g_get S hG 83 1 h83 cpX12 wm_1675 dX12_grammar_10 rfl (by omega) (by decide) ?_
        refine lv_iload_n hx hb dX12_grammar_13 rfl (lv_at hl 0 rfl) ?_
        refine lv_aload_n hx hb dX12_grammar_14 rfl (lv_at hl 1 rfl) ?_
        refine g_get S hG 83 0 h83 cpX12 wm_1674 dX12_grammar_15 rfl (by omega) (by decide) ?_
        refine lv_iload_n hx hb dX12_grammar_18 rfl (lv_at hl 0 rfl) ?_
        refine g_iald S hG 84 h84 (by omega) dX12_grammar_19 (vp_in_nI hk2 (by omega)) ?_
        refine g_iast S hG 85 rfl (by omega) dX12_grammar_20 (vp_in_nI hk2 (by omega)) (fun H locs hG => ?_)
        refine lv_iinc (v := nI (k + 1)) (lv' := [(1, .int (nI (k + 1))), (0, .ref (b + 83))]) hx hb dX12_grammar_21 hl (k := 0) rfl (nI_1 k) (by decide) rfl (fun ls hl => ?_)
        refine lv_goto (tgt := 2) hx hb dX12_grammar_24 (by decide) ?_
        rw [upE_i] at hG
        exact ih (k + 1) _ H locs ls (by omega) (by omega) hG (lv_sub hl [0, 1] rfl)
  exact loop 229 0 _ s.heap [] ls (by omega) (by omega) (gW_eq hG (upE_same h85).symm) hl
