theorem dX12_clears_2 : decode cX12_clears 2 = .ok (.iload_n 1, 1) := by decide +kernel
theorem dX12_clears_3 : decode cX12_clears 3 = .ok (.sipush 228, 3) := by decide +kernel
theorem dX12_clears_6 : decode cX12_clears 6 = .ok (.if_icmp .ge 33, 3) := by decide +kernel
theorem dX12_clears_39 : decode cX12_clears 39 = .ok (.return_, 1) := by decide +kernel
theorem wm_1673 : (Jvm.Cond.fieldLink "GrownKindsModel" (15 : Nat) "GrownKindsModel" "mem" "[I") ∈ gT := gT_in (List.mem_of_getElem? (i := 1673) (by decide +kernel)) (by decide +kernel)
theorem dX12_clears_9 : decode cX12_clears 9 = .ok (.aload_n 0, 1) := by decide +kernel
theorem dX12_clears_10 : decode cX12_clears 10 = .ok (.getfield 15, 3) := by decide +kernel
theorem dX12_clears_13 : decode cX12_clears 13 = .ok (.iload_n 1, 1) := by decide +kernel
theorem dX12_clears_14 : decode cX12_clears 14 = .ok (.iload_n 1, 1) := by decide +kernel
theorem dX12_clears_15 : decode cX12_clears 15 = .ok (.bipush 96, 2) := by decide +kernel
theorem dX12_clears_32 : decode cX12_clears 32 = .ok (.iastore, 1) := by decide +kernel
theorem dX12_clears_33 : decode cX12_clears 33 = .ok (.iinc 1 1, 3) := by decide +kernel
theorem dX12_clears_36 : decode cX12_clears 36 = .ok (.goto (-34), 3) := by decide +kernel
theorem dX12_clears_17 : decode cX12_clears 17 = .ok (.if_icmp .lt 14, 3) := by decide +kernel
theorem dX12_clears_31 : decode cX12_clears 31 = .ok (.iconst 0, 1) := by decide +kernel
theorem dX12_clears_20 : decode cX12_clears 20 = .ok (.iload_n 1, 1) := by decide +kernel
theorem dX12_clears_21 : decode cX12_clears 21 = .ok (.sipush 198, 3) := by decide +kernel
theorem dX12_clears_24 : decode cX12_clears 24 = .ok (.if_icmp .ge 7, 3) := by decide +kernel
theorem dX12_clears_27 : decode cX12_clears 27 = .ok (.iconst (-1), 1) := by decide +kernel
theorem dX12_clears_28 : decode cX12_clears 28 = .ok (.goto 4, 3) := by decide +kernel
theorem dX12_clears_0 : decode cX12_clears 0 = .ok (.iconst 0, 1) := by decide +kernel
theorem dX12_clears_1 : decode cX12_clears 1 = .ok (.istore_n 1, 1) := by decide +kernel
theorem dX12_init_0 : decode cX12_init 0 = .ok (.aload_n 0, 1) := by decide +kernel
theorem dX12_init_1 : decode cX12_init 1 = .ok (.invokespecial 7, 3) := by decide +kernel
theorem wm_1668 : (Jvm.Cond.methodLink "GrownKindsModel" (7 : Nat) ({ cls := "java/lang/Object", name := "<init>", desc := "()V" } : Jvm.MethodName)) ∈ gT := gT_in (List.mem_of_getElem? (i := 1668) (by decide +kernel)) (by decide +kernel)
theorem dX12_init_4 : decode cX12_init 4 = .ok (.aload_n 0, 1) := by decide +kernel
theorem dX12_init_5 : decode cX12_init 5 = .ok (.sipush 228, 3) := by decide +kernel
theorem dX12_init_8 : decode cX12_init 8 = .ok (.newarray .int, 2) := by decide +kernel
theorem dX12_init_10 : decode cX12_init 10 = .ok (.putfield 15, 3) := by decide +kernel
theorem dX12_init_13 : decode cX12_init 13 = .ok (.aload_n 0, 1) := by decide +kernel
theorem dX12_init_14 : decode cX12_init 14 = .ok (.sipush 228, 3) := by decide +kernel
theorem dX12_init_17 : decode cX12_init 17 = .ok (.newarray .int, 2) := by decide +kernel
theorem dX12_init_19 : decode cX12_init 19 = .ok (.putfield 19, 3) := by decide +kernel
theorem wm_1674 : (Jvm.Cond.fieldLink "GrownKindsModel" (19 : Nat) "GrownKindsModel" "was" "[I") ∈ gT := gT_in (List.mem_of_getElem? (i := 1674) (by decide +kernel)) (by decide +kernel)
theorem dX12_init_22 : decode cX12_init 22 = .ok (.aload_n 0, 1) := by decide +kernel
theorem dX12_init_23 : decode cX12_init 23 = .ok (.sipush 400, 3) := by decide +kernel
theorem dX12_init_26 : decode cX12_init 26 = .ok (.newarray .int, 2) := by decide +kernel
theorem dX12_init_28 : decode cX12_init 28 = .ok (.putfield 22, 3) := by decide +kernel
theorem wm_1675 : (Jvm.Cond.fieldLink "GrownKindsModel" (22 : Nat) "GrownKindsModel" "tape" "[I") ∈ gT := gT_in (List.mem_of_getElem? (i := 1675) (by decide +kernel)) (by decide +kernel)
theorem dX12_init_31 : decode cX12_init 31 = .ok (.aload_n 0, 1) := by decide +kernel
theorem dX12_init_32 : decode cX12_init 32 = .ok (.iconst (-1), 1) := by decide +kernel
theorem dX12_init_33 : decode cX12_init 33 = .ok (.putfield 25, 3) := by decide +kernel
theorem wm_1678 : (Jvm.Cond.fieldLink "GrownKindsModel" (25 : Nat) "GrownKindsModel" "faultPlace" "I") ∈ gT := gT_in (List.mem_of_getElem? (i := 1678) (by decide +kernel)) (by decide +kernel)
theorem dX12_init_36 : decode cX12_init 36 = .ok (.aload_n 0, 1) := by decide +kernel
theorem dX12_init_37 : decode cX12_init 37 = .ok (.bipush 48, 2) := by decide +kernel
theorem dX12_init_39 : decode cX12_init 39 = .ok (.newarray .int, 2) := by decide +kernel
theorem dX12_init_41 : decode cX12_init 41 = .ok (.putfield 29, 3) := by decide +kernel
theorem wm_1684 : (Jvm.Cond.fieldLink "GrownKindsModel" (29 : Nat) "GrownKindsModel" "names" "[I") ∈ gT := gT_in (List.mem_of_getElem? (i := 1684) (by decide +kernel)) (by decide +kernel)
theorem dX12_init_44 : decode cX12_init 44 = .ok (.aload_n 0, 1) := by decide +kernel
theorem dX12_init_45 : decode cX12_init 45 = .ok (.bipush 6, 2) := by decide +kernel
theorem dX12_init_47 : decode cX12_init 47 = .ok (.newarray .int, 2) := by decide +kernel
theorem dX12_init_49 : decode cX12_init 49 = .ok (.putfield 32, 3) := by decide +kernel
theorem wm_1685 : (Jvm.Cond.fieldLink "GrownKindsModel" (32 : Nat) "GrownKindsModel" "nameLong" "[I") ∈ gT := gT_in (List.mem_of_getElem? (i := 1685) (by decide +kernel)) (by decide +kernel)
theorem dX12_init_52 : decode cX12_init 52 = .ok (.aload_n 0, 1) := by decide +kernel
theorem dX12_init_53 : decode cX12_init 53 = .ok (.bipush 30, 2) := by decide +kernel
theorem dX12_init_55 : decode cX12_init 55 = .ok (.newarray .boolean, 2) := by decide +kernel
theorem wm_1830 : (Jvm.Cond.arrayClass Jvm.ClassFile.FieldType.boolean) ∈ gT := gT_in (List.mem_of_getElem? (i := 1830) (by decide +kernel)) (by decide +kernel)
theorem dX12_init_57 : decode cX12_init 57 = .ok (.putfield 35, 3) := by decide +kernel
theorem wm_1686 : (Jvm.Cond.fieldLink "GrownKindsModel" (35 : Nat) "GrownKindsModel" "empty" "[Z") ∈ gT := gT_in (List.mem_of_getElem? (i := 1686) (by decide +kernel)) (by decide +kernel)
theorem dX12_init_60 : decode cX12_init 60 = .ok (.aload_n 0, 1) := by decide +kernel
theorem dX12_init_61 : decode cX12_init 61 = .ok (.sipush 1920, 3) := by decide +kernel
theorem dX12_init_64 : decode cX12_init 64 = .ok (.newarray .long, 2) := by decide +kernel
theorem dX12_init_66 : decode cX12_init 66 = .ok (.putfield 39, 3) := by decide +kernel
theorem wm_1687 : (Jvm.Cond.fieldLink "GrownKindsModel" (39 : Nat) "GrownKindsModel" "many" "[J") ∈ gT := gT_in (List.mem_of_getElem? (i := 1687) (by decide +kernel)) (by decide +kernel)
theorem dX12_init_69 : decode cX12_init 69 = .ok (.aload_n 0, 1) := by decide +kernel
theorem dX12_init_70 : decode cX12_init 70 = .ok (.sipush 1536, 3) := by decide +kernel
theorem dX12_init_73 : decode cX12_init 73 = .ok (.newarray .long, 2) := by decide +kernel
theorem dX12_init_75 : decode cX12_init 75 = .ok (.putfield 43, 3) := by decide +kernel
theorem wm_1688 : (Jvm.Cond.fieldLink "GrownKindsModel" (43 : Nat) "GrownKindsModel" "rest" "[J") ∈ gT := gT_in (List.mem_of_getElem? (i := 1688) (by decide +kernel)) (by decide +kernel)
theorem dX12_init_78 : decode cX12_init 78 = .ok (.aload_n 0, 1) := by decide +kernel
theorem dX12_init_79 : decode cX12_init 79 = .ok (.sipush 512, 3) := by decide +kernel
theorem dX12_init_82 : decode cX12_init 82 = .ok (.newarray .long, 2) := by decide +kernel
theorem dX12_init_84 : decode cX12_init 84 = .ok (.putfield 46, 3) := by decide +kernel
theorem wm_1689 : (Jvm.Cond.fieldLink "GrownKindsModel" (46 : Nat) "GrownKindsModel" "rows" "[J") ∈ gT := gT_in (List.mem_of_getElem? (i := 1689) (by decide +kernel)) (by decide +kernel)
theorem dX12_init_87 : decode cX12_init 87 = .ok (.aload_n 0, 1) := by decide +kernel
theorem dX12_init_88 : decode cX12_init 88 = .ok (.sipush 240, 3) := by decide +kernel
theorem dX12_init_91 : decode cX12_init 91 = .ok (.newarray .long, 2) := by decide +kernel
theorem dX12_init_93 : decode cX12_init 93 = .ok (.putfield 49, 3) := by decide +kernel
theorem wm_1690 : (Jvm.Cond.fieldLink "GrownKindsModel" (49 : Nat) "GrownKindsModel" "named" "[J") ∈ gT := gT_in (List.mem_of_getElem? (i := 1690) (by decide +kernel)) (by decide +kernel)
theorem dX12_init_96 : decode cX12_init 96 = .ok (.aload_n 0, 1) := by decide +kernel
theorem dX12_init_97 : decode cX12_init 97 = .ok (.sipush 192, 3) := by decide +kernel
theorem dX12_init_100 : decode cX12_init 100 = .ok (.newarray .long, 2) := by decide +kernel
theorem dX12_init_102 : decode cX12_init 102 = .ok (.putfield 52, 3) := by decide +kernel
theorem wm_1691 : (Jvm.Cond.fieldLink "GrownKindsModel" (52 : Nat) "GrownKindsModel" "namedRest" "[J") ∈ gT := gT_in (List.mem_of_getElem? (i := 1691) (by decide +kernel)) (by decide +kernel)
theorem dX12_init_105 : decode cX12_init 105 = .ok (.aload_n 0, 1) := by decide +kernel
theorem dX12_init_106 : decode cX12_init 106 = .ok (.bipush 64, 2) := by decide +kernel
theorem dX12_init_108 : decode cX12_init 108 = .ok (.newarray .long, 2) := by decide +kernel
theorem dX12_init_110 : decode cX12_init 110 = .ok (.putfield 55, 3) := by decide +kernel
theorem wm_1692 : (Jvm.Cond.fieldLink "GrownKindsModel" (55 : Nat) "GrownKindsModel" "namedRows" "[J") ∈ gT := gT_in (List.mem_of_getElem? (i := 1692) (by decide +kernel)) (by decide +kernel)
theorem dX12_init_113 : decode cX12_init 113 = .ok (.aload_n 0, 1) := by decide +kernel
theorem dX12_init_114 : decode cX12_init 114 = .ok (.bipush 40, 2) := by decide +kernel
theorem dX12_init_116 : decode cX12_init 116 = .ok (.newarray .int, 2) := by decide +kernel
theorem dX12_init_118 : decode cX12_init 118 = .ok (.putfield 58, 3) := by decide +kernel
theorem wm_1701 : (Jvm.Cond.fieldLink "GrownKindsModel" (58 : Nat) "GrownKindsModel" "spelled" "[I") ∈ gT := gT_in (List.mem_of_getElem? (i := 1701) (by decide +kernel)) (by decide +kernel)
theorem dX12_init_121 : decode cX12_init 121 = .ok (.aload_n 0, 1) := by decide +kernel
theorem dX12_init_122 : decode cX12_init 122 = .ok (.sipush 512, 3) := by decide +kernel
theorem dX12_init_125 : decode cX12_init 125 = .ok (.newarray .int, 2) := by decide +kernel
theorem dX12_init_127 : decode cX12_init 127 = .ok (.putfield 61, 3) := by decide +kernel
theorem wm_1702 : (Jvm.Cond.fieldLink "GrownKindsModel" (61 : Nat) "GrownKindsModel" "elSize" "[I") ∈ gT := gT_in (List.mem_of_getElem? (i := 1702) (by decide +kernel)) (by decide +kernel)
theorem dX12_init_130 : decode cX12_init 130 = .ok (.aload_n 0, 1) := by decide +kernel
theorem dX12_init_131 : decode cX12_init 131 = .ok (.sipush 512, 3) := by decide +kernel
theorem dX12_init_134 : decode cX12_init 134 = .ok (.newarray .int, 2) := by decide +kernel
theorem dX12_init_136 : decode cX12_init 136 = .ok (.putfield 64, 3) := by decide +kernel
theorem wm_1703 : (Jvm.Cond.fieldLink "GrownKindsModel" (64 : Nat) "GrownKindsModel" "elRank" "[I") ∈ gT := gT_in (List.mem_of_getElem? (i := 1703) (by decide +kernel)) (by decide +kernel)
theorem dX12_init_139 : decode cX12_init 139 = .ok (.aload_n 0, 1) := by decide +kernel
theorem dX12_init_140 : decode cX12_init 140 = .ok (.sipush 1024, 3) := by decide +kernel
theorem dX12_init_143 : decode cX12_init 143 = .ok (.newarray .int, 2) := by decide +kernel
theorem dX12_init_145 : decode cX12_init 145 = .ok (.putfield 67, 3) := by decide +kernel
theorem wm_1706 : (Jvm.Cond.fieldLink "GrownKindsModel" (67 : Nat) "GrownKindsModel" "nodeSort" "[I") ∈ gT := gT_in (List.mem_of_getElem? (i := 1706) (by decide +kernel)) (by decide +kernel)
theorem dX12_init_148 : decode cX12_init 148 = .ok (.aload_n 0, 1) := by decide +kernel
theorem dX12_init_149 : decode cX12_init 149 = .ok (.sipush 1024, 3) := by decide +kernel
theorem dX12_init_152 : decode cX12_init 152 = .ok (.newarray .int, 2) := by decide +kernel
theorem dX12_init_154 : decode cX12_init 154 = .ok (.putfield 70, 3) := by decide +kernel
theorem wm_1707 : (Jvm.Cond.fieldLink "GrownKindsModel" (70 : Nat) "GrownKindsModel" "nodeNum" "[I") ∈ gT := gT_in (List.mem_of_getElem? (i := 1707) (by decide +kernel)) (by decide +kernel)
theorem dX12_init_157 : decode cX12_init 157 = .ok (.aload_n 0, 1) := by decide +kernel
theorem dX12_init_158 : decode cX12_init 158 = .ok (.sipush 1024, 3) := by decide +kernel
theorem dX12_init_161 : decode cX12_init 161 = .ok (.newarray .int, 2) := by decide +kernel
theorem dX12_init_163 : decode cX12_init 163 = .ok (.putfield 73, 3) := by decide +kernel
theorem wm_1708 : (Jvm.Cond.fieldLink "GrownKindsModel" (73 : Nat) "GrownKindsModel" "nodeSize" "[I") ∈ gT := gT_in (List.mem_of_getElem? (i := 1708) (by decide +kernel)) (by decide +kernel)
theorem dX12_init_166 : decode cX12_init 166 = .ok (.aload_n 0, 1) := by decide +kernel
theorem dX12_init_167 : decode cX12_init 167 = .ok (.sipush 1024, 3) := by decide +kernel
theorem dX12_init_170 : decode cX12_init 170 = .ok (.newarray .int, 2) := by decide +kernel
theorem dX12_init_172 : decode cX12_init 172 = .ok (.putfield 76, 3) := by decide +kernel
theorem wm_1709 : (Jvm.Cond.fieldLink "GrownKindsModel" (76 : Nat) "GrownKindsModel" "nodeFirst" "[I") ∈ gT := gT_in (List.mem_of_getElem? (i := 1709) (by decide +kernel)) (by decide +kernel)
theorem dX12_init_175 : decode cX12_init 175 = .ok (.aload_n 0, 1) := by decide +kernel
theorem dX12_init_176 : decode cX12_init 176 = .ok (.sipush 1024, 3) := by decide +kernel
theorem dX12_init_179 : decode cX12_init 179 = .ok (.newarray .int, 2) := by decide +kernel
theorem dX12_init_181 : decode cX12_init 181 = .ok (.putfield 79, 3) := by decide +kernel
theorem wm_1710 : (Jvm.Cond.fieldLink "GrownKindsModel" (79 : Nat) "GrownKindsModel" "nodeNext" "[I") ∈ gT := gT_in (List.mem_of_getElem? (i := 1710) (by decide +kernel)) (by decide +kernel)
theorem dX12_init_184 : decode cX12_init 184 = .ok (.aload_n 0, 1) := by decide +kernel
theorem dX12_init_185 : decode cX12_init 185 = .ok (.bipush 40, 2) := by decide +kernel
theorem dX12_init_187 : decode cX12_init 187 = .ok (.newarray .int, 2) := by decide +kernel
theorem dX12_init_189 : decode cX12_init 189 = .ok (.putfield 82, 3) := by decide +kernel
theorem wm_1712 : (Jvm.Cond.fieldLink "GrownKindsModel" (82 : Nat) "GrownKindsModel" "source" "[I") ∈ gT := gT_in (List.mem_of_getElem? (i := 1712) (by decide +kernel)) (by decide +kernel)
theorem dX12_init_192 : decode cX12_init 192 = .ok (.aload_n 0, 1) := by decide +kernel
theorem dX12_init_193 : decode cX12_init 193 = .ok (.iconst (-1), 1) := by decide +kernel
theorem dX12_init_194 : decode cX12_init 194 = .ok (.putfield 85, 3) := by decide +kernel
theorem wm_1715 : (Jvm.Cond.fieldLink "GrownKindsModel" (85 : Nat) "GrownKindsModel" "toldSize" "I") ∈ gT := gT_in (List.mem_of_getElem? (i := 1715) (by decide +kernel)) (by decide +kernel)
theorem dX12_init_197 : decode cX12_init 197 = .ok (.aload_n 0, 1) := by decide +kernel
theorem dX12_init_198 : decode cX12_init 198 = .ok (.iconst (-1), 1) := by decide +kernel
theorem dX12_init_199 : decode cX12_init 199 = .ok (.putfield 88, 3) := by decide +kernel
theorem wm_1716 : (Jvm.Cond.fieldLink "GrownKindsModel" (88 : Nat) "GrownKindsModel" "toldRank" "I") ∈ gT := gT_in (List.mem_of_getElem? (i := 1716) (by decide +kernel)) (by decide +kernel)
theorem dX12_init_202 : decode cX12_init 202 = .ok (.aload_n 0, 1) := by decide +kernel
theorem dX12_init_203 : decode cX12_init 203 = .ok (.invokevirtual 91, 3) := by decide +kernel
theorem wm_1669 : (Jvm.Cond.methodLink "GrownKindsModel" (91 : Nat) ({ cls := "GrownKindsModel", name := "clears", desc := "()V" } : Jvm.MethodName)) ∈ gT := gT_in (List.mem_of_getElem? (i := 1669) (by decide +kernel)) (by decide +kernel)
theorem wm_1671 : (Jvm.Cond.instanceMethod ({ cls := "GrownKindsModel", name := "clears", desc := "()V" } : Jvm.MethodName)) ∈ gT := gT_in (List.mem_of_getElem? (i := 1671) (by decide +kernel)) (by decide +kernel)
theorem wm_87 : Cond.selects "GrownKindsModel" ⟨"GrownKindsModel", "clears", "()V"⟩ ⟨"GrownKindsModel", "clears", "()V"⟩ ∈ gT := gT_in (List.mem_of_getElem? (i := 87) (by decide +kernel)) (by decide +kernel)
theorem wm_188 : (Jvm.Cond.initialized "GrownKindsModel") ∈ gT := gT_in (List.mem_of_getElem? (i := 188) (by decide +kernel)) (by decide +kernel)
theorem wm_1672 : (Jvm.Cond.code ({ cls := "GrownKindsModel", name := "clears", desc := "()V" } : Jvm.MethodName) prog_14_method_7_code (2 : Nat) (Option.none : Option Jvm.ClassFile.FieldType)) ∈ gT := gT_in (List.mem_of_getElem? (i := 1672) (by decide +kernel)) (by decide +kernel)
theorem dX12_init_206 : decode cX12_init 206 = .ok (.return_, 1) := by decide +kernel
set_option maxHeartbeats 4000000 in
set_option maxRecDepth 100000 in
theorem qX12_clears (l : Launch) {D : va_G} {cy : Nat → ClassId} {b n : Nat} (hn : 102 ≤ n) {E : Nat → va_E} {vs : List Value} {f0 : Nat → Int32} (h83 : E 80 = .inr (12, vs)) (hv : vs[0]? = some (.ref (b + 81))) (h84 : E 81 = .inl (cy 1, 228, .inl f0)) : gV l yX12_clears cX12_clears 2 0 0 0 D cy b n E [.ref (b + 80)] (fun u => u.1 = n ∧ u.2 = upE E 81 (.inl (cy 1, 228, .inl memI))) := by
  refine gV_of (by decide) (Nat.le_of_ble_eq_true rfl) ?_
  intro p e s m args below meth c S hr hlk hin hsz ls hl hG
  have hx := S.1
  have hb := S.2.1
  have hl : lv_has ls 2 [(0, .ref (b + 80))] := hl
  have loop : ∀ (t k : Nat) (f : Nat → Int32) (H : Heap) (locs : List Loc) (ls : Array Slot), k ≤ 228 → 229 ≤ k + t → (∀ j, j < k → f j = memI j) → gW D cy b n s H locs (upE E 81 (.inl (cy 1, 228, .inl f))) → lv_has ls 2 [(1, .int (nI k)), (0, .ref (b + 80))] → W p l e (gRm 0 0 0) s m args below meth c H locs 0 0 (gQV D cy b s args below 0 0 (fun u => u.1 = n ∧ u.2 = upE E 81 (.inl (cy 1, 228, .inl memI)))) (F0 m 2 ls []) := by
    intro t
    induction t with
    | zero => intro k f H locs ls h1 h2; exact absurd h2 (by omega)
    | succ t ih =>
      intro k f H locs ls hk ht hf hG hl
      refine lv_iload_n hx hb dX12_clears_2 rfl (lv_at hl 0 rfl) ?_
      refine lv_sipush (v := 228) hx hb dX12_clears_3 (by decide) ?_
      refine lv_icmp_ge (tgt := 39) hx hb dX12_clears_6 (by decide) (fun c1 => ?_) (fun c1 => ?_)
      · have hk2 : k = 228 := by have := (i32_k (N := 228) rfl (by omega) (by omega)).mp c1; omega
        subst hk2
        have hG := gW_eq (gW_ci (g := memI) hG upE_s (by omega) hf) upE_i
        exact g_vret S hr hlk hG (by omega) dX12_clears_39 ⟨Nat.le_refl 0, Nat.le_refl 0⟩ ⟨rfl, rfl⟩
      · have hk2 : k < 228 := by have := mt (i32_k (N := 228) rfl (by omega) (by omega)).mpr c1; omega
        refine lv_aload_n hx hb dX12_clears_9 rfl (lv_at hl 1 rfl) ?_
        refine g_get S hG 80 0 h83 cpX12 wm_1673 dX12_clears_10 hv (by omega) (by decide) ?_
        refine lv_iload_n hx hb dX12_clears_13 rfl (lv_at hl 0 rfl) ?_
        refine lv_iload_n hx hb dX12_clears_14 rfl (lv_at hl 0 rfl) ?_
        refine lv_bipush (v := 96) hx hb dX12_clears_15 (by decide) ?_
        have fin : ∀ x : Int32, x = memI k → W p l e (gRm 0 0 0) s m args below meth c H locs 0 0 (gQV D cy b s args below 0 0 (fun u => u.1 = n ∧ u.2 = upE E 81 (.inl (cy 1, 228, .inl memI)))) (F0 m 32 ls [.int x, .int (nI k), .ref (b + 81)]) := by
          intro x ex
          refine g_iast S hG 81 upE_s (by omega) dX12_clears_32 (vp_in_nI hk2 (by omega)) (fun H locs hG => ?_)
          rw [upE_i, nI_clamp (by omega)] at hG
          refine lv_iinc (v := nI (k + 1)) (lv' := [(1, .int (nI (k + 1))), (0, .ref (b + 80))]) hx hb dX12_clears_33 hl (k := 0) rfl (nI_1 k) (by decide) rfl (fun ls hl => ?_)
          refine lv_goto (tgt := 2) hx hb dX12_clears_36 (by decide) ?_
          refine ih (k + 1) _ H locs ls (by omega) (by omega) (fun j hj => ?_) hG hl
          by_cases hjk : j = k
          · subst hjk; rw [pk_us]; exact ex
          · rw [pk_un hjk]; exact hf j (by omega)
        refine lv_icmp_lt (tgt := 31) hx hb dX12_clears_17 (by decide) (fun c2 => ?_) (fun c2 => ?_)
        · have := (i32_l (N := 96) rfl (by omega) (by omega)).mp c2
          refine lv_iconst (v := 0) hx hb dX12_clears_31 (by decide) ?_
          exact fin 0 (by unfold memI; rw [if_neg (by omega)])
        · have h96 := mt (i32_l (N := 96) rfl (by omega) (by omega)).mpr c2
          refine lv_iload_n hx hb dX12_clears_20 rfl (lv_at hl 0 rfl) ?_
          refine lv_sipush (v := 198) hx hb dX12_clears_21 (by decide) ?_
          refine lv_icmp_ge (tgt := 31) hx hb dX12_clears_24 (by decide) (fun c3 => ?_) (fun c3 => ?_)
          · have := (i32_k (N := 198) rfl (by omega) (by omega)).mp c3
            refine lv_iconst (v := 0) hx hb dX12_clears_31 (by decide) ?_
            exact fin 0 (by unfold memI; rw [if_neg (by omega)])
          · have := mt (i32_k (N := 198) rfl (by omega) (by omega)).mpr c3
            refine lv_iconst (v := -1) hx hb dX12_clears_27 (by decide) ?_
            refine lv_goto (tgt := 32) hx hb dX12_clears_28 (by decide) ?_
            exact fin (-1) (by unfold memI; rw [if_pos (by omega)])
  refine lv_iconst (v := 0) hx hb dX12_clears_0 (by decide) ?_
  refine lv_istore_n (lv' := [(1, .int (nI 0)), (0, .ref (b + 80))]) hx hb dX12_clears_1 rfl hl (by decide) rfl (fun ls hl => ?_)
  exact loop 229 0 f0 s.heap [] ls (by omega) (by omega) (fun j hj => absurd hj (by omega)) (gW_eq hG (upE_same h84).symm) hl
theorem wV_12_91 : gWV "GrownKindsModel" 91 yX12_clears cX12_clears 2 none := ⟨wm_1669, wm_1671, wm_87, wm_188, wm_1672, by decide +kernel, by decide +kernel⟩
set_option maxHeartbeats 4000000 in
set_option maxRecDepth 100000 in
theorem kX12_init_80 (l : Launch) {D : va_G} {cy : Nat → ClassId} {b : Nat} {E : Nat → va_E} (h80 : E 80 = .inr (12, [.null, .null, .null, .int 0, .int 0, .int 0, .int 0, .int 0, .int 0, .int 0, .int 0, .null, .null, .null, .null, .null, .null, .null, .null, .null, .int 0, .int 0, .int 0, .int 0, .int 0, .int 0, .int 0, .int 0, .null, .null, .null, .int 0, .long 0, .null, .null, .null, .null, .null, .int 0, .null, .int 0, .int 0, .int 0, .int 0, .int 0, .int 0, .int 0, .int 0, .int 0, .int 0, .int 0, .int 0])) : gV l yX12_init cX12_init 1 2 21 11628 D cy b 81 E [.ref (b + 80)] (fun u => u.1 = 102 ∧ (∀ j, j < 81 → j ≠ 80 → u.2 j = E j) ∧ u.2 80 = .inr (12, [.ref (b + 81), .ref (b + 82), .ref (b + 83), .int 0, .int 0, .int (-1), .int 0, .int 0, .int 0, .int 0, .int 0, .ref (b + 84), .ref (b + 85), .ref (b + 86), .ref (b + 87), .ref (b + 88), .ref (b + 89), .ref (b + 90), .ref (b + 91), .ref (b + 92), .int 0, .int 0, .int 0, .int 0, .int 0, .int 0, .int 0, .int 0, .ref (b + 93), .ref (b + 94), .ref (b + 95), .int 0, .long 0, .ref (b + 96), .ref (b + 97), .ref (b + 98), .ref (b + 99), .ref (b + 100), .int 0, .ref (b + 101), .int 0, .int 0, .int (-1), .int (-1), .int 0, .int 0, .int 0, .int 0, .int 0, .int 0, .int 0, .int 0]) ∧ u.2 81 = .inl (cy 1, 228, .inl memI) ∧ u.2 82 = .inl (cy 1, 228, .inl (fun _ => 0)) ∧ u.2 83 = .inl (cy 1, 400, .inl (fun _ => 0)) ∧ u.2 84 = .inl (cy 1, 48, .inl (fun _ => 0)) ∧ u.2 85 = .inl (cy 1, 6, .inl (fun _ => 0)) ∧ u.2 86 = .inl (cy 3, 30, .inl (fun _ => 0)) ∧ u.2 87 = .inl (cy 2, 1920, .inr (.inl (fun _ => 0))) ∧ u.2 88 = .inl (cy 2, 1536, .inr (.inl (fun _ => 0))) ∧ u.2 89 = .inl (cy 2, 512, .inr (.inl (fun _ => 0))) ∧ u.2 90 = .inl (cy 2, 240, .inr (.inl (fun _ => 0))) ∧ u.2 91 = .inl (cy 2, 192, .inr (.inl (fun _ => 0))) ∧ u.2 92 = .inl (cy 2, 64, .inr (.inl (fun _ => 0))) ∧ u.2 93 = .inl (cy 1, 40, .inl (fun _ => 0)) ∧ u.2 94 = .inl (cy 1, 512, .inl (fun _ => 0)) ∧ u.2 95 = .inl (cy 1, 512, .inl (fun _ => 0)) ∧ u.2 96 = .inl (cy 1, 1024, .inl (fun _ => 0)) ∧ u.2 97 = .inl (cy 1, 1024, .inl (fun _ => 0)) ∧ u.2 98 = .inl (cy 1, 1024, .inl (fun _ => 0)) ∧ u.2 99 = .inl (cy 1, 1024, .inl (fun _ => 0)) ∧ u.2 100 = .inl (cy 1, 1024, .inl (fun _ => 0)) ∧ u.2 101 = .inl (cy 1, 40, .inl (fun _ => 0))) := by
  refine gV_of (by decide) (Nat.le_of_ble_eq_true rfl) ?_
  intro p e s m args below meth c S hr hlk hin hsz ls hl hG
  have hx := S.1
  have hb := S.2.1
  have hl : lv_has ls 1 [(0, .ref (b + 80))] := hl
  refine lv_aload_n hx hb dX12_init_0 rfl (lv_at hl 0 rfl) ?_
  refine g_objInit S wm_1668 wm_204 wm_205 hl.1 dX12_init_1 ⟨Nat.le_of_ble_eq_true rfl, Nat.le_of_ble_eq_true rfl⟩ ?_
  refine lv_aload_n hx hb dX12_init_4 rfl (lv_at hl 0 rfl) ?_
  refine lv_sipush (v := 228) hx hb dX12_init_5 (by decide) ?_
  refine g_newa (atype := .int) (ty := .int) (N := 228) (a0 := (228, .inl (fun _ => 0))) S hG (by omega) 1 rfl rfl (fun h => h) wm_306 (fun _ => rfl) dX12_init_8 (by decide) (by decide) (by decide) ⟨Nat.le_of_ble_eq_true rfl, Nat.le_of_ble_eq_true rfl⟩ (fun H hG => ?_)
  refine W.widen (k := 1) (n := 228) (Nat.le_of_ble_eq_true rfl) (Nat.le_of_ble_eq_true rfl) ?_
  refine g_put (fs' := [.ref (b + 81), .null, .null, .int 0, .int 0, .int 0, .int 0, .int 0, .int 0, .int 0, .int 0, .null, .null, .null, .null, .null, .null, .null, .null, .null, .int 0, .int 0, .int 0, .int 0, .int 0, .int 0, .int 0, .int 0, .null, .null, .null, .int 0, .long 0, .null, .null, .null, .null, .null, .int 0, .null, .int 0, .int 0, .int 0, .int 0, .int 0, .int 0, .int 0, .int 0, .int 0, .int 0, .int 0, .int 0]) S hG 80 0 h80 cpX12 wm_1673 dX12_init_10 rfl (by omega) (by decide) (Nat.le_of_ble_eq_true rfl) rfl rfl rfl (fun H locs hG => ?_)
  refine lv_aload_n hx hb dX12_init_13 rfl (lv_at hl 0 rfl) ?_
  refine lv_sipush (v := 228) hx hb dX12_init_14 (by decide) ?_
  refine g_newa (atype := .int) (ty := .int) (N := 228) (a0 := (228, .inl (fun _ => 0))) S hG (by omega) 1 rfl rfl (fun h => h) wm_306 (fun _ => rfl) dX12_init_17 (by decide) (by decide) (by decide) ⟨Nat.le_of_ble_eq_true rfl, Nat.le_of_ble_eq_true rfl⟩ (fun H hG => ?_)
  refine W.widen (k := 2) (n := 456) (Nat.le_of_ble_eq_true rfl) (Nat.le_of_ble_eq_true rfl) ?_
  refine g_putF (fs' := [.ref (b + 81), .ref (b + 82), .null, .int 0, .int 0, .int 0, .int 0, .int 0, .int 0, .int 0, .int 0, .null, .null, .null, .null, .null, .null, .null, .null, .null, .int 0, .int 0, .int 0, .int 0, .int 0, .int 0, .int 0, .int 0, .null, .null, .null, .int 0, .long 0, .null, .null, .null, .null, .null, .int 0, .null, .int 0, .int 0, .int 0, .int 0, .int 0, .int 0, .int 0, .int 0, .int 0, .int 0, .int 0, .int 0]) S hG (hin rfl) 80 1 rfl cpX12 wm_1674 dX12_init_19 rfl (by omega) (by decide) (Nat.le_of_ble_eq_true rfl) rfl rfl rfl rfl (fun H locs hG => ?_)
  refine lv_aload_n hx hb dX12_init_22 rfl (lv_at hl 0 rfl) ?_
  refine lv_sipush (v := 400) hx hb dX12_init_23 (by decide) ?_
  refine g_newa (atype := .int) (ty := .int) (N := 400) (a0 := (400, .inl (fun _ => 0))) S hG (by omega) 1 rfl rfl (fun h => h) wm_306 (fun _ => rfl) dX12_init_26 (by decide) (by decide) (by decide) ⟨Nat.le_of_ble_eq_true rfl, Nat.le_of_ble_eq_true rfl⟩ (fun H hG => ?_)
  refine W.widen (k := 3) (n := 856) (Nat.le_of_ble_eq_true rfl) (Nat.le_of_ble_eq_true rfl) ?_
  refine g_putF (fs' := [.ref (b + 81), .ref (b + 82), .ref (b + 83), .int 0, .int 0, .int 0, .int 0, .int 0, .int 0, .int 0, .int 0, .null, .null, .null, .null, .null, .null, .null, .null, .null, .int 0, .int 0, .int 0, .int 0, .int 0, .int 0, .int 0, .int 0, .null, .null, .null, .int 0, .long 0, .null, .null, .null, .null, .null, .int 0, .null, .int 0, .int 0, .int 0, .int 0, .int 0, .int 0, .int 0, .int 0, .int 0, .int 0, .int 0, .int 0]) S hG (hin rfl) 80 2 rfl cpX12 wm_1675 dX12_init_28 rfl (by omega) (by decide) (Nat.le_of_ble_eq_true rfl) rfl rfl rfl rfl (fun H locs hG => ?_)
  refine lv_aload_n hx hb dX12_init_31 rfl (lv_at hl 0 rfl) ?_
  refine lv_iconst (v := (-1)) hx hb dX12_init_32 (by decide) ?_
  refine g_put (fs' := [.ref (b + 81), .ref (b + 82), .ref (b + 83), .int 0, .int 0, .int (-1), .int 0, .int 0, .int 0, .int 0, .int 0, .null, .null, .null, .null, .null, .null, .null, .null, .null, .int 0, .int 0, .int 0, .int 0, .int 0, .int 0, .int 0, .int 0, .null, .null, .null, .int 0, .long 0, .null, .null, .null, .null, .null, .int 0, .null, .int 0, .int 0, .int 0, .int 0, .int 0, .int 0, .int 0, .int 0, .int 0, .int 0, .int 0, .int 0]) S hG 80 5 rfl cpX12 wm_1678 dX12_init_33 rfl (by omega) (by decide) (Nat.le_of_ble_eq_true rfl) rfl rfl rfl (fun H locs hG => ?_)
  refine lv_aload_n hx hb dX12_init_36 rfl (lv_at hl 0 rfl) ?_
  refine lv_bipush (v := 48) hx hb dX12_init_37 (by decide) ?_
  refine g_newa (atype := .int) (ty := .int) (N := 48) (a0 := (48, .inl (fun _ => 0))) S hG (by omega) 1 rfl rfl (fun h => h) wm_306 (fun _ => rfl) dX12_init_39 (by decide) (by decide) (by decide) ⟨Nat.le_of_ble_eq_true rfl, Nat.le_of_ble_eq_true rfl⟩ (fun H hG => ?_)
  refine W.widen (k := 4) (n := 904) (Nat.le_of_ble_eq_true rfl) (Nat.le_of_ble_eq_true rfl) ?_
  refine g_putF (fs' := [.ref (b + 81), .ref (b + 82), .ref (b + 83), .int 0, .int 0, .int (-1), .int 0, .int 0, .int 0, .int 0, .int 0, .ref (b + 84), .null, .null, .null, .null, .null, .null, .null, .null, .int 0, .int 0, .int 0, .int 0, .int 0, .int 0, .int 0, .int 0, .null, .null, .null, .int 0, .long 0, .null, .null, .null, .null, .null, .int 0, .null, .int 0, .int 0, .int 0, .int 0, .int 0, .int 0, .int 0, .int 0, .int 0, .int 0, .int 0, .int 0]) S hG (hin rfl) 80 11 rfl cpX12 wm_1684 dX12_init_41 rfl (by omega) (by decide) (Nat.le_of_ble_eq_true rfl) rfl rfl rfl rfl (fun H locs hG => ?_)
  refine lv_aload_n hx hb dX12_init_44 rfl (lv_at hl 0 rfl) ?_
  refine lv_bipush (v := 6) hx hb dX12_init_45 (by decide) ?_
  refine g_newa (atype := .int) (ty := .int) (N := 6) (a0 := (6, .inl (fun _ => 0))) S hG (by omega) 1 rfl rfl (fun h => h) wm_306 (fun _ => rfl) dX12_init_47 (by decide) (by decide) (by decide) ⟨Nat.le_of_ble_eq_true rfl, Nat.le_of_ble_eq_true rfl⟩ (fun H hG => ?_)
  refine W.widen (k := 5) (n := 910) (Nat.le_of_ble_eq_true rfl) (Nat.le_of_ble_eq_true rfl) ?_
  refine g_putF (fs' := [.ref (b + 81), .ref (b + 82), .ref (b + 83), .int 0, .int 0, .int (-1), .int 0, .int 0, .int 0, .int 0, .int 0, .ref (b + 84), .ref (b + 85), .null, .null, .null, .null, .null, .null, .null, .int 0, .int 0, .int 0, .int 0, .int 0, .int 0, .int 0, .int 0, .null, .null, .null, .int 0, .long 0, .null, .null, .null, .null, .null, .int 0, .null, .int 0, .int 0, .int 0, .int 0, .int 0, .int 0, .int 0, .int 0, .int 0, .int 0, .int 0, .int 0]) S hG (hin rfl) 80 12 rfl cpX12 wm_1685 dX12_init_49 rfl (by omega) (by decide) (Nat.le_of_ble_eq_true rfl) rfl rfl rfl rfl (fun H locs hG => ?_)
  refine lv_aload_n hx hb dX12_init_52 rfl (lv_at hl 0 rfl) ?_
  refine lv_bipush (v := 30) hx hb dX12_init_53 (by decide) ?_
  refine g_newa (atype := .boolean) (ty := .boolean) (N := 30) (a0 := (30, .inl (fun _ => 0))) S hG (by omega) 3 rfl rfl (fun h => h) wm_1830 (fun _ => rfl) dX12_init_55 (by decide) (by decide) (by decide) ⟨Nat.le_of_ble_eq_true rfl, Nat.le_of_ble_eq_true rfl⟩ (fun H hG => ?_)
  refine W.widen (k := 6) (n := 940) (Nat.le_of_ble_eq_true rfl) (Nat.le_of_ble_eq_true rfl) ?_
  refine g_putF (fs' := [.ref (b + 81), .ref (b + 82), .ref (b + 83), .int 0, .int 0, .int (-1), .int 0, .int 0, .int 0, .int 0, .int 0, .ref (b + 84), .ref (b + 85), .ref (b + 86), .null, .null, .null, .null, .null, .null, .int 0, .int 0, .int 0, .int 0, .int 0, .int 0, .int 0, .int 0, .null, .null, .null, .int 0, .long 0, .null, .null, .null, .null, .null, .int 0, .null, .int 0, .int 0, .int 0, .int 0, .int 0, .int 0, .int 0, .int 0, .int 0, .int 0, .int 0, .int 0]) S hG (hin rfl) 80 13 rfl cpX12 wm_1686 dX12_init_57 rfl (by omega) (by decide) (Nat.le_of_ble_eq_true rfl) rfl rfl rfl rfl (fun H locs hG => ?_)
  refine lv_aload_n hx hb dX12_init_60 rfl (lv_at hl 0 rfl) ?_
  refine lv_sipush (v := 1920) hx hb dX12_init_61 (by decide) ?_
  refine g_newa (atype := .long) (ty := .long) (N := 1920) (a0 := (1920, .inr (.inl (fun _ => 0)))) S hG (by omega) 2 rfl rfl (fun h => h) wm_428 (fun _ => rfl) dX12_init_64 (by decide) (by decide) (by decide) ⟨Nat.le_of_ble_eq_true rfl, Nat.le_of_ble_eq_true rfl⟩ (fun H hG => ?_)
  refine W.widen (k := 7) (n := 2860) (Nat.le_of_ble_eq_true rfl) (Nat.le_of_ble_eq_true rfl) ?_
  refine g_putF (fs' := [.ref (b + 81), .ref (b + 82), .ref (b + 83), .int 0, .int 0, .int (-1), .int 0, .int 0, .int 0, .int 0, .int 0, .ref (b + 84), .ref (b + 85), .ref (b + 86), .ref (b + 87), .null, .null, .null, .null, .null, .int 0, .int 0, .int 0, .int 0, .int 0, .int 0, .int 0, .int 0, .null, .null, .null, .int 0, .long 0, .null, .null, .null, .null, .null, .int 0, .null, .int 0, .int 0, .int 0, .int 0, .int 0, .int 0, .int 0, .int 0, .int 0, .int 0, .int 0, .int 0]) S hG (hin rfl) 80 14 rfl cpX12 wm_1687 dX12_init_66 rfl (by omega) (by decide) (Nat.le_of_ble_eq_true rfl) rfl rfl rfl rfl (fun H locs hG => ?_)
  refine lv_aload_n hx hb dX12_init_69 rfl (lv_at hl 0 rfl) ?_
  refine lv_sipush (v := 1536) hx hb dX12_init_70 (by decide) ?_
  refine g_newa (atype := .long) (ty := .long) (N := 1536) (a0 := (1536, .inr (.inl (fun _ => 0)))) S hG (by omega) 2 rfl rfl (fun h => h) wm_428 (fun _ => rfl) dX12_init_73 (by decide) (by decide) (by decide) ⟨Nat.le_of_ble_eq_true rfl, Nat.le_of_ble_eq_true rfl⟩ (fun H hG => ?_)
  refine W.widen (k := 8) (n := 4396) (Nat.le_of_ble_eq_true rfl) (Nat.le_of_ble_eq_true rfl) ?_
  refine g_putF (fs' := [.ref (b + 81), .ref (b + 82), .ref (b + 83), .int 0, .int 0, .int (-1), .int 0, .int 0, .int 0, .int 0, .int 0, .ref (b + 84), .ref (b + 85), .ref (b + 86), .ref (b + 87), .ref (b + 88), .null, .null, .null, .null, .int 0, .int 0, .int 0, .int 0, .int 0, .int 0, .int 0, .int 0, .null, .null, .null, .int 0, .long 0, .null, .null, .null, .null, .null, .int 0, .null, .int 0, .int 0, .int 0, .int 0, .int 0, .int 0, .int 0, .int 0, .int 0, .int 0, .int 0, .int 0]) S hG (hin rfl) 80 15 rfl cpX12 wm_1688 dX12_init_75 rfl (by omega) (by decide) (Nat.le_of_ble_eq_true rfl) rfl rfl rfl rfl (fun H locs hG => ?_)
  refine lv_aload_n hx hb dX12_init_78 rfl (lv_at hl 0 rfl) ?_
  refine lv_sipush (v := 512) hx hb dX12_init_79 (by decide) ?_
  refine g_newa (atype := .long) (ty := .long) (N := 512) (a0 := (512, .inr (.inl (fun _ => 0)))) S hG (by omega) 2 rfl rfl (fun h => h) wm_428 (fun _ => rfl) dX12_init_82 (by decide) (by decide) (by decide) ⟨Nat.le_of_ble_eq_true rfl, Nat.le_of_ble_eq_true rfl⟩ (fun H hG => ?_)
  refine W.widen (k := 9) (n := 4908) (Nat.le_of_ble_eq_true rfl) (Nat.le_of_ble_eq_true rfl) ?_
  refine g_putF (fs' := [.ref (b + 81), .ref (b + 82), .ref (b + 83), .int 0, .int 0, .int (-1), .int 0, .int 0, .int 0, .int 0, .int 0, .ref (b + 84), .ref (b + 85), .ref (b + 86), .ref (b + 87), .ref (b + 88), .ref (b + 89), .null, .null, .null, .int 0, .int 0, .int 0, .int 0, .int 0, .int 0, .int 0, .int 0, .null, .null, .null, .int 0, .long 0, .null, .null, .null, .null, .null, .int 0, .null, .int 0, .int 0, .int 0, .int 0, .int 0, .int 0, .int 0, .int 0, .int 0, .int 0, .int 0, .int 0]) S hG (hin rfl) 80 16 rfl cpX12 wm_1689 dX12_init_84 rfl (by omega) (by decide) (Nat.le_of_ble_eq_true rfl) rfl rfl rfl rfl (fun H locs hG => ?_)
  refine lv_aload_n hx hb dX12_init_87 rfl (lv_at hl 0 rfl) ?_
  refine lv_sipush (v := 240) hx hb dX12_init_88 (by decide) ?_
  refine g_newa (atype := .long) (ty := .long) (N := 240) (a0 := (240, .inr (.inl (fun _ => 0)))) S hG (by omega) 2 rfl rfl (fun h => h) wm_428 (fun _ => rfl) dX12_init_91 (by decide) (by decide) (by decide) ⟨Nat.le_of_ble_eq_true rfl, Nat.le_of_ble_eq_true rfl⟩ (fun H hG => ?_)
  refine W.widen (k := 10) (n := 5148) (Nat.le_of_ble_eq_true rfl) (Nat.le_of_ble_eq_true rfl) ?_
  refine g_putF (fs' := [.ref (b + 81), .ref (b + 82), .ref (b + 83), .int 0, .int 0, .int (-1), .int 0, .int 0, .int 0, .int 0, .int 0, .ref (b + 84), .ref (b + 85), .ref (b + 86), .ref (b + 87), .ref (b + 88), .ref (b + 89), .ref (b + 90), .null, .null, .int 0, .int 0, .int 0, .int 0, .int 0, .int 0, .int 0, .int 0, .null, .null, .null, .int 0, .long 0, .null, .null, .null, .null, .null, .int 0, .null, .int 0, .int 0, .int 0, .int 0, .int 0, .int 0, .int 0, .int 0, .int 0, .int 0, .int 0, .int 0]) S hG (hin rfl) 80 17 rfl cpX12 wm_1690 dX12_init_93 rfl (by omega) (by decide) (Nat.le_of_ble_eq_true rfl) rfl rfl rfl rfl (fun H locs hG => ?_)
  refine lv_aload_n hx hb dX12_init_96 rfl (lv_at hl 0 rfl) ?_
  refine lv_sipush (v := 192) hx hb dX12_init_97 (by decide) ?_
  refine g_newa (atype := .long) (ty := .long) (N := 192) (a0 := (192, .inr (.inl (fun _ => 0)))) S hG (by omega) 2 rfl rfl (fun h => h) wm_428 (fun _ => rfl) dX12_init_100 (by decide) (by decide) (by decide) ⟨Nat.le_of_ble_eq_true rfl, Nat.le_of_ble_eq_true rfl⟩ (fun H hG => ?_)
  refine W.widen (k := 11) (n := 5340) (Nat.le_of_ble_eq_true rfl) (Nat.le_of_ble_eq_true rfl) ?_
  refine g_putF (fs' := [.ref (b + 81), .ref (b + 82), .ref (b + 83), .int 0, .int 0, .int (-1), .int 0, .int 0, .int 0, .int 0, .int 0, .ref (b + 84), .ref (b + 85), .ref (b + 86), .ref (b + 87), .ref (b + 88), .ref (b + 89), .ref (b + 90), .ref (b + 91), .null, .int 0, .int 0, .int 0, .int 0, .int 0, .int 0, .int 0, .int 0, .null, .null, .null, .int 0, .long 0, .null, .null, .null, .null, .null, .int 0, .null, .int 0, .int 0, .int 0, .int 0, .int 0, .int 0, .int 0, .int 0, .int 0, .int 0, .int 0, .int 0]) S hG (hin rfl) 80 18 rfl cpX12 wm_1691 dX12_init_102 rfl (by omega) (by decide) (Nat.le_of_ble_eq_true rfl) rfl rfl rfl rfl (fun H locs hG => ?_)
  refine lv_aload_n hx hb dX12_init_105 rfl (lv_at hl 0 rfl) ?_
  refine lv_bipush (v := 64) hx hb dX12_init_106 (by decide) ?_
  refine g_newa (atype := .long) (ty := .long) (N := 64) (a0 := (64, .inr (.inl (fun _ => 0)))) S hG (by omega) 2 rfl rfl (fun h => h) wm_428 (fun _ => rfl) dX12_init_108 (by decide) (by decide) (by decide) ⟨Nat.le_of_ble_eq_true rfl, Nat.le_of_ble_eq_true rfl⟩ (fun H hG => ?_)
  refine W.widen (k := 12) (n := 5404) (Nat.le_of_ble_eq_true rfl) (Nat.le_of_ble_eq_true rfl) ?_
  refine g_putF (fs' := [.ref (b + 81), .ref (b + 82), .ref (b + 83), .int 0, .int 0, .int (-1), .int 0, .int 0, .int 0, .int 0, .int 0, .ref (b + 84), .ref (b + 85), .ref (b + 86), .ref (b + 87), .ref (b + 88), .ref (b + 89), .ref (b + 90), .ref (b + 91), .ref (b + 92), .int 0, .int 0, .int 0, .int 0, .int 0, .int 0, .int 0, .int 0, .null, .null, .null, .int 0, .long 0, .null, .null, .null, .null, .null, .int 0, .null, .int 0, .int 0, .int 0, .int 0, .int 0, .int 0, .int 0, .int 0, .int 0, .int 0, .int 0, .int 0]) S hG (hin rfl) 80 19 rfl cpX12 wm_1692 dX12_init_110 rfl (by omega) (by decide) (Nat.le_of_ble_eq_true rfl) rfl rfl rfl rfl (fun H locs hG => ?_)
  refine lv_aload_n hx hb dX12_init_113 rfl (lv_at hl 0 rfl) ?_
  refine lv_bipush (v := 40) hx hb dX12_init_114 (by decide) ?_
  refine g_newa (atype := .int) (ty := .int) (N := 40) (a0 := (40, .inl (fun _ => 0))) S hG (by omega) 1 rfl rfl (fun h => h) wm_306 (fun _ => rfl) dX12_init_116 (by decide) (by decide) (by decide) ⟨Nat.le_of_ble_eq_true rfl, Nat.le_of_ble_eq_true rfl⟩ (fun H hG => ?_)
  refine W.widen (k := 13) (n := 5444) (Nat.le_of_ble_eq_true rfl) (Nat.le_of_ble_eq_true rfl) ?_
  refine g_putF (fs' := [.ref (b + 81), .ref (b + 82), .ref (b + 83), .int 0, .int 0, .int (-1), .int 0, .int 0, .int 0, .int 0, .int 0, .ref (b + 84), .ref (b + 85), .ref (b + 86), .ref (b + 87), .ref (b + 88), .ref (b + 89), .ref (b + 90), .ref (b + 91), .ref (b + 92), .int 0, .int 0, .int 0, .int 0, .int 0, .int 0, .int 0, .int 0, .ref (b + 93), .null, .null, .int 0, .long 0, .null, .null, .null, .null, .null, .int 0, .null, .int 0, .int 0, .int 0, .int 0, .int 0, .int 0, .int 0, .int 0, .int 0, .int 0, .int 0, .int 0]) S hG (hin rfl) 80 28 rfl cpX12 wm_1701 dX12_init_118 rfl (by omega) (by decide) (Nat.le_of_ble_eq_true rfl) rfl rfl rfl rfl (fun H locs hG => ?_)
  refine lv_aload_n hx hb dX12_init_121 rfl (lv_at hl 0 rfl) ?_
  refine lv_sipush (v := 512) hx hb dX12_init_122 (by decide) ?_
  refine g_newa (atype := .int) (ty := .int) (N := 512) (a0 := (512, .inl (fun _ => 0))) S hG (by omega) 1 rfl rfl (fun h => h) wm_306 (fun _ => rfl) dX12_init_125 (by decide) (by decide) (by decide) ⟨Nat.le_of_ble_eq_true rfl, Nat.le_of_ble_eq_true rfl⟩ (fun H hG => ?_)
  refine W.widen (k := 14) (n := 5956) (Nat.le_of_ble_eq_true rfl) (Nat.le_of_ble_eq_true rfl) ?_
  refine g_putF (fs' := [.ref (b + 81), .ref (b + 82), .ref (b + 83), .int 0, .int 0, .int (-1), .int 0, .int 0, .int 0, .int 0, .int 0, .ref (b + 84), .ref (b + 85), .ref (b + 86), .ref (b + 87), .ref (b + 88), .ref (b + 89), .ref (b + 90), .ref (b + 91), .ref (b + 92), .int 0, .int 0, .int 0, .int 0, .int 0, .int 0, .int 0, .int 0, .ref (b + 93), .ref (b + 94), .null, .int 0, .long 0, .null, .null, .null, .null, .null, .int 0, .null, .int 0, .int 0, .int 0, .int 0, .int 0, .int 0, .int 0, .int 0, .int 0, .int 0, .int 0, .int 0]) S hG (hin rfl) 80 29 rfl cpX12 wm_1702 dX12_init_127 rfl (by omega) (by decide) (Nat.le_of_ble_eq_true rfl) rfl rfl rfl rfl (fun H locs hG => ?_)
  refine lv_aload_n hx hb dX12_init_130 rfl (lv_at hl 0 rfl) ?_
  refine lv_sipush (v := 512) hx hb dX12_init_131 (by decide) ?_
  refine g_newa (atype := .int) (ty := .int) (N := 512) (a0 := (512, .inl (fun _ => 0))) S hG (by omega) 1 rfl rfl (fun h => h) wm_306 (fun _ => rfl) dX12_init_134 (by decide) (by decide) (by decide) ⟨Nat.le_of_ble_eq_true rfl, Nat.le_of_ble_eq_true rfl⟩ (fun H hG => ?_)
  refine W.widen (k := 15) (n := 6468) (Nat.le_of_ble_eq_true rfl) (Nat.le_of_ble_eq_true rfl) ?_
  refine g_putF (fs' := [.ref (b + 81), .ref (b + 82), .ref (b + 83), .int 0, .int 0, .int (-1), .int 0, .int 0, .int 0, .int 0, .int 0, .ref (b + 84), .ref (b + 85), .ref (b + 86), .ref (b + 87), .ref (b + 88), .ref (b + 89), .ref (b + 90), .ref (b + 91), .ref (b + 92), .int 0, .int 0, .int 0, .int 0, .int 0, .int 0, .int 0, .int 0, .ref (b + 93), .ref (b + 94), .ref (b + 95), .int 0, .long 0, .null, .null, .null, .null, .null, .int 0, .null, .int 0, .int 0, .int 0, .int 0, .int 0, .int 0, .int 0, .int 0, .int 0, .int 0, .int 0, .int 0]) S hG (hin rfl) 80 30 rfl cpX12 wm_1703 dX12_init_136 rfl (by omega) (by decide) (Nat.le_of_ble_eq_true rfl) rfl rfl rfl rfl (fun H locs hG => ?_)
  refine lv_aload_n hx hb dX12_init_139 rfl (lv_at hl 0 rfl) ?_
  refine lv_sipush (v := 1024) hx hb dX12_init_140 (by decide) ?_
  refine g_newa (atype := .int) (ty := .int) (N := 1024) (a0 := (1024, .inl (fun _ => 0))) S hG (by omega) 1 rfl rfl (fun h => h) wm_306 (fun _ => rfl) dX12_init_143 (by decide) (by decide) (by decide) ⟨Nat.le_of_ble_eq_true rfl, Nat.le_of_ble_eq_true rfl⟩ (fun H hG => ?_)
  refine W.widen (k := 16) (n := 7492) (Nat.le_of_ble_eq_true rfl) (Nat.le_of_ble_eq_true rfl) ?_
  refine g_putF (fs' := [.ref (b + 81), .ref (b + 82), .ref (b + 83), .int 0, .int 0, .int (-1), .int 0, .int 0, .int 0, .int 0, .int 0, .ref (b + 84), .ref (b + 85), .ref (b + 86), .ref (b + 87), .ref (b + 88), .ref (b + 89), .ref (b + 90), .ref (b + 91), .ref (b + 92), .int 0, .int 0, .int 0, .int 0, .int 0, .int 0, .int 0, .int 0, .ref (b + 93), .ref (b + 94), .ref (b + 95), .int 0, .long 0, .ref (b + 96), .null, .null, .null, .null, .int 0, .null, .int 0, .int 0, .int 0, .int 0, .int 0, .int 0, .int 0, .int 0, .int 0, .int 0, .int 0, .int 0]) S hG (hin rfl) 80 33 rfl cpX12 wm_1706 dX12_init_145 rfl (by omega) (by decide) (Nat.le_of_ble_eq_true rfl) rfl rfl rfl rfl (fun H locs hG => ?_)
  refine lv_aload_n hx hb dX12_init_148 rfl (lv_at hl 0 rfl) ?_
  refine lv_sipush (v := 1024) hx hb dX12_init_149 (by decide) ?_
  refine g_newa (atype := .int) (ty := .int) (N := 1024) (a0 := (1024, .inl (fun _ => 0))) S hG (by omega) 1 rfl rfl (fun h => h) wm_306 (fun _ => rfl) dX12_init_152 (by decide) (by decide) (by decide) ⟨Nat.le_of_ble_eq_true rfl, Nat.le_of_ble_eq_true rfl⟩ (fun H hG => ?_)
  refine W.widen (k := 17) (n := 8516) (Nat.le_of_ble_eq_true rfl) (Nat.le_of_ble_eq_true rfl) ?_
  refine g_putF (fs' := [.ref (b + 81), .ref (b + 82), .ref (b + 83), .int 0, .int 0, .int (-1), .int 0, .int 0, .int 0, .int 0, .int 0, .ref (b + 84), .ref (b + 85), .ref (b + 86), .ref (b + 87), .ref (b + 88), .ref (b + 89), .ref (b + 90), .ref (b + 91), .ref (b + 92), .int 0, .int 0, .int 0, .int 0, .int 0, .int 0, .int 0, .int 0, .ref (b + 93), .ref (b + 94), .ref (b + 95), .int 0, .long 0, .ref (b + 96), .ref (b + 97), .null, .null, .null, .int 0, .null, .int 0, .int 0, .int 0, .int 0, .int 0, .int 0, .int 0, .int 0, .int 0, .int 0, .int 0, .int 0]) S hG (hin rfl) 80 34 rfl cpX12 wm_1707 dX12_init_154 rfl (by omega) (by decide) (Nat.le_of_ble_eq_true rfl) rfl rfl rfl rfl (fun H locs hG => ?_)
  refine lv_aload_n hx hb dX12_init_157 rfl (lv_at hl 0 rfl) ?_
  refine lv_sipush (v := 1024) hx hb dX12_init_158 (by decide) ?_
  refine g_newa (atype := .int) (ty := .int) (N := 1024) (a0 := (1024, .inl (fun _ => 0))) S hG (by omega) 1 rfl rfl (fun h => h) wm_306 (fun _ => rfl) dX12_init_161 (by decide) (by decide) (by decide) ⟨Nat.le_of_ble_eq_true rfl, Nat.le_of_ble_eq_true rfl⟩ (fun H hG => ?_)
  refine W.widen (k := 18) (n := 9540) (Nat.le_of_ble_eq_true rfl) (Nat.le_of_ble_eq_true rfl) ?_
  refine g_putF (fs' := [.ref (b + 81), .ref (b + 82), .ref (b + 83), .int 0, .int 0, .int (-1), .int 0, .int 0, .int 0, .int 0, .int 0, .ref (b + 84), .ref (b + 85), .ref (b + 86), .ref (b + 87), .ref (b + 88), .ref (b + 89), .ref (b + 90), .ref (b + 91), .ref (b + 92), .int 0, .int 0, .int 0, .int 0, .int 0, .int 0, .int 0, .int 0, .ref (b + 93), .ref (b + 94), .ref (b + 95), .int 0, .long 0, .ref (b + 96), .ref (b + 97), .ref (b + 98), .null, .null, .int 0, .null, .int 0, .int 0, .int 0, .int 0, .int 0, .int 0, .int 0, .int 0, .int 0, .int 0, .int 0, .int 0]) S hG (hin rfl) 80 35 rfl cpX12 wm_1708 dX12_init_163 rfl (by omega) (by decide) (Nat.le_of_ble_eq_true rfl) rfl rfl rfl rfl (fun H locs hG => ?_)
  refine lv_aload_n hx hb dX12_init_166 rfl (lv_at hl 0 rfl) ?_
  refine lv_sipush (v := 1024) hx hb dX12_init_167 (by decide) ?_
  refine g_newa (atype := .int) (ty := .int) (N := 1024) (a0 := (1024, .inl (fun _ => 0))) S hG (by omega) 1 rfl rfl (fun h => h) wm_306 (fun _ => rfl) dX12_init_170 (by decide) (by decide) (by decide) ⟨Nat.le_of_ble_eq_true rfl, Nat.le_of_ble_eq_true rfl⟩ (fun H hG => ?_)
  refine W.widen (k := 19) (n := 10564) (Nat.le_of_ble_eq_true rfl) (Nat.le_of_ble_eq_true rfl) ?_
  refine g_putF (fs' := [.ref (b + 81), .ref (b + 82), .ref (b + 83), .int 0, .int 0, .int (-1), .int 0, .int 0, .int 0, .int 0, .int 0, .ref (b + 84), .ref (b + 85), .ref (b + 86), .ref (b + 87), .ref (b + 88), .ref (b + 89), .ref (b + 90), .ref (b + 91), .ref (b + 92), .int 0, .int 0, .int 0, .int 0, .int 0, .int 0, .int 0, .int 0, .ref (b + 93), .ref (b + 94), .ref (b + 95), .int 0, .long 0, .ref (b + 96), .ref (b + 97), .ref (b + 98), .ref (b + 99), .null, .int 0, .null, .int 0, .int 0, .int 0, .int 0, .int 0, .int 0, .int 0, .int 0, .int 0, .int 0, .int 0, .int 0]) S hG (hin rfl) 80 36 rfl cpX12 wm_1709 dX12_init_172 rfl (by omega) (by decide) (Nat.le_of_ble_eq_true rfl) rfl rfl rfl rfl (fun H locs hG => ?_)
  refine lv_aload_n hx hb dX12_init_175 rfl (lv_at hl 0 rfl) ?_
  refine lv_sipush (v := 1024) hx hb dX12_init_176 (by decide) ?_
  refine g_newa (atype := .int) (ty := .int) (N := 1024) (a0 := (1024, .inl (fun _ => 0))) S hG (by omega) 1 rfl rfl (fun h => h) wm_306 (fun _ => rfl) dX12_init_179 (by decide) (by decide) (by decide) ⟨Nat.le_of_ble_eq_true rfl, Nat.le_of_ble_eq_true rfl⟩ (fun H hG => ?_)
  refine W.widen (k := 20) (n := 11588) (Nat.le_of_ble_eq_true rfl) (Nat.le_of_ble_eq_true rfl) ?_
  refine g_putF (fs' := [.ref (b + 81), .ref (b + 82), .ref (b + 83), .int 0, .int 0, .int (-1), .int 0, .int 0, .int 0, .int 0, .int 0, .ref (b + 84), .ref (b + 85), .ref (b + 86), .ref (b + 87), .ref (b + 88), .ref (b + 89), .ref (b + 90), .ref (b + 91), .ref (b + 92), .int 0, .int 0, .int 0, .int 0, .int 0, .int 0, .int 0, .int 0, .ref (b + 93), .ref (b + 94), .ref (b + 95), .int 0, .long 0, .ref (b + 96), .ref (b + 97), .ref (b + 98), .ref (b + 99), .ref (b + 100), .int 0, .null, .int 0, .int 0, .int 0, .int 0, .int 0, .int 0, .int 0, .int 0, .int 0, .int 0, .int 0, .int 0]) S hG (hin rfl) 80 37 rfl cpX12 wm_1710 dX12_init_181 rfl (by omega) (by decide) (Nat.le_of_ble_eq_true rfl) rfl rfl rfl rfl (fun H locs hG => ?_)
  refine lv_aload_n hx hb dX12_init_184 rfl (lv_at hl 0 rfl) ?_
  refine lv_bipush (v := 40) hx hb dX12_init_185 (by decide) ?_
  refine g_newa (atype := .int) (ty := .int) (N := 40) (a0 := (40, .inl (fun _ => 0))) S hG (by omega) 1 rfl rfl (fun h => h) wm_306 (fun _ => rfl) dX12_init_187 (by decide) (by decide) (by decide) ⟨Nat.le_of_ble_eq_true rfl, Nat.le_of_ble_eq_true rfl⟩ (fun H hG => ?_)
  refine W.widen (k := 21) (n := 11628) (Nat.le_of_ble_eq_true rfl) (Nat.le_of_ble_eq_true rfl) ?_
  refine g_putF (fs' := [.ref (b + 81), .ref (b + 82), .ref (b + 83), .int 0, .int 0, .int (-1), .int 0, .int 0, .int 0, .int 0, .int 0, .ref (b + 84), .ref (b + 85), .ref (b + 86), .ref (b + 87), .ref (b + 88), .ref (b + 89), .ref (b + 90), .ref (b + 91), .ref (b + 92), .int 0, .int 0, .int 0, .int 0, .int 0, .int 0, .int 0, .int 0, .ref (b + 93), .ref (b + 94), .ref (b + 95), .int 0, .long 0, .ref (b + 96), .ref (b + 97), .ref (b + 98), .ref (b + 99), .ref (b + 100), .int 0, .ref (b + 101), .int 0, .int 0, .int 0, .int 0, .int 0, .int 0, .int 0, .int 0, .int 0, .int 0, .int 0, .int 0]) S hG (hin rfl) 80 39 rfl cpX12 wm_1712 dX12_init_189 rfl (by omega) (by decide) (Nat.le_of_ble_eq_true rfl) rfl rfl rfl rfl (fun H locs hG => ?_)
  refine lv_aload_n hx hb dX12_init_192 rfl (lv_at hl 0 rfl) ?_
  refine lv_iconst (v := (-1)) hx hb dX12_init_193 (by decide) ?_
  refine g_put (fs' := [.ref (b + 81), .ref (b + 82), .ref (b + 83), .int 0, .int 0, .int (-1), .int 0, .int 0, .int 0, .int 0, .int 0, .ref (b + 84), .ref (b + 85), .ref (b + 86), .ref (b + 87), .ref (b + 88), .ref (b + 89), .ref (b + 90), .ref (b + 91), .ref (b + 92), .int 0, .int 0, .int 0, .int 0, .int 0, .int 0, .int 0, .int 0, .ref (b + 93), .ref (b + 94), .ref (b + 95), .int 0, .long 0, .ref (b + 96), .ref (b + 97), .ref (b + 98), .ref (b + 99), .ref (b + 100), .int 0, .ref (b + 101), .int 0, .int 0, .int (-1), .int 0, .int 0, .int 0, .int 0, .int 0, .int 0, .int 0, .int 0, .int 0]) S hG 80 42 rfl cpX12 wm_1715 dX12_init_194 rfl (by omega) (by decide) (Nat.le_of_ble_eq_true rfl) rfl rfl rfl (fun H locs hG => ?_)
  refine lv_aload_n hx hb dX12_init_197 rfl (lv_at hl 0 rfl) ?_
  refine lv_iconst (v := (-1)) hx hb dX12_init_198 (by decide) ?_
  refine g_put (fs' := [.ref (b + 81), .ref (b + 82), .ref (b + 83), .int 0, .int 0, .int (-1), .int 0, .int 0, .int 0, .int 0, .int 0, .ref (b + 84), .ref (b + 85), .ref (b + 86), .ref (b + 87), .ref (b + 88), .ref (b + 89), .ref (b + 90), .ref (b + 91), .ref (b + 92), .int 0, .int 0, .int 0, .int 0, .int 0, .int 0, .int 0, .int 0, .ref (b + 93), .ref (b + 94), .ref (b + 95), .int 0, .long 0, .ref (b + 96), .ref (b + 97), .ref (b + 98), .ref (b + 99), .ref (b + 100), .int 0, .ref (b + 101), .int 0, .int 0, .int (-1), .int (-1), .int 0, .int 0, .int 0, .int 0, .int 0, .int 0, .int 0, .int 0]) S hG 80 43 rfl cpX12 wm_1716 dX12_init_199 rfl (by omega) (by decide) (Nat.le_of_ble_eq_true rfl) rfl rfl rfl (fun H locs hG => ?_)
  refine lv_aload_n hx hb dX12_init_202 rfl (lv_at hl 0 rfl) ?_
  refine g_vv (As := []) (rest := []) S hG (by omega) (qX12_clears l (by omega) rfl rfl rfl) wV_12_91 rfl cpX12 (by omega) dX12_init_203 rfl hl.1 (ar := 0) (by decide +kernel) rfl ⟨Nat.le_of_ble_eq_true rfl, Nat.le_of_ble_eq_true rfl, Nat.le_of_ble_eq_true rfl, Nat.le_of_ble_eq_true rfl⟩ (Nat.le_of_ble_eq_true rfl) (fun u_E_1 H locs hp_2 hG => ?_)
  obtain ⟨n_E_1, E_1⟩ := u_E_1
  dsimp only at hp_2 hG
  obtain ⟨rfl, rfl⟩ := hp_2
  exact g_vret S hr hlk hG (by omega) dX12_init_206 ⟨Nat.le_of_ble_eq_true rfl, Nat.le_of_ble_eq_true rfl⟩ ⟨rfl, fun j h1 h2 => (upE_n (by omega)).trans ((upE_n (by omega)).trans ((upE_n (by omega)).trans ((upE_n (by omega)).trans ((upE_n (by omega)).trans ((upE_n (by omega)).trans ((upE_n (by omega)).trans ((upE_n (by omega)).trans ((upE_n (by omega)).trans ((upE_n (by omega)).trans ((upE_n (by omega)).trans ((upE_n (by omega)).trans ((upE_n (by omega)).trans ((upE_n (by omega)).trans ((upE_n (by omega)).trans ((upE_n (by omega)).trans ((upE_n (by omega)).trans ((upE_n (by omega)).trans ((upE_n (by omega)).trans ((upE_n (by omega)).trans ((upE_n (by omega)).trans ((upE_n (by omega)).trans ((upE_n (by omega)).trans ((upE_n (by omega)).trans ((upE_n (by omega)).trans ((upE_n (by omega)).trans ((upE_n (by omega)).trans ((upE_n (by omega)).trans ((upE_n (by omega)).trans ((upE_n (by omega)).trans ((upE_n (by omega)).trans ((upE_n (by omega)).trans ((upE_n (by omega)).trans ((upE_n (by omega)).trans ((upE_n (by omega)).trans ((upE_n (by omega)).trans ((upE_n (by omega)).trans ((upE_n (by omega)).trans ((upE_n (by omega)).trans ((upE_n (by omega)).trans ((upE_n (by omega)).trans ((upE_n (by omega)).trans ((upE_n (by omega)).trans ((upE_n (by omega)).trans ((upE_n (by omega)).trans ((upE_n (by omega)).trans (rfl)))))))))))))))))))))))))))))))))))))))))))))), rfl, rfl, rfl, rfl, rfl, rfl, rfl, rfl, rfl, rfl, rfl, rfl, rfl, rfl, rfl, rfl, rfl, rfl, rfl, rfl, rfl, rfl⟩
